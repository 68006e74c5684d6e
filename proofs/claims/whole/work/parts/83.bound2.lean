/-! in the order in which PLACES are first come to -/
def jt (P : sp_P) : Nat → List Nat
  | 0 => []
  | q + 1 => if sp_jmp (pg_op P q) then pg_b P q :: jt P q else jt P q
def et (P : sp_P) : Nat → List Nat
  | 0 => []
  | h + 1 => if (pg_hd P h).1 < pg_n P then (pg_hd P h).2.2.1 :: et P h else et P h
def it (P : sp_P) : Nat → List Nat
  | 0 => []
  | h + 1 => if (pg_hd P h).1 < pg_n P then it P h else (pg_hd P h).2.2.1 :: it P h
theorem it_et (P : sp_P) : ∀ h, (it P h).length + (et P h).length = h
  | 0 => rfl
  | h + 1 => by
    have := it_et P h
    unfold it et
    split <;> simp only [List.length_cons] <;> omega
theorem jt_len (P : sp_P) : ∀ n, (jt P n).length = sm (fun q => js_o (pg_op P q)) n
  | 0 => rfl
  | n + 1 => by
    have := jt_len P n
    unfold jt sm
    by_cases e : sp_jmp (pg_op P n) = true
    · rw [if_pos e]
      have hj : js_o (pg_op P n) = 1 := by
        unfold sp_jmp at e
        simp only [Bool.and_eq_true, decide_eq_true_eq] at e
        unfold js_o
        rw [if_pos e]
      rw [List.length_cons, hj]
      omega
    · rw [if_neg e]
      have hj : js_o (pg_op P n) = 0 := by
        unfold js_o
        rw [if_neg]
        intro q
        apply e
        unfold sp_jmp
        rw [Bool.and_eq_true, decide_eq_true_eq, decide_eq_true_eq]
        exact q
      omega
theorem jt_mem {P : sp_P} : ∀ {n q : Nat}, q < n → sp_jmp (pg_op P q) = true → pg_b P q ∈ jt P n
  | 0, _, h, _ => absurd h (by omega)
  | n + 1, q, h, hj => by
    unfold jt
    by_cases e : q = n
    · subst e
      rw [if_pos hj]
      exact List.mem_cons_self
    · have := jt_mem (n := n) (q := q) (by omega) hj
      split
      · exact List.mem_cons_of_mem _ this
      · exact this
theorem et_mem {P : sp_P} : ∀ {n h : Nat}, h < n → (pg_hd P h).1 < pg_n P → (pg_hd P h).2.2.1 ∈ et P n
  | 0, _, h, _ => absurd h (by omega)
  | n + 1, q, h, hj => by
    unfold et
    by_cases e : q = n
    · subst e
      rw [if_pos hj]
      exact List.mem_cons_self
    · have := et_mem (n := n) (h := q) (by omega) hj
      split
      · exact List.mem_cons_of_mem _ this
      · exact this
theorem it_mem {P : sp_P} : ∀ {n h : Nat}, h < n → ¬ (pg_hd P h).1 < pg_n P → (pg_hd P h).2.2.1 ∈ it P n
  | 0, _, h, _ => absurd h (by omega)
  | n + 1, q, h, hj => by
    unfold it
    by_cases e : q = n
    · subst e
      rw [if_neg hj]
      exact List.mem_cons_self
    · have := it_mem (n := n) (h := q) (by omega) hj
      split
      · exact this
      · exact List.mem_cons_of_mem _ this
theorem et_ex {P : sp_P} : ∀ {n p : Nat}, p ∈ et P n → ∃ h, h < n ∧ (pg_hd P h).1 < pg_n P ∧ (pg_hd P h).2.2.1 = p
  | 0, _, h => by cases h
  | n + 1, p, hm => by
    unfold et at hm
    split at hm
    · next e =>
      rcases List.mem_cons.mp hm with q | q
      · exact ⟨n, by omega, e, q.symm⟩
      · obtain ⟨h, a, b⟩ := et_ex q
        exact ⟨h, by omega, b⟩
    · obtain ⟨h, a, b⟩ := et_ex hm
      exact ⟨h, by omega, b⟩
/-- numbers added up over a list -/
def sl_ (f : Nat → Nat) : List Nat → Nat
  | [] => 0
  | p :: R => f p + sl_ f R
theorem sl_c (f : Nat → Nat) (p : Nat) (R : List Nat) : sl_ f (p :: R) = f p + sl_ f R := rfl
def k_h (P : sp_P) (p : Nat) : Nat := if p ∈ et P (pg_han P).length then 1 else 0
def k_p (P : sp_P) (p : Nat) : Nat := ps_o (pg_op P p)
def k_s (P : sp_P) (p : Nat) : Nat := ss_o (pg_op P p)
/-- a FRAME that may come new to the PLACE p, behind those of R -/
def fb (P : sp_P) (R : List Nat) (p : Nat) (F : sp_F) : Prop := nt F.1 ≤ 5 + sl_ (k_s P) R ∧ F.2.1.length + nt F.1 ≤ 5 + sl_ (k_h P) (p :: R) + sl_ (k_p P) R ∧ F.2.1.length ≤ 1 + sl_ (k_p P) R
def rk (P : sp_P) (A : af_A) : List Nat → Prop
  | [] => True
  | p :: R => (∃ F, A p = some F ∧ fb P R p F) ∧ rk P A R
theorem rk.up {P : sp_P} {A B : af_A} (h : af_le P A B) : ∀ {R : List Nat}, rk P A R → rk P B R
  | [], _ => trivial
  | p :: R, hr => by
    obtain ⟨⟨F, f1, f2, f3, f4⟩, hr⟩ := hr
    obtain ⟨G, g1, g2⟩ := h p F f1
    have h1 := nt_up g2.1
    have h2 := g2.2.1.len
    exact ⟨⟨G, g1, by omega, by omega, by omega⟩, rk.up h hr⟩
/-- what one of them leaves may come new to any PLACE behind them -/
theorem rk.b {P : sp_P} {A : af_A} : ∀ {R : List Nat} {q : Nat} {F : sp_F}, rk P A R → q ∈ R → A q = some F → nt F.1 + k_s P q ≤ 5 + sl_ (k_s P) R ∧ F.2.1.length + nt F.1 + k_p P q ≤ 5 + sl_ (k_h P) R + sl_ (k_p P) R ∧ F.2.1.length + k_p P q ≤ 1 + sl_ (k_p P) R
  | [], _, _, _, h, _ => by cases h
  | p :: R, q, F, hr, hq, hF => by
    obtain ⟨⟨G, g1, g2, g3, g4⟩, hr⟩ := hr
    rw [sl_c, sl_c, sl_c]
    by_cases e : q = p
    · subst e
      rw [hF] at g1
      cases g1
      rw [sl_c] at g3
      omega
    · rcases List.mem_cons.mp hq with q1 | q1
      · exact absurd q1 e
      · have := rk.b hr q1 hF
        omega
/-- why a PLACE is come to -/
def wy (P : sp_P) (p : Nat) : Prop := p = 0 ∨ p ∈ jt P (pg_n P) ∨ (∃ h, h < (pg_han P).length ∧ (pg_hd P h).2.2.1 = p) ∨ (0 < p ∧ sp_end (pg_op P (p - 1)) = false)
def rk_i (P : sp_P) (A : af_A) : Prop := ∃ R : List Nat, R.Nodup ∧ (∀ p, (A p).isSome = true ↔ p ∈ R) ∧ rk P A R ∧ ∀ p ∈ R, wy P p
theorem rk_arr {P : sp_P} (hs : sp_sup (pg_sup P)) {A A' : af_A} {q : Nat} {F : sp_F} {R : List Nat} (hA : af_ok P A) (hF : ok_8 F) (hn : R.Nodup) (hR : ∀ p, (A p).isSome = true ↔ p ∈ R) (hr : rk P A R) (hw : ∀ p ∈ R, wy P p) (hfb : fb P R q F) (hwy : wy P q) (h : af_arr P A q F = some A') : ∃ R', (R' = R ∨ R' = q :: R) ∧ R'.Nodup ∧ (∀ p, (A' p).isSome = true ↔ p ∈ R') ∧ rk P A' R' ∧ ∀ p ∈ R', wy P p := by
  have s1 := af_arr_s hs hA hF h
  unfold af_arr at h
  split at h
  · next hq =>
    split at h
    · next e =>
      cases h
      have hqR : q ∉ R := fun c => by
        have := (hR q).mpr c
        rw [e] at this
        cases this
      refine ⟨q :: R, Or.inr rfl, List.nodup_cons.mpr ⟨hqR, hn⟩, ?_, ⟨⟨F, af_up_e A q F, hfb⟩, hr.up s1.2.1⟩, ?_⟩
      · intro p
        by_cases ep : p = q
        · subst ep
          rw [af_up_e]
          simp
        · rw [af_up_n A F ep, hR p, List.mem_cons]
          simp [ep]
      · intro p hp
        rcases List.mem_cons.mp hp with rfl | hp
        · exact hwy
        · exact hw p hp
    · next G e =>
      rw [Option.map_eq_some_iff] at h
      obtain ⟨H, h1, rfl⟩ := h
      refine ⟨R, Or.inl rfl, hn, ?_, hr.up s1.2.1, hw⟩
      intro p
      by_cases ep : p = q
      · subst ep
        rw [af_up_e, ← hR p, e]
        simp
      · rw [af_up_n A H ep]
        exact hR p
  · cases h
theorem fb.c {P : sp_P} {R R' : List Nat} {p r : Nat} {F : sp_F} (h : fb P R p F) (hr : R' = R ∨ R' = r :: R) : fb P R' p F := by
  rcases hr with rfl | rfl
  · exact h
  · unfold fb at h ⊢
    rw [sl_c] at h
    rw [sl_c, sl_c, sl_c, sl_c]
    omega
theorem rk_hs {P : sp_P} (hP : wf_P P) {p : Nat} (hp : p < pg_n P) : ∀ (k h : Nat) (A A' : af_A), h + k = (pg_han P).length → af_ok P A → rk_i P A → af_hs P p k h A = some A' → rk_i P A' := by
  intro k
  induction k with
  | zero =>
    intro h A A' hk hA hi he
    cases he
    exact hi
  | succ k ih =>
    intro h A A' hk hA hi he
    unfold af_hs at he
    split at he
    · next hg =>
      cases hF : A p with
      | none => rw [hF] at he; cases he
      | some F =>
        rw [hF] at he
        dsimp only at he
        rw [Option.bind_eq_some_iff] at he
        obtain ⟨B, b1, b2⟩ := he
        have hF8 := af_hf_ok hP (h := h) (hA p F hF).2
        have s1 := af_arr_s hP.1 hA hF8 b1
        obtain ⟨R, r1, r2, r3, r4⟩ := hi
        have hm : p ∈ R := (r2 p).mp (by rw [hF]; rfl)
        have hb := rk.b r3 hm hF
        have he1 : k_h P (pg_hd P h).2.2.1 = 1 := by
          unfold k_h
          rw [if_pos (et_mem (by omega) (by omega))]
        have hfb : fb P R (pg_hd P h).2.2.1 (af_hf P h F) := by
          refine ⟨?_, ?_, ?_⟩
          · show nt F.1 ≤ _
            omega
          · show 1 + nt F.1 ≤ _
            rw [sl_c]
            omega
          · show 1 ≤ _
            omega
        obtain ⟨R', q1, q2, q3, q4, q5⟩ := rk_arr hP.1 hA hF8 r1 r2 r3 r4 hfb (Or.inr (Or.inr (Or.inl ⟨h, by omega, rfl⟩))) b1
        exact ih (h + 1) B A' (by omega) s1.1 ⟨R', q2, q3, q4, q5⟩ b2
    · exact ih (h + 1) A A' (by omega) hA hi he
theorem rk_lv {P : sp_P} (hP : wf_P P) {p : Nat} (hp : p < pg_n P) {A A' : af_A} (hA : af_ok P A) (hi : rk_i P A) (he : af_lv P p A = some A') : rk_i P A' := by
  unfold af_lv at he
  rw [Option.bind_eq_some_iff] at he
  obtain ⟨F, hF, he⟩ := he
  rw [Option.bind_eq_some_iff] at he
  obtain ⟨F', hF', he⟩ := he
  rw [Option.bind_eq_some_iff] at he
  obtain ⟨B, b1, b2⟩ := he
  have hF8 := hA p F hF
  have hok := ok_8_stp hP hF8.1 hF8.2 hF'
  obtain ⟨R, r1, r2, r3, r4⟩ := hi
  have hm : p ∈ R := (r2 p).mp (by rw [hF]; rfl)
  have hb := rk.b r3 hm hF
  have hn := nt_stp hF'
  have hfb : ∀ q, fb P R q F' := by
    intro q
    have e1 : k_s P p = ss_o (pg_op P p) := rfl
    have e2 : k_p P p = ps_o (pg_op P p) := rfl
    refine ⟨by omega, ?_, by omega⟩
    rw [sl_c]
    omega
  have hB : ∃ R' r, (R' = R ∨ R' = r :: R) ∧ R'.Nodup ∧ (∀ p, (B p).isSome = true ↔ p ∈ R') ∧ rk P B R' ∧ (∀ p ∈ R', wy P p) ∧ af_ok P B := by
    split at b1
    · next ej =>
      obtain ⟨R', q1, q2, q3, q4, q5⟩ := rk_arr hP.1 hA hok r1 r2 r3 r4 (hfb _) (Or.inr (Or.inl (jt_mem hp ej))) b1
      exact ⟨R', _, q1, q2, q3, q4, q5, (af_arr_s hP.1 hA hok b1).1⟩
    · cases b1
      exact ⟨R, 0, Or.inl rfl, r1, r2, r3, r4, hA⟩
  obtain ⟨R', r, q1, q2, q3, q4, q5, q6⟩ := hB
  split at b2
  · cases b2
    exact ⟨R', q2, q3, q4, q5⟩
  · next ee =>
    obtain ⟨R2, u1, u2, u3, u4, u5⟩ := rk_arr hP.1 q6 hok q2 q3 q4 q5 ((hfb (p + 1)).c q1) (Or.inr (Or.inr (Or.inr ⟨by omega, by simpa using ee⟩))) b2
    exact ⟨R2, u2, u3, u4, u5⟩
theorem rk_rd {P : sp_P} (hP : wf_P P) : ∀ (k p : Nat) (A B : af_A), p + k = pg_n P → af_inv P A → rk_i P A → ar_rd P k p A = some B → rk_i P B := by
  intro k
  induction k with
  | zero =>
    intro p A B hk hA hi h
    cases h
    exact hi
  | succ k ih =>
    intro p A B hk hA hi h
    unfold ar_rd at h
    split at h
    · next hsm =>
      rw [Option.bind_eq_some_iff] at h
      obtain ⟨C, c1, c2⟩ := h
      obtain ⟨i1, i2, i3⟩ := ar_pr_s hP hA hsm c1
      unfold ar_pr at c1
      rw [Option.bind_eq_some_iff] at c1
      obtain ⟨D, d1, d2⟩ := c1
      obtain ⟨j1, j2, j3⟩ := af_lv_s hP hA d1
      exact ih (p + 1) C B (by omega) i1 (rk_hs hP (by omega) _ 0 D C (by omega) j1.1 (rk_lv hP (by omega) hA.1 hi d1) d2) c2
    · exact ih (p + 1) A B (by omega) hA hi h
theorem rk_go {P : sp_P} (hP : wf_P P) : ∀ (k : Nat) (A B : af_A), af_inv P A → rk_i P A → ar_go P k A = some B → rk_i P B := by
  intro k
  induction k with
  | zero =>
    intro A B hA hi h
    cases h
    exact hi
  | succ k ih =>
    intro A B hA hi h
    unfold ar_go at h
    rw [Option.bind_eq_some_iff] at h
    obtain ⟨C, c1, c2⟩ := h
    have hC := rk_rd hP _ 0 A C (by omega) hA hi c1
    obtain ⟨i1, i2, i3⟩ := ar_rd_s hP _ 0 A C (by omega) hA c1
    split at c2
    · exact ih C B i1 hC c2
    · cases c2
      exact hC
theorem nt_zero : ∀ n, nt (List.replicate n 0) = 0
  | 0 => rfl
  | n + 1 => by
    rw [List.replicate_succ, nt, nt_zero n]
    rfl
theorem nt_app : ∀ A B : List Nat, nt (A ++ B) = nt A + nt B
  | [], B => by simp [nt]
  | t :: A, B => by
    have := nt_app A B
    simp only [List.cons_append, nt]
    omega
theorem nt_take : ∀ (n : Nat) (A : List Nat), nt (A.take n) ≤ nt A
  | 0, A => by simp [nt]
  | n + 1, [] => by simp [nt]
  | n + 1, t :: A => by
    have := nt_take n A
    simp only [List.take_succ_cons, nt]
    omega
theorem nt_spr : ∀ l : List Nat, nt (sp_spr l) ≤ l.length
  | [] => Nat.le_refl _
  | t :: l => by
    have := nt_spr l
    rw [spr_c]
    split
    · simp only [nt, List.length_cons, if_true]
      split <;> omega
    · simp only [nt, List.length_cons]
      split <;> omega
theorem rk_0 {P : sp_P} (hP : wf_P P) (hn : 0 < pg_n P) : rk_i P (af_0 P) := by
  refine ⟨[0], List.nodup_cons.mpr ⟨List.not_mem_nil, List.nodup_nil⟩, ?_, ⟨⟨sp_fst P, af_up_e _ _ _, ?_, ?_, Nat.zero_le _⟩, trivial⟩, ?_⟩
  · intro p
    unfold af_0
    by_cases e : p = 0
    · subst e
      rw [af_up_e]
      simp
    · rw [af_up_n _ _ e]
      simp [af_z, e]
  · have h1 : nt (sp_fst P).1 ≤ 5 := by
      show nt (List.take 10 _) ≤ 5
      have h2 := nt_take 10 ((sp_hd P ++ sp_spr (pg_arg P)) ++ List.replicate 10 0)
      rw [nt_app, nt_app, nt_zero] at h2
      have h3 := nt_spr (pg_arg P)
      have h4 := hP.2.2.2.1
      have h5 := nt_le (sp_hd P)
      have h6 : (sp_hd P).length ≤ 1 := by
        unfold sp_hd
        split
        · simp
        · split <;> simp
      omega
    exact Nat.le_trans h1 (Nat.le_add_right _ _)
  · have h1 : nt (sp_fst P).1 ≤ 5 := by
      show nt (List.take 10 _) ≤ 5
      have h2 := nt_take 10 ((sp_hd P ++ sp_spr (pg_arg P)) ++ List.replicate 10 0)
      rw [nt_app, nt_app, nt_zero] at h2
      have h3 := nt_spr (pg_arg P)
      have h4 := hP.2.2.2.1
      have h5 := nt_le (sp_hd P)
      have h6 : (sp_hd P).length ≤ 1 := by
        unfold sp_hd
        split
        · simp
        · split <;> simp
      omega
    show 0 + nt (sp_fst P).1 ≤ _
    omega
  · intro p hp
    rw [List.mem_singleton] at hp
    exact Or.inl hp
/-- it holds of THE FLOW's end -/
theorem rk_least {P : sp_P} (hP : wf_P P) {B : af_A} (hB : af_least P B) : rk_i P B := by
  have hn : 0 < pg_n P := hB.1.2.1.1
  obtain ⟨i1, i2, i3⟩ := af_0_s hP hn
  have hub := af_m_ub hP i2.1
  obtain ⟨l1, l2⟩ := ar_go_s hP 10000 (af_0 P) i2 i3 (by omega)
  cases c : ar_go P 10000 (af_0 P) with
  | none => exact absurd hB.1 (l2 c B)
  | some C =>
    rw [hB.u hP.1 (l1 C c)]
    exact rk_go hP 10000 (af_0 P) C i2 (rk_0 hP hn) c
