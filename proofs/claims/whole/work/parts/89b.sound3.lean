/-! the class: are the bytes rows -/
abbrev sp_W : Type := Nat × Nat × sp_F
def sp_rs (P : sp_P) : Nat → List Nat → Nat → List Nat → Option (List sp_W)
  | _, _, _, [] => some []
  | 0, _, _, _ :: _ => none
  | n + 1, X, l, c :: D => (sp_ro c X D).bind fun q => if (sp_at P (l + q.2.2.1)).isSome then (sp_rs P n q.1 (l + q.2.2.1 + 1) q.2.2.2).map fun rs => (l + q.2.2.1, c, rw_F q.1 q.2.1) :: rs else none
def sp_rows (P : sp_P) (B : List Nat) : Option (List sp_W) := sp_rs P 50 (sp_lst (sp_fst P).1) 0 B
/-- the row of a PLACE -/
def sp_rx (P : sp_P) (R : List sp_W) (p : Nat) : Option Nat := if p < pg_n P then R.findIdx? (fun q => q.1 == sp_off P p) else none
def wz : sp_W := (0, 0, ([], [], false))
def rc_R (P : sp_P) (M : zm_M) (R : List sp_W) : Prop := R.length ≤ 50 ∧ M 29 0 8 = nI R.length ∧ (∀ i, i < R.length → M 31 0 i = nI (R.getD i wz).1 ∧ M 32 0 i = nI (R.getD i wz).2.1 ∧ rc_F M (50 + i) (R.getD i wz).2.2 ∧ wf_F (R.getD i wz).2.2) ∧ ∀ p, p < 50 → M 33 0 p = vp (sp_rx P R p)
def fr_ok (M : zm_M) : Prop := ∀ r, r < 50 → ∃ F, rc_F M (50 + r) F
def zo_Z (M M' : zm_M) : Prop := ∀ s i k, ¬ (s = 29 ∧ (k = 8 ∨ k = 10 ∨ k = 11)) → ¬ (22 < s ∧ s < 26 ∧ 50 ≤ i ∧ i < 100) → ¬ ((s = 27 ∨ s = 28) ∧ i = 2) → ¬ (s = 31 ∨ s = 32 ∨ s = 33) → M' s i k = M s i k
theorem zo_Z.rf {M : zm_M} : zo_Z M M := fun _ _ _ _ _ _ _ => rfl
theorem zo_Z.tr {M M1 M2 : zm_M} (h : zo_Z M M1) (h2 : zo_Z M1 M2) : zo_Z M M2 := fun s i k a b c d => (h2 s i k a b c d).trans (h s i k a b c d)
theorem zo_y.Z {r : Nat} {M M' : zm_M} (h : zo_y r M M') (hr : r < 50) : zo_Z M M' := fun s i k a b c d => h s i k (by omega) (by omega) (by omega) (by omega)
theorem zo_Z.up {s0 k0 : Nat} {x : Int32} {M : zm_M} (h : (s0 = 29 ∧ (k0 = 8 ∨ k0 = 10 ∨ k0 = 11)) ∨ s0 = 31 ∨ s0 = 32 ∨ s0 = 33) : zo_Z M (zm_up M s0 0 k0 x) := by
  intro s i k a b c d
  by_cases e : s = s0
  · subst e
    rw [zu_k (by omega)]
  · rw [zu_s e]
theorem zo_Z.P {M M' : zm_M} {P : sp_P} (h : zo_Z M M') (hP : rc_P P M) : rc_P P M' := hP.kept fun s hs => by
  funext i k
  exact h s i k (by omega) (by omega) (by omega) (by omega)
theorem zo_Z.W {M M' : zm_M} {B : List Nat} (h : zo_Z M M') (hB : rc_W M 0 B) : rc_W M' 0 B := hB.kept (funext fun k => h 15 0 k (by omega) (by omega) (by omega) (by omega)) (funext fun k => h 16 0 k (by omega) (by omega) (by omega) (by omega))
theorem sp_off_m {P : sp_P} : ∀ {q p : Nat}, p < q → q ≤ pg_n P → sp_off P p < sp_off P q
  | 0, _, h, _ => absurd h (by omega)
  | q + 1, p, h, hq => by
    have h1 := sp_off_s (P := P) (k := q) (by omega)
    have h2 := sp_len_le (pg_op P q)
    by_cases e : p = q
    · subst e
      omega
    · have := sp_off_m (P := P) (q := q) (p := p) (by omega) (by omega)
      omega
theorem sp_at_off {P : sp_P} {p : Nat} (hp : p < pg_n P) : sp_at P (sp_off P p) = some p := by
  cases h : sp_at P (sp_off P p) with
  | none =>
    unfold sp_at at h
    rw [List.find?_eq_none] at h
    have := h p (List.mem_range.mpr hp)
    simp at this
  | some q =>
    obtain ⟨h1, h2⟩ := sp_at_some h
    rcases Nat.lt_trichotomy p q with e | e | e
    · have := sp_off_m (P := P) e (by omega)
      omega
    · rw [e]
    · have := sp_off_m (P := P) e (by omega)
      omega
theorem vp_ne2 {p : Nat} (h : p < 2 ^ 31) : ¬ nI p = -nI 2 := by
  rw [← nz_2]
  exact vp_ne h
theorem vl_a {l d : Nat} : vl l + (nI d + nI 1) = nI (l + d) := by
  unfold vl
  rw [nI_add]
  by_cases e : l = 0
  · rw [if_pos e, Int32.add_comm, ← Int32.sub_eq_add_neg, pk_sub (by omega), e, Nat.zero_add]
    rfl
  · rw [if_neg e, nI_add, show l - 1 + (d + 1) = l + d by omega]
theorem gd_sn {α : Type} {R : List α} {x z : α} {i : Nat} : (R ++ [x]).getD i z = if i = R.length then x else R.getD i z := by
  rw [List.getD_eq_getElem?_getD, List.getElem?_append]
  split
  · next e => rw [if_neg (by omega), List.getD_eq_getElem?_getD]
  · next e =>
    by_cases e2 : i = R.length
    · rw [if_pos e2, e2]
      simp
    · rw [if_neg e2, List.getD_eq_getElem?_getD, List.getElem?_eq_none (show R.length ≤ i by omega), List.getElem?_eq_none (by simp; omega)]
theorem sp_ro_d {c : Nat} {X D X' T D' : List Nat} {d : Nat} (hD : ∀ x ∈ D, x < 256) (h : sp_ro c X D = some (X', T, d, D')) : d < 65536 := by
  unfold sp_ro at h
  split at h
  · rw [Option.map_eq_some_iff] at h
    obtain ⟨q, -, h2⟩ := h
    cases h2
    omega
  · split at h
    · cases h
    · split at h
      · rw [Option.map_eq_some_iff] at h
        obtain ⟨q, -, h2⟩ := h
        cases h2
        next a l D0 =>
          have h1 := hD a (by simp)
          have h2 := hD l (by simp)
          omega
      · cases h
theorem sc_so_lp {P : sp_P} (hwP : wf_P P) {B : List Nat} (hl : B.length ≤ 400) : ∀ (k r n : Nat) (M : zm_M) (X D : List Nat) (l : Nat) (A : List sp_W) (o2 : Option zm_V), r + k = 50 → A.length = r → k < n → rc_P P M → rc_W M 0 B → rd_C M B D → (∀ x ∈ D, x < 256) → rc_L M 2 X → fr_ok M → M 29 0 10 = nI 0 → rc_R P M A → (∀ q ∈ A, q.1 < l) → l ≤ 200 → ∃ M', rr_re_isSound n 28 [some (.inr (29, 0)), some (.inl (vl l)), o2] [] M = some (bI (sp_rs P k X l D).isSome, M') ∧ zo_Z M M' ∧ fr_ok M' ∧ M' 29 0 10 = bI (sp_rs P k X l D).isSome ∧ ∀ rs, sp_rs P k X l D = some rs → rc_R P M' (A ++ rs) := by
  have h50 := hwP.n
  intro k
  induction k with
  | zero =>
    intro r n M X D l A o2 hk hA hn hP hB hD hb hX hf h10 hR hAl hl2
    obtain ⟨n, rfl⟩ : ∃ q, n = q + 1 := ⟨n - 1, by omega⟩
    obtain ⟨q, q1, q2, q3⟩ := hD
    rw [eq_re_isSound_28, hR.2.1, hA]
    simp only [nz_0, nz_1, nz_2, nz_3, nz_4, nz_5, nz_6, nz_7, nz_8, nz_9, nz_10, nz_11, nz_12, nz_13, nz_14, nz_15, nz_16, nz_17, nz_18, nz_19, nz_20, nz_21, nz_22, nz_23, nz_24, nz_25, nz_26, nz_27, nz_28, nz_29, nz_30, nz_31, nz_32, nz_33, nz_34, nz_35, nz_36, nz_37, nz_38, nz_39, nz_40, nz_41, nz_42, nz_43, nz_44, nz_45, nz_46, nz_47, nz_48, nz_49, nz_50, nz_51, nz_63, nz_64, nz_66, nz_127, nz_128, nz_246, nz_247, nz_248, nz_250, nz_251, nz_252, nz_254, nz_255, nz_256, nz_400, nz_2500]
    rw [if_neg (ni_nl (by omega) (by omega) (by omega)), q3, hB.1]
    match D, q1, hb with
    | [], q1, _ =>
      have : q = B.length := by
        have := congrArg List.length q1
        rw [List.length_drop] at this
        simp at this
        omega
      rw [if_pos (by rw [this])]
      have hs : sp_rs P 0 X l [] = some [] := by unfold sp_rs; rfl
      rw [hs]
      refine ⟨_, rfl, zo_Z.up (by omega), ?_, zu_e, ?_⟩
      · intro r hr
        obtain ⟨F, hF⟩ := hf r hr
        exact ⟨F, hF.kept (by rw [zu_s (by decide)]) (by rw [zu_s (by decide)]) (by rw [zu_s (by decide)])⟩
      · intro rs h
        cases h
        rw [List.append_nil]
        refine ⟨hR.1, by rw [zu_k (by decide)]; exact hR.2.1, ?_, ?_⟩
        · intro i hi
          obtain ⟨u1, u2, u3, u4⟩ := hR.2.2.1 i hi
          exact ⟨by rw [zu_s (by decide)]; exact u1, by rw [zu_s (by decide)]; exact u2, u3.kept (by rw [zu_s (by decide)]) (by rw [zu_s (by decide)]) (by rw [zu_s (by decide)]), u4⟩
        · intro p hp
          rw [zu_s (by decide)]
          exact hR.2.2.2 p hp
    | c :: D, q1, _ =>
      have hne : q ≠ B.length := by
        rintro rfl
        rw [List.drop_length] at q1
        cases q1
      rw [if_neg (ni_ne hne (by omega) (by omega))]
      have hs : sp_rs P 0 X l (c :: D) = none := by unfold sp_rs; rfl
      rw [hs]
      refine ⟨_, rfl, zo_Z.up (by omega), ?_, zu_e, fun rs h => by cases h⟩
      intro r hr
      obtain ⟨F, hF⟩ := hf r hr
      exact ⟨F, hF.kept (by rw [zu_s (by decide)]) (by rw [zu_s (by decide)]) (by rw [zu_s (by decide)])⟩
  | succ k ih =>
    intro r n M X D l A o2 hk hA hn hP hB hD hb hX hf h10 hR hAl hl2
    obtain ⟨n, rfl⟩ : ∃ q, n = q + 1 := ⟨n - 1, by omega⟩
    have hD0 := hD
    obtain ⟨q, q1, q2, q3⟩ := hD
    have hr8 : M 29 0 8 = nI r := by rw [hR.2.1, hA]
    rw [eq_re_isSound_28, hr8]
    simp only [nz_0, nz_1, nz_2, nz_3, nz_4, nz_5, nz_6, nz_7, nz_8, nz_9, nz_10, nz_11, nz_12, nz_13, nz_14, nz_15, nz_16, nz_17, nz_18, nz_19, nz_20, nz_21, nz_22, nz_23, nz_24, nz_25, nz_26, nz_27, nz_28, nz_29, nz_30, nz_31, nz_32, nz_33, nz_34, nz_35, nz_36, nz_37, nz_38, nz_39, nz_40, nz_41, nz_42, nz_43, nz_44, nz_45, nz_46, nz_47, nz_48, nz_49, nz_50, nz_51, nz_63, nz_64, nz_66, nz_127, nz_128, nz_246, nz_247, nz_248, nz_250, nz_251, nz_252, nz_254, nz_255, nz_256, nz_400, nz_2500]
    rw [if_pos (ni_lt (by omega) (by omega) (by omega)), q3, hB.1]
    match D, q1, hb, hD0 with
    | [], q1, _, _ =>
      have : q = B.length := by
        have := congrArg List.length q1
        rw [List.length_drop] at this
        simp at this
        omega
      rw [if_neg (ni_nl (by omega) (by omega) (by omega)), if_pos (by rw [this])]
      have hs : sp_rs P (k + 1) X l [] = some [] := by unfold sp_rs; rfl
      rw [hs]
      refine ⟨_, rfl, zo_Z.up (by omega), ?_, zu_e, ?_⟩
      · intro r hr
        obtain ⟨F, hF⟩ := hf r hr
        exact ⟨F, hF.kept (by rw [zu_s (by decide)]) (by rw [zu_s (by decide)]) (by rw [zu_s (by decide)])⟩
      · intro rs h
        cases h
        rw [List.append_nil]
        refine ⟨hR.1, by rw [zu_k (by decide)]; exact hR.2.1, ?_, ?_⟩
        · intro i hi
          obtain ⟨u1, u2, u3, u4⟩ := hR.2.2.1 i hi
          exact ⟨by rw [zu_s (by decide)]; exact u1, by rw [zu_s (by decide)]; exact u2, u3.kept (by rw [zu_s (by decide)]) (by rw [zu_s (by decide)]) (by rw [zu_s (by decide)]), u4⟩
        · intro p hp
          rw [zu_s (by decide)]
          exact hR.2.2.2 p hp
    | c :: D, q1, hb, hD0 =>
      have hlt : q < B.length := by
        have := congrArg List.length q1
        rw [List.length_drop] at this
        simp at this
        omega
      have hb' : ∀ x ∈ D, x < 256 := fun x hx => hb x (List.mem_cons_of_mem _ hx)
      rw [if_pos (ni_lt hlt (by omega) (by omega)), nI_clamp (by omega), if_neg (ni_in (show r < 50 by omega) (by omega))]
      obtain ⟨M1, a1, a2, a3, a4⟩ := sc_readRow (show r < 50 by omega) hr8 hl hB hD0 hb (hf r (by omega)) hX
      have z1 := a2.Z (show r < 50 by omega)
      have hP1 := z1.P hP
      have hf1 : fr_ok M1 := by
        intro i hi
        by_cases e : i = r
        · subst e
          exact a3
        · obtain ⟨F, hF⟩ := hf i hi
          exact ⟨F, hF.kept (funext fun k => a2 23 _ k (by omega) (by omega) (by omega) (by omega)) (funext fun k => a2 24 _ k (by omega) (by omega) (by omega) (by omega)) (funext fun k => a2 25 _ k (by omega) (by omega) (by omega) (by omega))⟩
      have h101 : M1 29 0 10 = nI 0 := by rw [a2 29 0 10 (by omega) (by omega) (by omega) (by omega)]; exact h10
      have hr81 : M1 29 0 8 = nI r := by rw [a2 29 0 8 (by omega) (by omega) (by omega) (by omega)]; exact hr8
      rw [a1]
      simp only [Option.bind_some, bI_0]
      have hs0 : sp_rs P (k + 1) X l (c :: D) = (sp_ro c X D).bind fun q => if (sp_at P (l + q.2.2.1)).isSome then (sp_rs P k q.1 (l + q.2.2.1 + 1) q.2.2.2).map fun rs => (l + q.2.2.1, c, rw_F q.1 q.2.1) :: rs else none := by rw [sp_rs]
      rw [hs0]
      cases hro : sp_ro c X D with
      | none =>
        rw [if_pos (by rfl)]
        exact ⟨M1, rfl, z1, hf1, h101, fun rs h => by cases h⟩
      | some qq =>
        obtain ⟨X', T, d, D'⟩ := qq
        obtain ⟨k1, k2, k3, k4, k5, k6, k7⟩ := a4 X' T d D' hro
        have hd := sp_ro_d hb' hro
        rw [if_neg (by rw [Option.isSome_some]; decide), hr81, nI_clamp (by omega), if_neg (ni_in (show r < 50 by omega) (by omega)), k6, vl_a, sc_placeAt hwP hP1 (by omega)]
        simp only [Option.bind_some]
        cases hat : sp_at P (l + d) with
        | none =>
          rw [if_pos (show vp none = -nI 2 by decide)]
          exact ⟨M1, rfl, z1, hf1, h101, fun rs h => by cases h⟩
        | some p =>
          obtain ⟨p1, p2⟩ := sp_at_some hat
          have hoff := sp_off_le P p
          rw [vp_s]
          rw [if_neg (vp_ne2 (by omega)), hr81, nI_clamp (by omega), nI_clamp (by omega), if_neg (ni_in (show r < 50 by omega) (by omega)), if_neg (ni_in (show p < 50 by omega) (by omega)), nI_add]
          have z2 : zo_Z M1 (zm_up (zm_up (zm_up M1 31 0 r (nI (l + d))) 33 0 p (nI r)) 29 0 8 (nI (r + 1))) := ((zo_Z.up (by omega)).tr (zo_Z.up (by omega))).tr (zo_Z.up (by omega))
          have fk : ∀ s i, 22 < s → s < 29 → zm_up (zm_up (zm_up M1 31 0 r (nI (l + d))) 33 0 p (nI r)) 29 0 8 (nI (r + 1)) s i = M1 s i := fun s i h1 h2 => by rw [zu_s (by omega), zu_s (by omega), zu_s (by omega)]
          have hR2 : rc_R P (zm_up (zm_up (zm_up M1 31 0 r (nI (l + d))) 33 0 p (nI r)) 29 0 8 (nI (r + 1))) (A ++ [(l + d, c, rw_F X' T)]) := by
            refine ⟨by simp; omega, ?_, ?_, ?_⟩
            · rw [zu_e, List.length_append, hA]
              rfl
            · intro i hi
              rw [List.length_append] at hi
              simp only [List.length_cons, List.length_nil] at hi
              rw [gd_sn]
              by_cases e : i = A.length
              · rw [if_pos e]
                have e' : i = r := by omega
                subst e'
                refine ⟨?_, ?_, k2.kept (fk 23 _ (by omega) (by omega)) (fk 24 _ (by omega) (by omega)) (fk 25 _ (by omega) (by omega)), ⟨sp_sp_wt k1.2.2.2.2, k4⟩⟩
                · rw [zu_s (by decide), zu_s (by decide), zu_e]
                · rw [zu_s (by decide), zu_s (by decide), zu_s (by decide)]
                  exact k7
              · rw [if_neg e]
                obtain ⟨u1, u2, u3, u4⟩ := hR.2.2.1 i (by omega)
                refine ⟨?_, ?_, ?_, u4⟩
                · rw [zu_s (by decide), zu_s (by decide), zu_k (by omega), a2 31 0 i (by omega) (by omega) (by omega) (by omega)]
                  exact u1
                · rw [zu_s (by decide), zu_s (by decide), zu_s (by decide), a2 32 0 i (by omega) (by omega) (by omega) (by omega)]
                  exact u2
                · refine u3.kept ?_ ?_ ?_
                  · rw [fk 23 _ (by omega) (by omega)]; funext k; exact a2 23 _ k (by omega) (by omega) (by omega) (by omega)
                  · rw [fk 24 _ (by omega) (by omega)]; funext k; exact a2 24 _ k (by omega) (by omega) (by omega) (by omega)
                  · rw [fk 25 _ (by omega) (by omega)]; funext k; exact a2 25 _ k (by omega) (by omega) (by omega) (by omega)
            · intro p' hp'
              unfold sp_rx
              rw [zu_s (by decide), List.findIdx?_append]
              by_cases e : p' = p
              · subst e
                rw [zu_e, if_pos p1]
                have hnone : A.findIdx? (fun q => q.1 == sp_off P p') = none := by
                  rw [List.findIdx?_eq_none_iff]
                  intro x hx
                  have := hAl x hx
                  rw [p2]
                  exact beq_eq_false_iff_ne.mpr (by omega)
                rw [hnone]
                simp [p2, hA, vp_s]
              · rw [zu_k e, zu_s (by decide), a2 33 0 p' (by omega) (by omega) (by omega) (by omega), hR.2.2.2 p' hp']
                unfold sp_rx
                by_cases en : p' < pg_n P
                · rw [if_pos en, if_pos en]
                  have hne : ¬ (l + d == sp_off P p') = true := by
                    intro hq
                    have hq : l + d = sp_off P p' := beq_iff_eq.mp hq
                    rw [hq, sp_at_off en] at hat
                    cases hat
                    exact e rfl
                  have hnone : [((l + d, c, rw_F X' T) : sp_W)].findIdx? (fun q => q.1 == sp_off P p') = none := by
                    rw [List.findIdx?_eq_none_iff]
                    intro x hx
                    rw [List.mem_singleton] at hx
                    subst hx
                    simpa using hne
                  rw [hnone]
                  cases A.findIdx? (fun q => q.1 == sp_off P p') <;> rfl
                · rw [if_neg en, if_neg en]
          obtain ⟨M3, c1, c2, c3, c4, c5⟩ := ih (r + 1) n _ X' D' (l + d + 1) (A ++ [(l + d, c, rw_F X' T)]) (some (.inl (nI p))) (by omega) (by simp; omega) (by omega) (z2.P hP1) (z2.W (z1.W hB)) (by
              obtain ⟨w, w1, w2, w3⟩ := k3
              exact ⟨w, w1, w2, by rw [zu_k (by decide), zu_s (by decide), zu_s (by decide)]; exact w3⟩) k5 (k1.kept (fk 27 2 (by omega) (by omega)) (fk 28 2 (by omega) (by omega))) (by
              intro i hi
              obtain ⟨F, hF⟩ := hf1 i hi
              exact ⟨F, hF.kept (fk 23 _ (by omega) (by omega)) (fk 24 _ (by omega) (by omega)) (fk 25 _ (by omega) (by omega))⟩) (by
              rw [zu_k (by decide), zu_s (by decide), zu_s (by decide)]
              exact h101) hR2 (by
              intro x hx
              rcases List.mem_append.mp hx with hx | hx
              · have := hAl x hx
                omega
              · rw [List.mem_singleton] at hx
                subst hx
                show l + d < l + d + 1
                omega) (by omega)
          rw [vl_s] at c1
          rw [c1]
          simp only [Option.bind_some, Option.isSome_some, if_true, Option.isSome_map]
          refine ⟨M3, rfl, (z1.tr z2).tr c2, c3, c4, ?_⟩
          intro rs h
          rw [Option.map_eq_some_iff] at h
          obtain ⟨rs', h1, rfl⟩ := h
          have := c5 rs' h1
          rw [List.append_assoc] at this
          exact this
