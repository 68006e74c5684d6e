/-! FRAMES OF THE FLOW STAY SUCH -/
theorem wf_at {P : sp_P} (hP : wf_P P) {p : Nat} (hp : p < pg_n P) : wf_I ((pg_cod P).getD p (0, 0, 0)) := by
  unfold pg_n at hp
  have : (pg_cod P).getD p (0, 0, 0) ∈ pg_cod P := by
    rw [List.getD_eq_getElem?_getD, List.getElem?_eq_getElem hp]
    exact List.getElem_mem hp
  exact hP.2.2.2.2.2.2.1 _ this
theorem sp_len_le (o : Nat) : 1 ≤ sp_len o ∧ sp_len o ≤ 3 := by
  unfold sp_len
  split
  · omega
  · split <;> omega
theorem sp_off_le (P : sp_P) (p : Nat) : sp_off P p ≤ 3 * p := by
  unfold sp_off
  have : ∀ l : List (Nat × Nat × Nat), (l.map fun q => sp_len q.1).sum ≤ 3 * l.length := by
    intro l
    induction l with
    | nil => simp
    | cons q l ih =>
      have := sp_len_le q.1
      simp only [List.map_cons, List.sum_cons, List.length_cons]
      omega
  have h2 := this ((pg_cod P).take p)
  have h3 : ((pg_cod P).take p).length ≤ p := by simp; omega
  omega
theorem wt_8 {k : Nat} (h : k < 65536) : sp_wt (16 * k + 8) := Or.inr (Or.inr ⟨by unfold sp_kd; omega, by unfold sp_pt; omega⟩)
theorem wt_gd {L : List Nat} (h : ∀ t ∈ L, sp_wt t) (i : Nat) : sp_wt (L.getD i 0) := by
  by_cases e : i < L.length
  · exact h _ (gd_mem e)
  · rw [List.getD_eq_getElem?_getD, List.getElem?_eq_none (by omega)]
    exact wt_k (by decide)
theorem wt_set {L : List Nat} {i x : Nat} (h : ∀ t ∈ L, sp_wt t) (hx : sp_wt x) : ∀ t ∈ L.set i x, sp_wt t := by
  intro t ht
  rcases List.mem_or_eq_of_mem_set ht with q | q
  · exact h t q
  · rw [q]; exact hx
theorem wt_rep {L : List Nat} {x y : Nat} (h : ∀ t ∈ L, sp_wt t) (hy : sp_wt y) : ∀ t ∈ sp_rep x y L, sp_wt t := by
  intro t ht
  unfold sp_rep at ht
  rw [List.mem_map] at ht
  obtain ⟨u, hu, rfl⟩ := ht
  split
  · exact hy
  · exact h u hu
theorem nz_rep {L : List Nat} {x y : Nat} (h : nz_L L) (hy : y ≠ 0) : nz_L (sp_rep x y L) := by
  intro t ht
  unfold sp_rep at ht
  rw [List.mem_map] at ht
  obtain ⟨u, hu, rfl⟩ := ht
  split
  · exact hy
  · exact h u hu
/-- a STACK of THE FLOW -/
def ok_T (T : List Nat) : Prop := (∀ t ∈ T, sp_wt t) ∧ nz_L T
theorem ok_T.c {T : List Nat} (h : ok_T T) {x : Nat} (hx : sp_wt x) (h0 : x ≠ 0) : ok_T (x :: T) := by
  refine ⟨?_, ?_⟩
  · intro t ht
    rcases List.mem_cons.mp ht with rfl | ht
    · exact hx
    · exact h.1 t ht
  · intro t ht
    rcases List.mem_cons.mp ht with rfl | ht
    · exact h0
    · exact h.2 t ht
theorem ok_T.t {x : Nat} {T : List Nat} (h : ok_T (x :: T)) : ok_T T := ⟨fun t ht => h.1 t (List.mem_cons_of_mem _ ht), nz_tail h.2⟩
theorem ok_T.h {x : Nat} {T : List Nat} (h : ok_T (x :: T)) : sp_wt x ∧ x ≠ 0 := ⟨h.1 x List.mem_cons_self, nz_head h.2⟩
theorem ok_psh {T T' : List Nat} {x : Nat} (h : ok_T T) (hx : sp_wt x) (h0 : x ≠ 0) (hp : sp_psh x T = some T') : ok_T T' := by
  unfold sp_psh at hp
  split at hp
  · cases hp
    exact h.c hx h0
  · cases hp
theorem ok_sum {t : Nat} (ht : t < 7) (h0 : t ≠ 0) : ∀ {T T' : List Nat}, ok_T T → sp_sum t T = some T' → ok_T T'
  | [], _, _, h => by cases h
  | [_], _, _, h => by cases h
  | x :: y :: T, T', h, hp => by
    unfold sp_sum at hp
    dsimp only at hp
    split at hp
    · exact ok_psh h.t.t (wt_k ht) h0 hp
    · cases hp
theorem ok_swp {t u : Nat} (hu : u < 7) (h0 : u ≠ 0) : ∀ {T T' : List Nat}, ok_T T → sp_swp t u T = some T' → ok_T T'
  | [], _, _, h => by cases h
  | x :: T, T', h, hp => by
    unfold sp_swp at hp
    dsimp only at hp
    split at hp
    · exact ok_psh h.t (wt_k hu) h0 hp
    · cases hp
theorem ok_stk {P : sp_P} {o : Nat} {F : sp_F} {T' : List Nat} (ho : o ≤ 20) (hF : ok_T F.2.1) (hp : sp_stk P o F = some T') : ok_T T' := by
  obtain ⟨L, T, b⟩ := F
  dsimp only at hF
  unfold sp_stk at hp
  split at hp
  · cases hp
    exact hF
  · dsimp only at hp
    match T, hF, hp with
    | x :: T, hF, hp =>
      dsimp only at hp
      split at hp
      · cases hp
        exact hF.t
      · cases hp
  · dsimp only at hp
    match T, hF, hp with
    | x :: T, hF, hp =>
      dsimp only at hp
      split at hp
      · cases hp
        exact hF.t
      · match T, hF, hp with
        | x2 :: T, hF, hp =>
          dsimp only at hp
          split at hp
          · cases hp
            exact hF.t.t
          · cases hp
  · dsimp only at hp
    match T, hF, hp with
    | x :: T, hF, hp =>
      dsimp only at hp
      split at hp
      · exact ok_psh hF hF.h.1 hF.h.2 hp
      · cases hp
  · dsimp only at hp
    match T, hF, hp with
    | x :: x2 :: T, hF, hp =>
      dsimp only at hp
      split at hp
      · cases hp
        exact (hF.t.t.c hF.h.1 hF.h.2).c hF.t.h.1 hF.t.h.2
      · cases hp
  · exact ok_sum (by decide) (by decide) hF hp
  · exact ok_sum (by decide) (by decide) hF hp
  · exact ok_sum (by decide) (by decide) hF hp
  · exact ok_sum (by decide) (by decide) hF hp
  · exact ok_swp (by decide) (by decide) hF hp
  · exact ok_swp (by decide) (by decide) hF hp
  · exact ok_swp (by decide) (by decide) hF hp
  · exact ok_swp (by decide) (by decide) hF hp
  · dsimp only at hp
    split at hp
    · cases hp
    · cases hp
      exact hF
  · dsimp only at hp
    match T, hF, hp with
    | x :: T, hF, hp =>
      dsimp only at hp
      split at hp
      · cases hp
        exact hF.t
      · cases hp
  · dsimp only at hp
    match T, hF, hp with
    | x :: T, hF, hp =>
      dsimp only at hp
      split at hp
      · cases hp
        exact hF
      · cases hp
  · next q0 q6 q7 q8 q9 q10 q11 q12 q13 q14 q15 q16 q17 q18 q19 q20 =>
    refine ok_psh hF (wt_k ?_) q0 hp
    have : o ≠ 6 := q6
    have : o ≠ 7 := q7
    have : o ≠ 8 := q8
    have : o ≠ 9 := q9
    have : o ≠ 10 := q10
    have : o ≠ 11 := q11
    have : o ≠ 12 := q12
    have : o ≠ 13 := q13
    have : o ≠ 14 := q14
    have : o ≠ 15 := q15
    have : o ≠ 16 := q16
    have : o ≠ 17 := q17
    have : o ≠ 18 := q18
    have : o ≠ 19 := q19
    have : o ≠ 20 := q20
    omega
theorem ok_sto {L : List Nat} {a x : Nat} (hw : ∀ t ∈ L, sp_wt t) (hl : L.length = 10) (h9 : sp_wd (L.getD 9 0) = 1) (hx : sp_wt x) (ha : a < 10) (hxa : sp_wd x = 2 → a < 9) : (∀ t ∈ sp_sto L a x, sp_wt t) ∧ (sp_sto L a x).length = 10 ∧ sp_wd ((sp_sto L a x).getD 9 0) = 1 := by
  have h0 : sp_wt 0 := wt_k (by decide)
  have hwx := sp_wd_le x
  refine ⟨?_, by rw [sp_sto_len, hl], ?_⟩
  · unfold sp_sto
    dsimp only
    split
    · split
      · exact wt_set (wt_set (wt_set hw h0) hx) h0
      · exact wt_set (wt_set hw hx) h0
    · split
      · exact wt_set (wt_set hw h0) hx
      · exact wt_set hw hx
  · have h1 : sp_wd ((if 0 < a ∧ sp_wd (L.getD (a - 1) 0) = 2 then L.set (a - 1) 0 else L).getD 9 0) = 1 := by
      split
      · rw [gd_set (by omega)]
        split
        · rfl
        · exact h9
      · exact h9
    have hl1 : (if 0 < a ∧ sp_wd (L.getD (a - 1) 0) = 2 then L.set (a - 1) 0 else L).length = 10 := by
      split
      · rw [List.length_set, hl]
      · exact hl
    unfold sp_sto
    dsimp only
    generalize (if 0 < a ∧ sp_wd (L.getD (a - 1) 0) = 2 then L.set (a - 1) 0 else L) = L1 at h1 hl1
    have h2 : sp_wd ((L1.set a x).getD 9 0) = 1 := by
      rw [gd_set (by omega)]
      split
      · have := sp_wd_le x
        by_cases e : sp_wd x = 2
        · have := hxa e
          omega
        · omega
      · exact h1
    split
    · rw [gd_set (by rw [List.length_set]; have := hxa (by assumption); omega)]
      split
      · rfl
      · exact h2
    · exact h2
theorem ok_rep9 {L : List Nat} {x y : Nat} (hl : L.length = 10) (h9 : sp_wd (L.getD 9 0) = 1) (hy : sp_wd y = 1) : sp_wd ((sp_rep x y L).getD 9 0) = 1 := by
  unfold sp_rep
  rw [gd_map (by omega)]
  split
  · exact hy
  · exact h9
theorem w_t7 (c : Nat) : sp_wd (16 * c + 7) = 1 := by unfold sp_wd; rw [if_neg (by omega)]
theorem sp_at_some {P : sp_P} {k p : Nat} (h : sp_at P k = some p) : p < pg_n P ∧ sp_off P p = k := by
  unfold sp_at at h
  have h1 := List.mem_of_find?_eq_some h
  have h2 := List.find?_some h
  rw [List.mem_range] at h1
  exact ⟨h1, by simpa using h2⟩
theorem ok_stp {P : sp_P} (hP : wf_P P) {p : Nat} {F F' : sp_F} (hpn : p < pg_n P) (hF : ok_F F) (hp : sp_stp P p F = some F') : ok_F F' := by
  have hI := wf_at hP hpn
  have hT : ok_T F.2.1 := ⟨hF.1.2, hF.2.2.1⟩
  have hmk : ∀ T', ok_T T' → ok_F (F.1, T', F.2.2) := fun _ h => ⟨⟨hF.1.1, h.1⟩, hF.2.1, h.2, hF.2.2.2⟩
  unfold sp_stp at hp
  dsimp only at hp
  have ho : pg_op P p = ((pg_cod P).getD p (0, 0, 0)).1 := rfl
  have ha : pg_a P p = ((pg_cod P).getD p (0, 0, 0)).2.1 := rfl
  have hb : pg_b P p = ((pg_cod P).getD p (0, 0, 0)).2.2 := rfl
  unfold wf_I at hI
  rw [← ho, ← ha, ← hb] at hI
  have hoff := sp_off_le P p
  have hn50 : pg_n P ≤ 50 := hP.2.2.2.2.2.1
  generalize pg_op P p = o at hp hI
  by_cases e : o ≤ 20
  · rw [if_pos e] at hp
    rw [Option.map_eq_some_iff] at hp
    obtain ⟨U', q1, rfl⟩ := hp
    exact hmk _ (ok_stk e hT q1)
  rw [if_neg e] at hp
  by_cases e : o ≤ 25
  · rw [if_pos e] at hp
    split at hp
    · next e2 =>
      rw [Option.map_eq_some_iff] at hp
      obtain ⟨U', q1, rfl⟩ := hp
      exact hmk _ (ok_psh hT (wt_gd hF.1.1 _) ((le_t.rf (P := P) _).ok e2).2 q1)
    · cases hp
  rw [if_neg e] at hp
  obtain ⟨L, T, b⟩ := F
  dsimp only at hT hmk
  by_cases e3 : o ≤ 30
  · rw [if_pos e3] at hp
    match T, hT, hp with
    | x :: T, hT, hp =>
      dsimp only at hp
      split at hp
      · next e2 =>
        cases hp
        have hxa : sp_wd x = 2 → pg_a P p < 9 := by
          intro hw
          have h34 : x = 3 ∨ x = 4 := by
            unfold sp_wd at hw
            split at hw
            · assumption
            · omega
          apply (hI.2.1 (by omega) (by omega)).2
          rcases (show o = 26 ∨ o = 27 ∨ o = 28 ∨ o = 29 ∨ o = 30 by omega) with rfl | rfl | rfl | rfl | rfl
          · rcases h34 with rfl | rfl <;> exact absurd e2 (by decide)
          · omega
          · rcases h34 with rfl | rfl <;> exact absurd e2 (by decide)
          · omega
          · rcases h34 with rfl | rfl <;> exact absurd e2 (by decide)
        have := ok_sto hF.1.1 hF.2.1 hF.2.2.2 hT.h.1 (hI.2.1 (by omega) (by omega)).1 hxa
        exact ⟨⟨this.1, hT.t.1⟩, this.2.1, hT.t.2, this.2.2⟩
      · cases hp
  rw [if_neg e3] at hp
  by_cases e : o = 31
  · rw [if_pos e] at hp
    cases hp
    exact hF
  rw [if_neg e] at hp
  by_cases e : o = 32
  · rw [if_pos e] at hp
    match T, hT, hp with
    | x :: T, hT, hp =>
      dsimp only at hp
      split at hp
      · cases hp
        exact hmk _ hT.t
      · cases hp
  rw [if_neg e] at hp
  by_cases e : o = 33
  · rw [if_pos e] at hp
    match T, hT, hp with
    | x :: T, hT, hp =>
      dsimp only at hp
      split at hp
      · cases hp
        exact hmk _ hT.t
      · cases hp
  rw [if_neg e] at hp
  by_cases e34 : o = 34
  · rw [if_pos e34] at hp
    match T, hT, hp with
    | x :: x2 :: T, hT, hp =>
      dsimp only at hp
      split at hp
      · cases hp
        exact hmk _ hT.t.t
      · cases hp
  rw [if_neg e34] at hp
  by_cases e : o = 35
  · rw [if_pos e] at hp
    rw [Option.map_eq_some_iff] at hp
    obtain ⟨U', q1, rfl⟩ := hp
    exact hmk _ (ok_psh hT (wt_8 (by omega)) (by omega) q1)
  rw [if_neg e] at hp
  by_cases e : o = 36
  · rw [if_pos e] at hp
    unfold sp_ini at hp
    match T, hT, hF, hp with
    | x :: T, hT, hF, hp =>
      dsimp only at hp
      split at hp
      · split at hp
        · cases hp
          exact ⟨⟨wt_rep hF.1.1 (wt_7 hP.2.1), wt_rep hT.t.1 (wt_7 hP.2.1)⟩, by rw [show (sp_rep 6 (16 * pg_own P + 7) L).length = L.length from List.length_map _]; exact hF.2.1, nz_rep hT.t.2 (by omega), ok_rep9 hF.2.1 hF.2.2.2 (w_t7 _)⟩
        · cases hp
      · split at hp
        · cases hat : sp_at P (sp_pt x) with
          | none => rw [hat] at hp; cases hp
          | some q =>
            rw [hat] at hp
            dsimp only at hp
            split at hp
            · cases hp
              have ha8 := hI.2.2.2.1 (by omega)
              exact ⟨⟨wt_rep hF.1.1 (wt_7 ha8), wt_rep hT.t.1 (wt_7 ha8)⟩, by rw [show (sp_rep x (16 * pg_a P p + 7) L).length = L.length from List.length_map _]; exact hF.2.1, nz_rep hT.t.2 (by omega), ok_rep9 hF.2.1 hF.2.2.2 (w_t7 _)⟩
            · cases hp
        · cases hp
  rw [if_neg e] at hp
  match T, hT, hp with
  | x :: T, hT, hp =>
    dsimp only at hp
    by_cases e2 : (sp_op x && sp_is P x (16 * (if o = 39 then 0 else pg_a P p) + 7)) = true
    · rw [if_pos e2] at hp
      rw [Option.map_eq_some_iff] at hp
      obtain ⟨U', q1, rfl⟩ := hp
      refine hmk _ (ok_psh hT.t ?_ (by split <;> omega) q1)
      split
      · exact wt_k (by decide)
      · split
        · next h38 => exact wt_7 (hI.2.2.2.2 h38)
        · exact wt_7 (hI.2.2.2.1 (by omega))
    · rw [if_neg e2] at hp
      cases hp
