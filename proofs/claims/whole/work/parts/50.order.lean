/-! AN ORDER ON TYPES: IS, without faces; JOIN is the least above two -/
def le_t (P : sp_P) (x y : Nat) : Prop := x = y ∨ y = 0 ∨ (sp_kd y = 7 ∧ (x = 5 ∨ (sp_kd x = 7 ∧ sp_il P (sp_pt y) (sp_pt x) = true)))
theorem le_t.rf {P : sp_P} (x : Nat) : le_t P x x := Or.inl rfl
theorem in_le {sup : Nat → Nat} (hs : sp_sup sup) {c : Nat} : ∀ (k d : Nat), d ≤ k → d < 8 → sp_in sup 8 c d = true → c ≤ d := by
  intro k
  induction k with
  | zero =>
    intro d h1 h2 h
    have : d = 0 := by omega
    subst this
    rw [sp_in_z] at h
    simp at h
    omega
  | succ k ih =>
    intro d h1 h2 h
    rw [sp_in_s hs h2] at h
    simp only [Bool.or_eq_true, Bool.and_eq_true, beq_iff_eq, bne_iff_ne, ne_eq] at h
    rcases h with h | ⟨h0, h⟩
    · omega
    · have := hs d (by omega) h2
      have := ih (sup d) (by omega) (by omega) h
      omega
theorem in_rf {sup : Nat → Nat} (hs : sp_sup sup) {c : Nat} (hc : c < 8) : sp_in sup 8 c c = true := by
  rw [sp_in_s hs hc]
  simp
theorem in_tr {sup : Nat → Nat} (hs : sp_sup sup) {c d : Nat} (hd : d < 8) (h : sp_in sup 8 c d = true) : ∀ (k e : Nat), e ≤ k → e < 8 → sp_in sup 8 d e = true → sp_in sup 8 c e = true := by
  intro k
  induction k with
  | zero =>
    intro e h1 h2 h3
    have : e = 0 := by omega
    subst this
    rw [sp_in_z] at h3
    simp at h3
    subst h3
    exact h
  | succ k ih =>
    intro e h1 h2 h3
    rw [sp_in_s hs h2] at h3
    simp only [Bool.or_eq_true, Bool.and_eq_true, beq_iff_eq, bne_iff_ne, ne_eq] at h3
    rcases h3 with h3 | ⟨h0, h3⟩
    · subst h3
      exact h
    · have := hs e (by omega) h2
      have := ih (sup e) (by omega) (by omega) h3
      rw [sp_in_s hs h2]
      simp only [Bool.or_eq_true, Bool.and_eq_true, beq_iff_eq, bne_iff_ne, ne_eq]
      exact Or.inr ⟨h0, this⟩
theorem jc_in {sup : Nat → Nat} (hs : sp_sup sup) {d : Nat} (hd : d < 8) : ∀ (k c : Nat), c ≤ k → c < 8 → sp_in sup 8 (sp_jc sup 8 c d) c = true ∧ sp_in sup 8 (sp_jc sup 8 c d) d = true ∧ ∀ e, sp_in sup 8 e c = true → sp_in sup 8 e d = true → sp_in sup 8 e (sp_jc sup 8 c d) = true := by
  intro k
  induction k with
  | zero =>
    intro c h1 h2
    have : c = 0 := by omega
    subst this
    have h0 := sp_in0 hs 7 d (by omega) hd
    rw [sp_jc_s hs h2 hd, if_pos h0]
    exact ⟨in_rf hs h2, h0, fun e h _ => h⟩
  | succ k ih =>
    intro c h1 h2
    rw [sp_jc_s hs h2 hd]
    by_cases h : sp_in sup 8 c d = true
    · rw [if_pos h]
      exact ⟨in_rf hs h2, h, fun e h _ => h⟩
    · rw [if_neg h]
      have h0 : c ≠ 0 := by
        rintro rfl
        exact h (sp_in0 hs 7 d (by omega) hd)
      have hl := hs c (by omega) h2
      obtain ⟨i1, i2, i3⟩ := ih (sup c) (by omega) (by omega)
      refine ⟨?_, i2, ?_⟩
      · rw [sp_in_s hs h2]
        simp [h0, i1]
      · intro e he1 he2
        rw [sp_in_s hs h2] at he1
        simp only [Bool.or_eq_true, Bool.and_eq_true, beq_iff_eq, bne_iff_ne, ne_eq] at he1
        rcases he1 with he1 | ⟨_, he1⟩
        · subst he1
          exact absurd he2 h
        · exact i3 e he1 he2
theorem kd_5 : sp_kd 5 = 5 := rfl
theorem kd_0 : sp_kd 0 = 0 := rfl
theorem le_t.tr {P : sp_P} (hs : sp_sup (pg_sup P)) {x y z : Nat} (hx : sp_wt x) (hy : sp_wt y) (h : le_t P x y) (h2 : le_t P y z) : le_t P x z := by
  rcases h2 with rfl | h2 | ⟨k2, h2⟩
  · exact h
  · exact Or.inr (Or.inl h2)
  · rcases h with rfl | h | ⟨k1, h⟩
    · exact Or.inr (Or.inr ⟨k2, h2⟩)
    · subst h
      rcases h2 with h2 | h2
      · cases h2
      · rw [kd_0] at h2
        cases h2.1
    · refine Or.inr (Or.inr ⟨k2, ?_⟩)
      rcases h2 with h2 | ⟨k3, h2⟩
      · subst h2
        rw [kd_5] at k1
        cases k1
      · rcases h with h | ⟨k4, h⟩
        · exact Or.inl h
        · exact Or.inr ⟨k4, in_tr hs (sp_wt7 hy k1) h2 7 _ (by have := sp_wt7 hx k4; omega) (sp_wt7 hx k4) h⟩
/-- how far below TOP -/
def ht_t (t : Nat) : Nat := if t = 0 then 0 else if t = 5 then 9 else if sp_kd t = 7 then 1 + sp_pt t else 1
theorem le_t.ht {P : sp_P} (hs : sp_sup (pg_sup P)) {x y : Nat} (hx : sp_wt x) (hy : sp_wt y) (h : le_t P x y) : x = y ∨ ht_t y < ht_t x := by
  rcases h with h | h | ⟨k1, h⟩
  · exact Or.inl h
  · by_cases e : x = 0
    · left; omega
    · right
      subst h
      unfold ht_t
      rw [if_pos rfl, if_neg e]
      split
      · decide
      · split <;> omega
  · have hy8 := sp_wt7 hy k1
    have y0 : y ≠ 0 := by rintro rfl; cases k1
    have y5 : y ≠ 5 := by rintro rfl; cases k1
    rcases h with h | ⟨k2, h⟩
    · right
      subst h
      unfold ht_t
      rw [if_neg y0, if_neg y5, if_pos k1, if_neg (by decide), if_pos rfl]
      omega
    · have hx8 := sp_wt7 hx k2
      have x0 : x ≠ 0 := by rintro rfl; cases k2
      have x5 : x ≠ 5 := by rintro rfl; cases k2
      have := in_le hs 7 _ (by omega) hx8 h
      unfold ht_t
      rw [if_neg y0, if_neg y5, if_pos k1, if_neg x0, if_neg x5, if_pos k2]
      unfold sp_kd at k1 k2
      unfold sp_pt at *
      omega
theorem ht_le (t : Nat) (h : sp_wt t) : ht_t t ≤ 9 := by
  unfold ht_t
  split
  · omega
  · split
    · omega
    · split
      · next k => have := sp_wt7 h k; omega
      · omega
theorem le_t.an {P : sp_P} (hs : sp_sup (pg_sup P)) {x y : Nat} (hx : sp_wt x) (hy : sp_wt y) (h : le_t P x y) (h2 : le_t P y x) : x = y := by
  rcases h.ht hs hx hy with h | h
  · exact h
  · rcases h2.ht hs hy hx with h2 | h2
    · exact h2.symm
    · omega
theorem op_iff (t : Nat) : sp_op t = true ↔ t = 5 ∨ sp_kd t = 7 := by unfold sp_op; simp
/-- JOIN -/
theorem jn_wt {P : sp_P} (hs : sp_sup (pg_sup P)) {x y : Nat} (hx : sp_wt x) (hy : sp_wt y) : sp_wt (sp_jn P x y) := by
  unfold sp_jn
  split
  · exact hx
  · split
    · next ho =>
      simp only [Bool.and_eq_true, op_iff] at ho
      split
      · exact hy
      · split
        · exact hx
        · have k1 : sp_kd x = 7 := by rcases ho.1 with h | h; contradiction; exact h
          have k2 : sp_kd y = 7 := by rcases ho.2 with h | h; contradiction; exact h
          exact wt_7 (sp_jc_lt hs (sp_wt7 hy k2) 7 _ (by have := sp_wt7 hx k1; omega) (sp_wt7 hx k1))
    · exact wt_k (by decide)
theorem kd_16 (c : Nat) : sp_kd (16 * c + 7) = 7 := by unfold sp_kd; omega
theorem pt_16 (c : Nat) : sp_pt (16 * c + 7) = c := by unfold sp_pt; omega
theorem jn_ub {P : sp_P} (hs : sp_sup (pg_sup P)) {x y : Nat} (hx : sp_wt x) (hy : sp_wt y) : le_t P x (sp_jn P x y) ∧ le_t P y (sp_jn P x y) := by
  unfold sp_jn
  split
  · next h => subst h; exact ⟨Or.inl rfl, Or.inl rfl⟩
  · split
    · next ho =>
      simp only [Bool.and_eq_true, op_iff] at ho
      split
      · next h5 =>
        have k2 : sp_kd y = 7 := by rcases ho.2 with h | h; omega; exact h
        exact ⟨Or.inr (Or.inr ⟨k2, Or.inl h5⟩), Or.inl rfl⟩
      · split
        · next h5 =>
          have k1 : sp_kd x = 7 := by rcases ho.1 with h | h; contradiction; exact h
          exact ⟨Or.inl rfl, Or.inr (Or.inr ⟨k1, Or.inl h5⟩)⟩
        · have k1 : sp_kd x = 7 := by rcases ho.1 with h | h; contradiction; exact h
          have k2 : sp_kd y = 7 := by rcases ho.2 with h | h; contradiction; exact h
          have hx8 := sp_wt7 hx k1
          obtain ⟨i1, i2, -⟩ := jc_in hs (sp_wt7 hy k2) 7 _ (by omega) hx8
          refine ⟨Or.inr (Or.inr ⟨kd_16 _, Or.inr ⟨k1, ?_⟩⟩), Or.inr (Or.inr ⟨kd_16 _, Or.inr ⟨k2, ?_⟩⟩)⟩
          · rw [pt_16]; exact i1
          · rw [pt_16]; exact i2
    · exact ⟨Or.inr (Or.inl rfl), Or.inr (Or.inl rfl)⟩
theorem jn_lub {P : sp_P} (hs : sp_sup (pg_sup P)) {x y z : Nat} (hx : sp_wt x) (hy : sp_wt y) (h1 : le_t P x z) (h2 : le_t P y z) : le_t P (sp_jn P x y) z := by
  unfold sp_jn
  split
  · exact h1
  · next hne =>
    split
    · next ho =>
      simp only [Bool.and_eq_true, op_iff] at ho
      split
      · exact h2
      · split
        · exact h1
        · have k1 : sp_kd x = 7 := by rcases ho.1 with h | h; contradiction; exact h
          have k2 : sp_kd y = 7 := by rcases ho.2 with h | h; contradiction; exact h
          have hx8 := sp_wt7 hx k1
          obtain ⟨-, -, i3⟩ := jc_in hs (sp_wt7 hy k2) 7 _ (by omega) hx8
          by_cases z0 : z = 0
          · exact Or.inr (Or.inl z0)
          · have q1 : sp_kd z = 7 ∧ sp_il P (sp_pt z) (sp_pt x) = true := by
              rcases h1 with rfl | h | ⟨k, h | h⟩
              · exact ⟨k1, in_rf hs hx8⟩
              · contradiction
              · contradiction
              · exact ⟨k, h.2⟩
            have q2 : sp_il P (sp_pt z) (sp_pt y) = true := by
              rcases h2 with rfl | h | ⟨k, h | h⟩
              · exact in_rf hs (sp_wt7 hy k2)
              · contradiction
              · contradiction
              · exact h.2
            refine Or.inr (Or.inr ⟨q1.1, Or.inr ⟨kd_16 _, ?_⟩⟩)
            rw [pt_16]
            exact i3 _ q1.2 q2
    · next ho =>
      by_cases z0 : z = 0
      · exact Or.inr (Or.inl z0)
      · exfalso
        apply ho
        rw [Bool.and_eq_true, op_iff, op_iff]
        rcases h1 with rfl | h | ⟨k, h⟩
        · rcases h2 with rfl | h | ⟨k, h⟩
          · exact absurd rfl hne
          · contradiction
          · exact ⟨Or.inr k, h.imp id (·.1)⟩
        · contradiction
        · refine ⟨h.imp id (·.1), ?_⟩
          rcases h2 with rfl | h | ⟨_, h⟩
          · exact Or.inr k
          · contradiction
          · exact h.imp id (·.1)
