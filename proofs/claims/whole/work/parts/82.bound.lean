/-! HOW MANY BYTES AT MOST: the rows of a METHOD that is not WRONG -/
def ps_o (o : Nat) : Nat := if (1 ≤ o ∧ o ≤ 5) ∨ o = 8 ∨ (21 ≤ o ∧ o ≤ 25) ∨ o = 35 then 1 else 0
def ss_o (o : Nat) : Nat := if 26 ≤ o ∧ o ≤ 30 then 1 else 0
def js_o (o : Nat) : Nat := if 31 ≤ o ∧ o ≤ 34 then 1 else 0
def nt : List Nat → Nat
  | [] => 0
  | t :: L => (if t = 0 then 0 else 1) + nt L
theorem nt_le : ∀ L : List Nat, nt L ≤ L.length
  | [] => Nat.le_refl _
  | t :: L => by
    have := nt_le L
    unfold nt
    simp only [List.length_cons]
    split <;> omega
theorem nt_set : ∀ (L : List Nat) (i x : Nat), nt (L.set i x) ≤ nt L + 1
  | [], _, _ => by simp [nt]
  | t :: L, 0, x => by
    simp only [List.set_cons_zero, nt]
    split <;> split <;> omega
  | t :: L, i + 1, x => by
    have := nt_set L i x
    simp only [List.set_cons_succ, nt]
    omega
theorem nt_set0 : ∀ (L : List Nat) (i : Nat), nt (L.set i 0) ≤ nt L
  | [], _ => by simp [nt]
  | t :: L, 0 => by
    simp only [List.set_cons_zero, nt, if_true]
    omega
  | t :: L, i + 1 => by
    have := nt_set0 L i
    simp only [List.set_cons_succ, nt]
    omega
theorem nt_rep {x y : Nat} (hx : x ≠ 0) : ∀ L : List Nat, nt (sp_rep x y L) ≤ nt L
  | [] => Nat.le_refl _
  | t :: L => by
    have := nt_rep (y := y) hx L
    show nt ((if t = x then y else t) :: sp_rep x y L) ≤ _
    unfold nt
    by_cases e : t = x
    · subst e
      rw [if_pos rfl, if_neg hx]
      by_cases e0 : y = 0
      · rw [if_pos e0]
        omega
      · rw [if_neg e0]
        omega
    · rw [if_neg e]
      omega
theorem nt_up {P : sp_P} : ∀ {L K : List Nat}, le_L P L K → nt K ≤ nt L
  | [], [], _ => Nat.le_refl _
  | x :: L, y :: K, h => by
    have := nt_up h.2
    unfold nt
    by_cases e : x = 0
    · subst e
      have hy : y = 0 := by
        rcases h.1 with h | h | ⟨k, h | h⟩
        · exact h.symm
        · exact h
        · cases h
        · cases h.1
      rw [hy]
      omega
    · rw [if_neg e]
      split <;> omega
theorem nt_sto (L : List Nat) (a x : Nat) : nt (sp_sto L a x) ≤ nt L + 1 := by
  have h1 : nt (if 0 < a ∧ sp_wd (L.getD (a - 1) 0) = 2 then L.set (a - 1) 0 else L) ≤ nt L := by
    split
    · exact nt_set0 _ _
    · exact Nat.le_refl _
  unfold sp_sto
  dsimp only
  have h2 := nt_set (if 0 < a ∧ sp_wd (L.getD (a - 1) 0) = 2 then L.set (a - 1) 0 else L) a x
  split
  · have := nt_set0 ((if 0 < a ∧ sp_wd (L.getD (a - 1) 0) = 2 then L.set (a - 1) 0 else L).set a x) (a + 1)
    omega
  · omega
theorem ln_psh {x : Nat} {T T' : List Nat} (h : sp_psh x T = some T') : T'.length = T.length + 1 := by
  unfold sp_psh at h
  split at h
  · cases h
    rfl
  · cases h
theorem ln_sum {t : Nat} : ∀ {T T' : List Nat}, sp_sum t T = some T' → T'.length ≤ T.length
  | [], _, h => by cases h
  | [_], _, h => by cases h
  | x :: y :: T, T', hp => by
    unfold sp_sum at hp
    dsimp only at hp
    split at hp
    · have := ln_psh hp
      simp only [List.length_cons]
      omega
    · cases hp
theorem ln_swp {t u : Nat} : ∀ {T T' : List Nat}, sp_swp t u T = some T' → T'.length ≤ T.length
  | [], _, h => by cases h
  | x :: T, T', hp => by
    unfold sp_swp at hp
    dsimp only at hp
    split at hp
    · have := ln_psh hp
      simp only [List.length_cons]
      omega
    · cases hp
theorem ln_stk {P : sp_P} {o : Nat} {F : sp_F} {T' : List Nat} (ho : o ≤ 20) (hp : sp_stk P o F = some T') : T'.length ≤ F.2.1.length + ps_o o := by
  obtain ⟨L, T, b⟩ := F
  dsimp only
  unfold sp_stk at hp
  split at hp
  · cases hp
    exact Nat.le_add_right _ _
  · dsimp only at hp
    match T, hp with
    | x :: T, hp =>
      dsimp only at hp
      split at hp
      · cases hp
        simp only [List.length_cons]
        omega
      · cases hp
  · dsimp only at hp
    match T, hp with
    | x :: T, hp =>
      dsimp only at hp
      split at hp
      · cases hp
        simp only [List.length_cons]
        omega
      · match T, hp with
        | x2 :: T, hp =>
          dsimp only at hp
          split at hp
          · cases hp
            simp only [List.length_cons]
            omega
          · cases hp
  · dsimp only at hp
    match T, hp with
    | x :: T, hp =>
      dsimp only at hp
      split at hp
      · have := ln_psh hp
        rw [this]
        exact Nat.le_refl _
      · cases hp
  · dsimp only at hp
    match T, hp with
    | x :: x2 :: T, hp =>
      dsimp only at hp
      split at hp
      · cases hp
        simp only [List.length_cons]
        omega
      · cases hp
  · exact Nat.le_trans (ln_sum hp) (Nat.le_add_right _ _)
  · exact Nat.le_trans (ln_sum hp) (Nat.le_add_right _ _)
  · exact Nat.le_trans (ln_sum hp) (Nat.le_add_right _ _)
  · exact Nat.le_trans (ln_sum hp) (Nat.le_add_right _ _)
  · exact Nat.le_trans (ln_swp hp) (Nat.le_add_right _ _)
  · exact Nat.le_trans (ln_swp hp) (Nat.le_add_right _ _)
  · exact Nat.le_trans (ln_swp hp) (Nat.le_add_right _ _)
  · exact Nat.le_trans (ln_swp hp) (Nat.le_add_right _ _)
  · dsimp only at hp
    split at hp
    · cases hp
    · cases hp
      exact Nat.le_add_right _ _
  · dsimp only at hp
    match T, hp with
    | x :: T, hp =>
      dsimp only at hp
      split at hp
      · cases hp
        simp only [List.length_cons]
        omega
      · cases hp
  · dsimp only at hp
    match T, hp with
    | x :: T, hp =>
      dsimp only at hp
      split at hp
      · cases hp
        exact Nat.le_add_right _ _
      · cases hp
  · next q0 q6 q7 q8 q9 q10 q11 q12 q13 q14 q15 q16 q17 q18 q19 q20 =>
    have := ln_psh hp
    have h0 : o ≠ 0 := q0
    have : o ≠ 6 := q6
    have : o ≠ 7 := q7
    have : o ≠ 8 := q8
    have : o ≠ 9 := q9
    have : o ≠ 10 := q10
    have : o ≠ 11 := q11
    have : o ≠ 12 := q12
    have : o ≠ 13 := q13
    have : o ≠ 14 := q14
    have : o ≠ 15 := q15
    have : o ≠ 16 := q16
    have : o ≠ 17 := q17
    have : o ≠ 18 := q18
    have : o ≠ 19 := q19
    have : o ≠ 20 := q20
    have hps : ps_o o = 1 := by
      unfold ps_o
      rw [if_pos (by omega)]
    have hl : T'.length = T.length + 1 := ln_psh hp
    rw [hps]
    omega
/-- what a step adds -/
theorem nt_stp {P : sp_P} {p : Nat} {F F' : sp_F} (hp : sp_stp P p F = some F') : nt F'.1 ≤ nt F.1 + ss_o (pg_op P p) ∧ F'.2.1.length + nt F'.1 ≤ F.2.1.length + nt F.1 + ps_o (pg_op P p) ∧ F'.2.1.length ≤ F.2.1.length + ps_o (pg_op P p) := by
  unfold sp_stp at hp
  dsimp only at hp
  generalize pg_op P p = o at hp ⊢
  by_cases e : o ≤ 20
  · rw [if_pos e] at hp
    rw [Option.map_eq_some_iff] at hp
    obtain ⟨U', q1, rfl⟩ := hp
    have := ln_stk e q1
    dsimp only
    omega
  rw [if_neg e] at hp
  by_cases e25 : o ≤ 25
  · rw [if_pos e25] at hp
    split at hp
    · next e2 =>
      rw [Option.map_eq_some_iff] at hp
      obtain ⟨U', q1, rfl⟩ := hp
      have := ln_psh q1
      have hps : ps_o o = 1 := by
        unfold ps_o
        rw [if_pos (by omega)]
      dsimp only
      omega
    · cases hp
  rw [if_neg e25] at hp
  obtain ⟨L, T, b⟩ := F
  by_cases e3 : o ≤ 30
  · rw [if_pos e3] at hp
    match T, hp with
    | x :: T, hp =>
      dsimp only at hp
      split at hp
      · cases hp
        have := nt_sto L (pg_a P p) x
        have hss : ss_o o = 1 := by
          unfold ss_o
          rw [if_pos (by omega)]
        dsimp only
        simp only [List.length_cons]
        omega
      · cases hp
  rw [if_neg e3] at hp
  by_cases e : o = 31
  · rw [if_pos e] at hp
    cases hp
    dsimp only
    omega
  rw [if_neg e] at hp
  by_cases e : o = 32
  · rw [if_pos e] at hp
    match T, hp with
    | x :: T, hp =>
      dsimp only at hp
      split at hp
      · cases hp
        dsimp only
        simp only [List.length_cons]
        omega
      · cases hp
  rw [if_neg e] at hp
  by_cases e : o = 33
  · rw [if_pos e] at hp
    match T, hp with
    | x :: T, hp =>
      dsimp only at hp
      split at hp
      · cases hp
        dsimp only
        simp only [List.length_cons]
        omega
      · cases hp
  rw [if_neg e] at hp
  by_cases e34 : o = 34
  · rw [if_pos e34] at hp
    match T, hp with
    | x :: x2 :: T, hp =>
      dsimp only at hp
      split at hp
      · cases hp
        dsimp only
        simp only [List.length_cons]
        omega
      · cases hp
  rw [if_neg e34] at hp
  by_cases e35 : o = 35
  · rw [if_pos e35] at hp
    rw [Option.map_eq_some_iff] at hp
    obtain ⟨U', q1, rfl⟩ := hp
    have hl : U'.length = T.length + 1 := ln_psh q1
    have hps : ps_o o = 1 := by
      unfold ps_o
      rw [if_pos (by omega)]
    dsimp only
    omega
  rw [if_neg e35] at hp
  by_cases e : o = 36
  · rw [if_pos e] at hp
    unfold sp_ini at hp
    match T, hp with
    | x :: T, hp =>
      dsimp only at hp
      split at hp
      · split at hp
        · cases hp
          have := nt_rep (x := 6) (y := 16 * pg_own P + 7) (by decide) L
          have hl : (sp_rep 6 (16 * pg_own P + 7) T).length = T.length := List.length_map _
          dsimp only
          simp only [List.length_cons]
          omega
        · cases hp
      · split at hp
        · next e8 =>
          cases hat : sp_at P (sp_pt x) with
          | none => rw [hat] at hp; cases hp
          | some q =>
            rw [hat] at hp
            dsimp only at hp
            split at hp
            · cases hp
              have := nt_rep (x := x) (y := 16 * pg_a P p + 7) (by rintro rfl; cases e8) L
              have hl : (sp_rep x (16 * pg_a P p + 7) T).length = T.length := List.length_map _
              dsimp only
              simp only [List.length_cons]
              omega
            · cases hp
        · cases hp
  rw [if_neg e] at hp
  match T, hp with
  | x :: T, hp =>
    dsimp only at hp
    by_cases e2 : (sp_op x && sp_is P x (16 * (if o = 39 then 0 else pg_a P p) + 7)) = true
    · rw [if_pos e2] at hp
      rw [Option.map_eq_some_iff] at hp
      obtain ⟨U', q1, rfl⟩ := hp
      have := ln_psh q1
      dsimp only
      simp only [List.length_cons]
      omega
    · rw [if_neg e2] at hp
      cases hp
