/-- the machine with cuts: a way on to a cut goes to kt, a way back to bk -/
def zm_ic : List Nat → Nat → Bool
  | [], _ => false
  | a :: l, n => match Nat.beq a n with
    | true => true
    | false => zm_ic l n
def zm_gc {T : Type} (Y : zm_Y) (X : zm_X) (ret : Option zm_V → zm_M → Option T) (cuts : List Nat) (kt bk : Nat → zm_L → List zm_V → zm_M → Option T) : zm_C → Nat → zm_L → List zm_V → zm_M → Option T
  | [], _, _, _, _ => none
  | (q, ins, nx, ts) :: code, pc, lo, st, M => match Nat.beq q pc with
    | true => zm_ex Y X ret (fun pc' lo st M => match Nat.ble pc' q with
      | true => bk pc' lo st M
      | false => match zm_ic cuts pc' with
        | true => kt pc' lo st M
        | false => zm_gc Y X ret cuts kt bk code pc' lo st M) nx ts lo st M ins
    | false => zm_gc Y X ret cuts kt bk code pc lo st M
theorem zm_go_sk {T : Type} {Y : zm_Y} {X : zm_X} {ret : Option zm_V → zm_M → Option T} {back : Nat → zm_L → List zm_V → zm_M → Option T} {suf : zm_C} {pc : Nat} {lo : zm_L} {st : List zm_V} {M : zm_M} : ∀ (pre : zm_C), (∀ e ∈ pre, e.1 ≠ pc) → zm_go Y X ret back (pre ++ suf) pc lo st M = zm_go Y X ret back suf pc lo st M
  | [], _ => rfl
  | (q, ins, nx, ts) :: pre, h => by
    have h1 : Nat.beq q pc = false := by
      cases hb : Nat.beq q pc with
      | false => rfl
      | true => exact absurd (Nat.eq_of_beq_eq_true hb) (h _ List.mem_cons_self)
    have ih := zm_go_sk (Y := Y) (X := X) (ret := ret) (back := back) (suf := suf) (lo := lo) (st := st) (M := M) pre (fun e he => h e (List.mem_cons_of_mem _ he))
    rw [List.cons_append, zm_go, h1]
    exact ih
theorem zm_gc_go {T : Type} {Y : zm_Y} {X : zm_X} {ret : Option zm_V → zm_M → Option T} {cuts : List Nat} {full : zm_C} {n : Nat} (hs : full.Pairwise (fun a b => a.1 < b.1)) : ∀ (code pre : zm_C), full = pre ++ code → ∀ pc lo st M, zm_gc Y X ret cuts (zm_rn Y X ret full (n + 1)) (zm_rn Y X ret full n) code pc lo st M = zm_go Y X ret (zm_rn Y X ret full n) code pc lo st M
  | [], _, _, _, _, _, _ => rfl
  | (q, ins, nx, ts) :: code, pre, hf, pc, lo, st, M => by
    have hf2 : full = (pre ++ [(q, ins, nx, ts)]) ++ code := by rw [hf, List.append_assoc]; rfl
    have ih := zm_gc_go (Y := Y) (X := X) (ret := ret) (cuts := cuts) (n := n) hs code (pre ++ [(q, ins, nx, ts)]) hf2
    rw [zm_gc, zm_go]
    cases hq : Nat.beq q pc with
    | false => exact ih _ _ _ _
    | true =>
      have hK : (fun (pc' : Nat) (lo : zm_L) (st : List zm_V) (M : zm_M) => match Nat.ble pc' q with
          | true => zm_rn Y X ret full n pc' lo st M
          | false => match zm_ic cuts pc' with
            | true => zm_rn Y X ret full (n + 1) pc' lo st M
            | false => zm_gc Y X ret cuts (zm_rn Y X ret full (n + 1)) (zm_rn Y X ret full n) code pc' lo st M) = (fun pc' lo st M => match Nat.ble pc' q with
          | true => zm_rn Y X ret full n pc' lo st M
          | false => zm_go Y X ret (zm_rn Y X ret full n) code pc' lo st M) := by
        funext pc' lo' st' M'
        cases hb : Nat.ble pc' q with
        | true => rfl
        | false =>
          cases hc : zm_ic cuts pc' with
          | false => exact ih _ _ _ _
          | true =>
            show zm_go Y X ret (zm_rn Y X ret full n) full pc' lo' st' M' = zm_go Y X ret (zm_rn Y X ret full n) code pc' lo' st' M'
            have hlt : q < pc' := Nat.lt_of_not_le fun h => by rw [Nat.ble_eq_true_of_le h] at hb; cases hb
            have e := zm_go_sk (Y := Y) (X := X) (ret := ret) (back := zm_rn Y X ret full n) (suf := code) (pc := pc') (lo := lo') (st := st') (M := M') (pre ++ [(q, ins, nx, ts)]) (fun e he => by
              rcases List.mem_append.mp he with h1 | h1
              · have h2 : e.1 < q := by
                  rw [hf] at hs
                  exact (List.pairwise_append.mp hs).2.2 e h1 (q, ins, nx, ts) List.mem_cons_self
                omega
              · rw [List.mem_singleton] at h1
                subst h1
                exact Nat.ne_of_lt hlt)
            rw [← hf2] at e
            exact e
      exact congrArg (fun K => zm_ex Y X ret K nx ts lo st M ins) hK
theorem zm_gc_ok {T : Type} {Y : zm_Y} {X : zm_X} {ret : Option zm_V → zm_M → Option T} {cuts : List Nat} {full : zm_C} {n : Nat} (pre code : zm_C) (hf : full = pre ++ code) (hs : full.Pairwise (fun a b => a.1 < b.1)) {pc : Nat} (hp : ∀ e ∈ pre, e.1 ≠ pc) {lo : zm_L} {st : List zm_V} {M : zm_M} : zm_gc Y X ret cuts (zm_rn Y X ret full (n + 1)) (zm_rn Y X ret full n) code pc lo st M = zm_rn Y X ret full (n + 1) pc lo st M := by
  rw [zm_gc_go hs code pre hf]
  have e := zm_go_sk (Y := Y) (X := X) (ret := ret) (back := zm_rn Y X ret full n) (suf := code) (pc := pc) (lo := lo) (st := st) (M := M) pre hp
  rw [← hf] at e
  exact e.symm
theorem zb_0 {α : Type} {A : Option α} : (if (0 : Int32) = 0 ∨ (0 : Int32) = 1 then A else none) = A := rfl
theorem zb_1 {α : Type} {A : Option α} : (if (1 : Int32) = 0 ∨ (1 : Int32) = 1 then A else none) = A := rfl
theorem kz_B10 : (Int8.ofInt 10).toInt32 = (10 : Int32) := by decide
theorem kz_B127 : (Int8.ofInt 127).toInt32 = (127 : Int32) := by decide
theorem kz_B13 : (Int8.ofInt 13).toInt32 = (13 : Int32) := by decide
theorem kz_B15 : (Int8.ofInt 15).toInt32 = (15 : Int32) := by decide
theorem kz_B16 : (Int8.ofInt 16).toInt32 = (16 : Int32) := by decide
theorem kz_B17 : (Int8.ofInt 17).toInt32 = (17 : Int32) := by decide
theorem kz_B18 : (Int8.ofInt 18).toInt32 = (18 : Int32) := by decide
theorem kz_B20 : (Int8.ofInt 20).toInt32 = (20 : Int32) := by decide
theorem kz_B21 : (Int8.ofInt 21).toInt32 = (21 : Int32) := by decide
theorem kz_B22 : (Int8.ofInt 22).toInt32 = (22 : Int32) := by decide
theorem kz_B24 : (Int8.ofInt 24).toInt32 = (24 : Int32) := by decide
theorem kz_B25 : (Int8.ofInt 25).toInt32 = (25 : Int32) := by decide
theorem kz_B26 : (Int8.ofInt 26).toInt32 = (26 : Int32) := by decide
theorem kz_B27 : (Int8.ofInt 27).toInt32 = (27 : Int32) := by decide
theorem kz_B29 : (Int8.ofInt 29).toInt32 = (29 : Int32) := by decide
theorem kz_B30 : (Int8.ofInt 30).toInt32 = (30 : Int32) := by decide
theorem kz_B31 : (Int8.ofInt 31).toInt32 = (31 : Int32) := by decide
theorem kz_B32 : (Int8.ofInt 32).toInt32 = (32 : Int32) := by decide
theorem kz_B34 : (Int8.ofInt 34).toInt32 = (34 : Int32) := by decide
theorem kz_B35 : (Int8.ofInt 35).toInt32 = (35 : Int32) := by decide
theorem kz_B36 : (Int8.ofInt 36).toInt32 = (36 : Int32) := by decide
theorem kz_B37 : (Int8.ofInt 37).toInt32 = (37 : Int32) := by decide
theorem kz_B38 : (Int8.ofInt 38).toInt32 = (38 : Int32) := by decide
theorem kz_B39 : (Int8.ofInt 39).toInt32 = (39 : Int32) := by decide
theorem kz_B49 : (Int8.ofInt 49).toInt32 = (49 : Int32) := by decide
theorem kz_B50 : (Int8.ofInt 50).toInt32 = (50 : Int32) := by decide
theorem kz_B6 : (Int8.ofInt 6).toInt32 = (6 : Int32) := by decide
theorem kz_B64 : (Int8.ofInt 64).toInt32 = (64 : Int32) := by decide
theorem kz_B7 : (Int8.ofInt 7).toInt32 = (7 : Int32) := by decide
theorem kz_B8 : (Int8.ofInt 8).toInt32 = (8 : Int32) := by decide
theorem kz_B9 : (Int8.ofInt 9).toInt32 = (9 : Int32) := by decide
theorem kz_Bm2 : (Int8.ofInt (-2)).toInt32 = (-2 : Int32) := by decide
theorem kz_Bm3 : (Int8.ofInt (-3)).toInt32 = (-3 : Int32) := by decide
theorem kz_Bm4 : (Int8.ofInt (-4)).toInt32 = (-4 : Int32) := by decide
theorem kz_Bm5 : (Int8.ofInt (-5)).toInt32 = (-5 : Int32) := by decide
theorem kz_I0 : (Int32.ofInt 0) = (0 : Int32) := by decide
theorem kz_I1 : (Int32.ofInt 1) = (1 : Int32) := by decide
theorem kz_I2 : (Int32.ofInt 2) = (2 : Int32) := by decide
theorem kz_I3 : (Int32.ofInt 3) = (3 : Int32) := by decide
theorem kz_I4 : (Int32.ofInt 4) = (4 : Int32) := by decide
theorem kz_I5 : (Int32.ofInt 5) = (5 : Int32) := by decide
theorem kz_Im1 : (Int32.ofInt (-1)) = (-1 : Int32) := by decide
theorem kz_S128 : (Int16.ofInt 128).toInt32 = (128 : Int32) := by decide
theorem kz_S246 : (Int16.ofInt 246).toInt32 = (246 : Int32) := by decide
theorem kz_S247 : (Int16.ofInt 247).toInt32 = (247 : Int32) := by decide
theorem kz_S248 : (Int16.ofInt 248).toInt32 = (248 : Int32) := by decide
theorem kz_S250 : (Int16.ofInt 250).toInt32 = (250 : Int32) := by decide
theorem kz_S251 : (Int16.ofInt 251).toInt32 = (251 : Int32) := by decide
theorem kz_S255 : (Int16.ofInt 255).toInt32 = (255 : Int32) := by decide
theorem kz_S256 : (Int16.ofInt 256).toInt32 = (256 : Int32) := by decide
theorem kz_S400 : (Int16.ofInt 400).toInt32 = (400 : Int32) := by decide
theorem kz_T0_0 : (Int32.ofInt 0) = (0 : Int32) := by decide
theorem kz_T0_1 : (Int32.ofInt (0 + 1)) = (1 : Int32) := by decide
theorem kz_T0_10 : (Int32.ofInt ((((((((((0 + 1) + 1) + 1) + 1) + 1) + 1) + 1) + 1) + 1) + 1)) = (10 : Int32) := by decide
theorem kz_T0_11 : (Int32.ofInt (((((((((((0 + 1) + 1) + 1) + 1) + 1) + 1) + 1) + 1) + 1) + 1) + 1)) = (11 : Int32) := by decide
theorem kz_T0_12 : (Int32.ofInt ((((((((((((0 + 1) + 1) + 1) + 1) + 1) + 1) + 1) + 1) + 1) + 1) + 1) + 1)) = (12 : Int32) := by decide
theorem kz_T0_13 : (Int32.ofInt (((((((((((((0 + 1) + 1) + 1) + 1) + 1) + 1) + 1) + 1) + 1) + 1) + 1) + 1) + 1)) = (13 : Int32) := by decide
theorem kz_T0_14 : (Int32.ofInt ((((((((((((((0 + 1) + 1) + 1) + 1) + 1) + 1) + 1) + 1) + 1) + 1) + 1) + 1) + 1) + 1)) = (14 : Int32) := by decide
theorem kz_T0_15 : (Int32.ofInt (((((((((((((((0 + 1) + 1) + 1) + 1) + 1) + 1) + 1) + 1) + 1) + 1) + 1) + 1) + 1) + 1) + 1)) = (15 : Int32) := by decide
theorem kz_T0_16 : (Int32.ofInt ((((((((((((((((0 + 1) + 1) + 1) + 1) + 1) + 1) + 1) + 1) + 1) + 1) + 1) + 1) + 1) + 1) + 1) + 1)) = (16 : Int32) := by decide
theorem kz_T0_17 : (Int32.ofInt (((((((((((((((((0 + 1) + 1) + 1) + 1) + 1) + 1) + 1) + 1) + 1) + 1) + 1) + 1) + 1) + 1) + 1) + 1) + 1)) = (17 : Int32) := by decide
theorem kz_T0_18 : (Int32.ofInt ((((((((((((((((((0 + 1) + 1) + 1) + 1) + 1) + 1) + 1) + 1) + 1) + 1) + 1) + 1) + 1) + 1) + 1) + 1) + 1) + 1)) = (18 : Int32) := by decide
theorem kz_T0_19 : (Int32.ofInt (((((((((((((((((((0 + 1) + 1) + 1) + 1) + 1) + 1) + 1) + 1) + 1) + 1) + 1) + 1) + 1) + 1) + 1) + 1) + 1) + 1) + 1)) = (19 : Int32) := by decide
theorem kz_T0_2 : (Int32.ofInt ((0 + 1) + 1)) = (2 : Int32) := by decide
theorem kz_T0_3 : (Int32.ofInt (((0 + 1) + 1) + 1)) = (3 : Int32) := by decide
theorem kz_T0_4 : (Int32.ofInt ((((0 + 1) + 1) + 1) + 1)) = (4 : Int32) := by decide
theorem kz_T0_5 : (Int32.ofInt (((((0 + 1) + 1) + 1) + 1) + 1)) = (5 : Int32) := by decide
theorem kz_T0_6 : (Int32.ofInt ((((((0 + 1) + 1) + 1) + 1) + 1) + 1)) = (6 : Int32) := by decide
theorem kz_T0_7 : (Int32.ofInt (((((((0 + 1) + 1) + 1) + 1) + 1) + 1) + 1)) = (7 : Int32) := by decide
theorem kz_T0_8 : (Int32.ofInt ((((((((0 + 1) + 1) + 1) + 1) + 1) + 1) + 1) + 1)) = (8 : Int32) := by decide
theorem kz_T0_9 : (Int32.ofInt (((((((((0 + 1) + 1) + 1) + 1) + 1) + 1) + 1) + 1) + 1)) = (9 : Int32) := by decide
theorem kz_T14_0 : (Int32.ofInt 14) = (14 : Int32) := by decide
theorem kz_T14_1 : (Int32.ofInt (14 + 1)) = (15 : Int32) := by decide
theorem kz_T14_2 : (Int32.ofInt ((14 + 1) + 1)) = (16 : Int32) := by decide
theorem kz_T14_3 : (Int32.ofInt (((14 + 1) + 1) + 1)) = (17 : Int32) := by decide
theorem kz_T14_4 : (Int32.ofInt ((((14 + 1) + 1) + 1) + 1)) = (18 : Int32) := by decide
theorem kz_T14_5 : (Int32.ofInt (((((14 + 1) + 1) + 1) + 1) + 1)) = (19 : Int32) := by decide
theorem kz_T31_0 : (Int32.ofInt 31) = (31 : Int32) := by decide
theorem kz_T31_1 : (Int32.ofInt (31 + 1)) = (32 : Int32) := by decide
theorem kz_T31_2 : (Int32.ofInt ((31 + 1) + 1)) = (33 : Int32) := by decide
theorem kz_T31_3 : (Int32.ofInt (((31 + 1) + 1) + 1)) = (34 : Int32) := by decide
theorem kz_T31_4 : (Int32.ofInt ((((31 + 1) + 1) + 1) + 1)) = (35 : Int32) := by decide
theorem kz_T31_5 : (Int32.ofInt (((((31 + 1) + 1) + 1) + 1) + 1)) = (36 : Int32) := by decide
