/-! ONE TURN OF THE LAW'S LOOP, AND THE LOOP -/
theorem cl_law {f g : zm_M → Option (Int32 × zm_M)} {M : zm_M} (h : cl f g M) (K Z : zm_M → Option (Int32 × zm_M)) : ∃ M2 P B, iv P B M2 ∧ ((f M).bind fun q1 => (g q1.2).bind fun q2 => if q1.1 = q2.1 then K q2.2 else Z q2.2) = K M2 := by
  obtain ⟨v, M1, M2, h1, -, h3, P, B, hi⟩ := h
  refine ⟨M2, P, B, hi, ?_⟩
  rw [h1]
  show ((g M1).bind fun q2 => if v = q2.1 then K q2.2 else Z q2.2) = K M2
  rw [h3]
  show (if v = v then K M2 else Z M2) = K M2
  rw [if_pos rfl]
theorem lw_in {k L : Nat} (h : k < L) (hL : L < 2 ^ 30) : ¬ (nI k < 0 ∨ L ≤ (nI k).toNatClampNeg) := by
  rw [nI_clamp (by omega), nz_0]
  exact ni_in h (by omega)
theorem lw_cmp {k L : Nat} (hL : L < 2 ^ 30) (hk : k < 2 ^ 30) : (nI L - (5 : Int32) < nI k) ↔ L < k + 5 := by
  rw [nz_5, Int32.lt_iff_toInt_lt, pk_sub_toInt hL (by decide), nI_toInt (by omega)]
  omega
def lw_lo (k : Nat) : zm_L := [some (.inr (63, 0)), some (.inr (0, 0)), some (.inr (35, 0)), some (.inl (nI k))]
/-- a call of the law comes to the loop's end -/
def lw_ok (L : Nat) (xs : Nat → Int32) (n pc k : Nat) (M : zm_M) : Prop := ∃ M2 P B, iv P B M2 ∧ rr_law L xs (n + 1) pc (lw_lo k) [] M = rr_law L xs (n + 1) 625 (lw_lo k) [] M2
theorem lw_c_108 {L : Nat} {xs : Nat → Int32} {n k : Nat} {M : zm_M} {P : sp_P} {B : List Nat} (hL : L < 2 ^ 30) (hk : k + 5 ≤ L) (hi : iv P B M) : lw_ok L xs n 108 k M := by
  unfold lw_ok lw_lo
  rw [eq_law_108]
  have a1 : nI k + (1 : Int32) = nI (k + 1) := by rw [nz_1, nI_add]
  have b1 := lw_in (show k + 1 < L by omega) hL
  have a2 : nI k + (2 : Int32) = nI (k + 2) := by rw [nz_2, nI_add]
  have b2 := lw_in (show k + 2 < L by omega) hL
  have a3 : nI k + (3 : Int32) = nI (k + 3) := by rw [nz_3, nI_add]
  have b3 := lw_in (show k + 3 < L by omega) hL
  simp only [a1, a2, a3, if_neg b1, if_neg b2, if_neg b3]
  by_cases e : xs (nI (k + 3)).toNatClampNeg = 0
  · simp only [if_pos e]
    exact cl_law (cl_type hi _ _ false) (rr_law L xs (n + 1) 625 [some (.inr (63, 0)), some (.inr (0, 0)), some (.inr (35, 0)), some (.inl (nI k))] []) (fun M => some ((0 : Int32), M))
  · simp only [if_neg e]
    exact cl_law (cl_type hi _ _ true) (rr_law L xs (n + 1) 625 [some (.inr (63, 0)), some (.inr (0, 0)), some (.inr (35, 0)), some (.inl (nI k))] []) (fun M => some ((0 : Int32), M))
theorem lw_c_167 {L : Nat} {xs : Nat → Int32} {n k : Nat} {M : zm_M} {P : sp_P} {B : List Nat} (hL : L < 2 ^ 30) (hk : k + 5 ≤ L) (hi : iv P B M) : lw_ok L xs n 167 k M := by
  unfold lw_ok lw_lo
  rw [eq_law_167]
  have a1 : nI k + (1 : Int32) = nI (k + 1) := by rw [nz_1, nI_add]
  have b1 := lw_in (show k + 1 < L by omega) hL
  have a2 : nI k + (2 : Int32) = nI (k + 2) := by rw [nz_2, nI_add]
  have b2 := lw_in (show k + 2 < L by omega) hL
  have a3 : nI k + (3 : Int32) = nI (k + 3) := by rw [nz_3, nI_add]
  have b3 := lw_in (show k + 3 < L by omega) hL
  simp only [a1, a2, a3, if_neg b1, if_neg b2, if_neg b3]
  by_cases e : xs (nI (k + 3)).toNatClampNeg = 0
  · simp only [if_pos e]
    exact cl_law (cl_method hi _ _ false) (rr_law L xs (n + 1) 625 [some (.inr (63, 0)), some (.inr (0, 0)), some (.inr (35, 0)), some (.inl (nI k))] []) (fun M => some ((0 : Int32), M))
  · simp only [if_neg e]
    exact cl_law (cl_method hi _ _ true) (rr_law L xs (n + 1) 625 [some (.inr (63, 0)), some (.inr (0, 0)), some (.inr (35, 0)), some (.inl (nI k))] []) (fun M => some ((0 : Int32), M))
theorem lw_c_226 {L : Nat} {xs : Nat → Int32} {n k : Nat} {M : zm_M} {P : sp_P} {B : List Nat} (hL : L < 2 ^ 30) (hk : k + 5 ≤ L) (hi : iv P B M) : lw_ok L xs n 226 k M := by
  unfold lw_ok lw_lo
  rw [eq_law_226]
  have a1 : nI k + (1 : Int32) = nI (k + 1) := by rw [nz_1, nI_add]
  have b1 := lw_in (show k + 1 < L by omega) hL
  simp only [a1, if_neg b1]
  exact cl_law (cl_argument hi _) (rr_law L xs (n + 1) 625 [some (.inr (63, 0)), some (.inr (0, 0)), some (.inr (35, 0)), some (.inl (nI k))] []) (fun M => some ((0 : Int32), M))
theorem lw_c_249 {L : Nat} {xs : Nat → Int32} {n k : Nat} {M : zm_M} {P : sp_P} {B : List Nat} (hL : L < 2 ^ 30) (hk : k + 5 ≤ L) (hi : iv P B M) : lw_ok L xs n 249 k M := by
  unfold lw_ok lw_lo
  rw [eq_law_249]
  have a1 : nI k + (1 : Int32) = nI (k + 1) := by rw [nz_1, nI_add]
  have b1 := lw_in (show k + 1 < L by omega) hL
  have a2 : nI k + (2 : Int32) = nI (k + 2) := by rw [nz_2, nI_add]
  have b2 := lw_in (show k + 2 < L by omega) hL
  have a3 : nI k + (3 : Int32) = nI (k + 3) := by rw [nz_3, nI_add]
  have b3 := lw_in (show k + 3 < L by omega) hL
  simp only [a1, a2, a3, if_neg b1, if_neg b2, if_neg b3]
  exact cl_law (cl_add hi _ _ _) (rr_law L xs (n + 1) 625 [some (.inr (63, 0)), some (.inr (0, 0)), some (.inr (35, 0)), some (.inl (nI k))] []) (fun M => some ((0 : Int32), M))
theorem lw_c_292 {L : Nat} {xs : Nat → Int32} {n k : Nat} {M : zm_M} {P : sp_P} {B : List Nat} (hL : L < 2 ^ 30) (hk : k + 5 ≤ L) (hi : iv P B M) : lw_ok L xs n 292 k M := by
  unfold lw_ok lw_lo
  rw [eq_law_292]
  have a1 : nI k + (1 : Int32) = nI (k + 1) := by rw [nz_1, nI_add]
  have b1 := lw_in (show k + 1 < L by omega) hL
  have a2 : nI k + (2 : Int32) = nI (k + 2) := by rw [nz_2, nI_add]
  have b2 := lw_in (show k + 2 < L by omega) hL
  have a3 : nI k + (3 : Int32) = nI (k + 3) := by rw [nz_3, nI_add]
  have b3 := lw_in (show k + 3 < L by omega) hL
  have a4 : nI k + (4 : Int32) = nI (k + 4) := by rw [nz_4, nI_add]
  have b4 := lw_in (show k + 4 < L by omega) hL
  simp only [a1, a2, a3, a4, if_neg b1, if_neg b2, if_neg b3, if_neg b4]
  exact cl_law (cl_change hi _ _ _ _) (rr_law L xs (n + 1) 625 [some (.inr (63, 0)), some (.inr (0, 0)), some (.inr (35, 0)), some (.inl (nI k))] []) (fun M => some ((0 : Int32), M))
theorem lw_c_345 {L : Nat} {xs : Nat → Int32} {n k : Nat} {M : zm_M} {P : sp_P} {B : List Nat} (hL : L < 2 ^ 30) (hk : k + 5 ≤ L) (hi : iv P B M) : lw_ok L xs n 345 k M := by
  unfold lw_ok lw_lo
  rw [eq_law_345]
  have a1 : nI k + (1 : Int32) = nI (k + 1) := by rw [nz_1, nI_add]
  have b1 := lw_in (show k + 1 < L by omega) hL
  have a2 : nI k + (2 : Int32) = nI (k + 2) := by rw [nz_2, nI_add]
  have b2 := lw_in (show k + 2 < L by omega) hL
  have a3 : nI k + (3 : Int32) = nI (k + 3) := by rw [nz_3, nI_add]
  have b3 := lw_in (show k + 3 < L by omega) hL
  have a4 : nI k + (4 : Int32) = nI (k + 4) := by rw [nz_4, nI_add]
  have b4 := lw_in (show k + 4 < L by omega) hL
  simp only [a1, a2, a3, a4, if_neg b1, if_neg b2, if_neg b3, if_neg b4]
  exact cl_law (cl_handle hi _ _ _ _) (rr_law L xs (n + 1) 625 [some (.inr (63, 0)), some (.inr (0, 0)), some (.inr (35, 0)), some (.inl (nI k))] []) (fun M => some ((0 : Int32), M))
theorem lw_c_398 {L : Nat} {xs : Nat → Int32} {n k : Nat} {M : zm_M} {P : sp_P} {B : List Nat} (hL : L < 2 ^ 30) (hk : k + 5 ≤ L) (hi : iv P B M) : lw_ok L xs n 398 k M := by
  unfold lw_ok lw_lo
  rw [eq_law_398]
  exact cl_law (cl_make hi) (rr_law L xs (n + 1) 625 [some (.inr (63, 0)), some (.inr (0, 0)), some (.inr (35, 0)), some (.inl (nI k))] []) (fun M => some ((0 : Int32), M))
theorem lw_c_411 {L : Nat} {xs : Nat → Int32} {n k : Nat} {M : zm_M} {P : sp_P} {B : List Nat} (hL : L < 2 ^ 30) (hk : k + 5 ≤ L) (hi : iv P B M) : lw_ok L xs n 411 k M := by
  unfold lw_ok lw_lo
  rw [eq_law_411]
  have a1 : nI k + (1 : Int32) = nI (k + 1) := by rw [nz_1, nI_add]
  have b1 := lw_in (show k + 1 < L by omega) hL
  have a2 : nI k + (2 : Int32) = nI (k + 2) := by rw [nz_2, nI_add]
  have b2 := lw_in (show k + 2 < L by omega) hL
  simp only [a1, a2, if_neg b1, if_neg b2]
  exact cl_law (cl_flow hi _ _) (rr_law L xs (n + 1) 625 [some (.inr (63, 0)), some (.inr (0, 0)), some (.inr (35, 0)), some (.inl (nI k))] []) (fun M => some ((0 : Int32), M))
theorem lw_c_444 {L : Nat} {xs : Nat → Int32} {n k : Nat} {M : zm_M} {P : sp_P} {B : List Nat} (hL : L < 2 ^ 30) (hk : k + 5 ≤ L) (hi : iv P B M) : lw_ok L xs n 444 k M := by
  unfold lw_ok lw_lo
  rw [eq_law_444]
  exact cl_law (cl_check hi) (rr_law L xs (n + 1) 625 [some (.inr (63, 0)), some (.inr (0, 0)), some (.inr (35, 0)), some (.inl (nI k))] []) (fun M => some ((0 : Int32), M))
theorem lw_c_457 {L : Nat} {xs : Nat → Int32} {n k : Nat} {M : zm_M} {P : sp_P} {B : List Nat} (hL : L < 2 ^ 30) (hk : k + 5 ≤ L) (hi : iv P B M) : lw_ok L xs n 457 k M := by
  unfold lw_ok lw_lo
  rw [eq_law_457]
  have a1 : nI k + (1 : Int32) = nI (k + 1) := by rw [nz_1, nI_add]
  have b1 := lw_in (show k + 1 < L by omega) hL
  simp only [a1, if_neg b1]
  exact cl_law (cl_map hi _) (rr_law L xs (n + 1) 625 [some (.inr (63, 0)), some (.inr (0, 0)), some (.inr (35, 0)), some (.inl (nI k))] []) (fun M => some ((0 : Int32), M))
theorem lw_c_480 {L : Nat} {xs : Nat → Int32} {n k : Nat} {M : zm_M} {P : sp_P} {B : List Nat} (hL : L < 2 ^ 30) (hk : k + 5 ≤ L) (hi : iv P B M) : lw_ok L xs n 480 k M := by
  unfold lw_ok lw_lo
  rw [eq_law_480]
  have a1 : nI k + (1 : Int32) = nI (k + 1) := by rw [nz_1, nI_add]
  have b1 := lw_in (show k + 1 < L by omega) hL
  have a2 : nI k + (2 : Int32) = nI (k + 2) := by rw [nz_2, nI_add]
  have b2 := lw_in (show k + 2 < L by omega) hL
  simp only [a1, a2, if_neg b1, if_neg b2]
  exact cl_law (cl_patch hi _ _) (rr_law L xs (n + 1) 625 [some (.inr (63, 0)), some (.inr (0, 0)), some (.inr (35, 0)), some (.inl (nI k))] []) (fun M => some ((0 : Int32), M))
theorem lw_c_513 {L : Nat} {xs : Nat → Int32} {n k : Nat} {M : zm_M} {P : sp_P} {B : List Nat} (hL : L < 2 ^ 30) (hk : k + 5 ≤ L) (hi : iv P B M) : lw_ok L xs n 513 k M := by
  unfold lw_ok lw_lo
  rw [eq_law_513]
  have a1 : nI k + (1 : Int32) = nI (k + 1) := by rw [nz_1, nI_add]
  have b1 := lw_in (show k + 1 < L by omega) hL
  simp only [a1, if_neg b1]
  exact cl_law (cl_cut hi _) (rr_law L xs (n + 1) 625 [some (.inr (63, 0)), some (.inr (0, 0)), some (.inr (35, 0)), some (.inl (nI k))] []) (fun M => some ((0 : Int32), M))
theorem lw_c_536 {L : Nat} {xs : Nat → Int32} {n k : Nat} {M : zm_M} {P : sp_P} {B : List Nat} (hL : L < 2 ^ 30) (hk : k + 5 ≤ L) (hi : iv P B M) : lw_ok L xs n 536 k M := by
  unfold lw_ok lw_lo
  rw [eq_law_536]
  have a1 : nI k + (1 : Int32) = nI (k + 1) := by rw [nz_1, nI_add]
  have b1 := lw_in (show k + 1 < L by omega) hL
  have a2 : nI k + (2 : Int32) = nI (k + 2) := by rw [nz_2, nI_add]
  have b2 := lw_in (show k + 2 < L by omega) hL
  simp only [a1, a2, if_neg b1, if_neg b2]
  exact cl_law (cl_row hi _ _) (rr_law L xs (n + 1) 625 [some (.inr (63, 0)), some (.inr (0, 0)), some (.inr (35, 0)), some (.inl (nI k))] []) (fun M => some ((0 : Int32), M))
theorem lw_c_569 {L : Nat} {xs : Nat → Int32} {n k : Nat} {M : zm_M} {P : sp_P} {B : List Nat} (hL : L < 2 ^ 30) (hk : k + 5 ≤ L) (hi : iv P B M) : lw_ok L xs n 569 k M := by
  unfold lw_ok lw_lo
  rw [eq_law_569]
  have a1 : nI k + (1 : Int32) = nI (k + 1) := by rw [nz_1, nI_add]
  have b1 := lw_in (show k + 1 < L by omega) hL
  have a2 : nI k + (2 : Int32) = nI (k + 2) := by rw [nz_2, nI_add]
  have b2 := lw_in (show k + 2 < L by omega) hL
  simp only [a1, a2, if_neg b1, if_neg b2]
  exact cl_law (cl_code hi _ _) (rr_law L xs (n + 1) 625 [some (.inr (63, 0)), some (.inr (0, 0)), some (.inr (35, 0)), some (.inl (nI k))] []) (fun M => some ((0 : Int32), M))
theorem lw_c_602 {L : Nat} {xs : Nat → Int32} {n k : Nat} {M : zm_M} {P : sp_P} {B : List Nat} (hL : L < 2 ^ 30) (hk : k + 5 ≤ L) (hi : iv P B M) : lw_ok L xs n 602 k M := by
  unfold lw_ok lw_lo
  rw [eq_law_602]
  have a1 : nI k + (1 : Int32) = nI (k + 1) := by rw [nz_1, nI_add]
  have b1 := lw_in (show k + 1 < L by omega) hL
  simp only [a1, if_neg b1]
  exact cl_law (cl_count hi _) (rr_law L xs (n + 1) 625 [some (.inr (63, 0)), some (.inr (0, 0)), some (.inr (35, 0)), some (.inl (nI k))] []) (fun M => some ((0 : Int32), M))
theorem law_turn {L : Nat} {xs : Nat → Int32} {n k : Nat} {M : zm_M} {P : sp_P} {B : List Nat} (hL : L < 2 ^ 30) (hk : k + 5 ≤ L) (hi : iv P B M) : lw_ok L xs n 18 k M := by
  unfold lw_ok lw_lo
  rw [eq_law_18, if_neg (by rw [lw_cmp hL (by omega)]; omega), if_neg (lw_in (by omega) hL)]
  generalize xs (nI k).toNatClampNeg &&& (15 : Int32) = z
  by_cases e0 : z = (0 : Int32)
  · rw [if_pos e0]
    exact lw_c_108 hL hk hi
  rw [if_neg e0]
  by_cases e1 : z = (1 : Int32)
  · rw [if_pos e1]
    exact lw_c_167 hL hk hi
  rw [if_neg e1]
  by_cases e2 : z = (2 : Int32)
  · rw [if_pos e2]
    exact lw_c_226 hL hk hi
  rw [if_neg e2]
  by_cases e3 : z = (3 : Int32)
  · rw [if_pos e3]
    exact lw_c_249 hL hk hi
  rw [if_neg e3]
  by_cases e4 : z = (4 : Int32)
  · rw [if_pos e4]
    exact lw_c_292 hL hk hi
  rw [if_neg e4]
  by_cases e5 : z = (5 : Int32)
  · rw [if_pos e5]
    exact lw_c_345 hL hk hi
  rw [if_neg e5]
  by_cases e6 : z = (6 : Int32)
  · rw [if_pos e6]
    exact lw_c_398 hL hk hi
  rw [if_neg e6]
  by_cases e7 : z = (7 : Int32)
  · rw [if_pos e7]
    exact lw_c_411 hL hk hi
  rw [if_neg e7]
  by_cases e8 : z = (8 : Int32)
  · rw [if_pos e8]
    exact lw_c_444 hL hk hi
  rw [if_neg e8]
  by_cases e9 : z = (9 : Int32)
  · rw [if_pos e9]
    exact lw_c_457 hL hk hi
  rw [if_neg e9]
  by_cases e10 : z = (10 : Int32)
  · rw [if_pos e10]
    exact lw_c_480 hL hk hi
  rw [if_neg e10]
  by_cases e11 : z = (11 : Int32)
  · rw [if_pos e11]
    exact lw_c_513 hL hk hi
  rw [if_neg e11]
  by_cases e12 : z = (12 : Int32)
  · rw [if_pos e12]
    exact lw_c_536 hL hk hi
  rw [if_neg e12]
  by_cases e13 : z = (13 : Int32)
  · rw [if_pos e13]
    exact lw_c_569 hL hk hi
  rw [if_neg e13]
  by_cases e14 : z = (14 : Int32)
  · rw [if_pos e14]
    exact lw_c_602 hL hk hi
  rw [if_neg e14]
  exact ⟨M, P, B, hi, rfl⟩
theorem law_loop (L : Nat) (xs : Nat → Int32) (hL : L < 2 ^ 30) : ∀ (n k : Nat) (M : zm_M) (P : sp_P) (B : List Nat), iv P B M → k ≤ L → L ≤ k + 5 * n + 4 → ∃ M', rr_law L xs (n + 1) 18 [some (.inr (63, 0)), some (.inr (0, 0)), some (.inr (35, 0)), some (.inl (nI k))] [] M = some (1, M')
  | 0, k, M, P, B, hi, h1, h2 => ⟨M, by
    rw [eq_law_18, if_pos ((lw_cmp hL (by omega)).mpr (by omega)), eq_law_631]⟩
  | n + 1, k, M, P, B, hi, h1, h2 => by
    by_cases h : L < k + 5
    · exact ⟨M, by rw [eq_law_18, if_pos ((lw_cmp hL (by omega)).mpr h), eq_law_631]⟩
    · obtain ⟨M2, P2, B2, hi2, e⟩ := law_turn (xs := xs) (n := n + 1) (M := M) hL (show k + 5 ≤ L by omega) hi
      obtain ⟨M', hM'⟩ := law_loop L xs hL n (k + 5) M2 P2 B2 hi2 (by omega) (by omega)
      refine ⟨M', e.trans ?_⟩
      unfold lw_lo
      rw [eq_law_625, nz_5, nI_add]
      exact hM'
/-! KINDS, as the Statement gives it -/
theorem yu_kinds {args : Array Value} {s : State} {A : Nat → Prop} (hts : ∀ w ∈ lw_tbl, w.before args s = true) (hgv : (Jvm.Cond.and given_1 narrow_1).before args s = true) (hA : ∀ a : Nat, a < s.heap.size → ¬ A a) : ∃ kd, va_T .int kd 5 (fun j => .int (zn_at ly_t j 0)) A s s.heap ∧ va_Z "MapForge" "KINDS" "[I" (.ref kd) A s s.heap := by
  have hs := flat_of_before _ hgv
  have harr : (Cond.arrayOf (.static "MapForge" "KINDS" "[I") .int).before args s = true := hs _ (by decide +kernel)
  have hlen : (Cond.eq (.length (.static "MapForge" "KINDS" "[I")) (.int 5)).before args s = true := hs _ (by decide +kernel)
  have h0 : (Cond.eq (.elem (.static "MapForge" "KINDS" "[I") (.int 0)) (.int 1)).before args s = true := hs _ (by decide +kernel)
  have h1 : (Cond.eq (.elem (.static "MapForge" "KINDS" "[I") (.int 1)) (.int 4)).before args s = true := hs _ (by decide +kernel)
  have h2 : (Cond.eq (.elem (.static "MapForge" "KINDS" "[I") (.int 2)) (.int 2)).before args s = true := hs _ (by decide +kernel)
  have h3 : (Cond.eq (.elem (.static "MapForge" "KINDS" "[I") (.int 3)) (.int 3)).before args s = true := hs _ (by decide +kernel)
  have h4 : (Cond.eq (.elem (.static "MapForge" "KINDS" "[I") (.int 4)) (.int 7)).before args s = true := hs _ (by decide +kernel)
  have hel : ∀ j : Nat, j < 5 → (Term.elem (.static "MapForge" "KINDS" "[I") (.int (Int32.ofNat j))).eval args s none [] s = some (.int (zn_at ly_t j 0)) := by
    intro j hj
    match j, hj with
    | 0, _ => exact va_eqt h0
    | 1, _ => exact va_eqt h1
    | 2, _ => exact va_eqt h2
    | 3, _ => exact va_eqt h3
    | 4, _ => exact va_eqt h4
    | j + 5, hj => exact absurd hj (by omega)
  obtain ⟨kd, ht, hT⟩ := va_Tof (tm := .static "MapForge" "KINDS" "[I") (ty := .int) (N := 5) (f := fun j => .int (zn_at ly_t j 0)) (by decide) harr (va_eqt hlen) hel hA
  exact ⟨kd, hT, va_Zof (hts _ wl_ls) (hts _ wl_in) ht hA⟩
/-! the law ahead of its loop -/
theorem dl_0 : decode code 0 = .ok (.new 7, 3) := by decide +kernel
theorem dl_3 : decode code 3 = .ok (.dup, 1) := by decide +kernel
theorem dl_4 : decode code 4 = .ok (.invokespecial 9, 3) := by decide +kernel
theorem dl_7 : decode code 7 = .ok (.astore_n 1, 1) := by decide +kernel
theorem dl_8 : decode code 8 = .ok (.new 10, 3) := by decide +kernel
theorem dl_11 : decode code 11 = .ok (.dup, 1) := by decide +kernel
theorem dl_12 : decode code 12 = .ok (.invokespecial 12, 3) := by decide +kernel
theorem dl_15 : decode code 15 = .ok (.astore_n 2, 1) := by decide +kernel
theorem dl_16 : decode code 16 = .ok (.iconst 0, 1) := by decide +kernel
theorem dl_17 : decode code 17 = .ok (.istore_n 3, 1) := by decide +kernel
