/-! THE FLOW AS A SYSTEM OF WANTS: what its end is, however it is gone through -/
abbrev af_A : Type := Nat → Option sp_F
def af_up (A : af_A) (q : Nat) (F : sp_F) : af_A := fun r => if r = q then some F else A r
def af_arr (P : sp_P) (A : af_A) (q : Nat) (F : sp_F) : Option af_A := if q < pg_n P then (match A q with
  | none => some (af_up A q F)
  | some G => (af_jn P G F).map (af_up A q)) else none
def af_to (P : sp_P) (S : af_A) (q : Nat) (F : sp_F) : Prop := q < pg_n P ∧ ∃ G, S q = some G ∧ le_F P F G
def af_gd (P : sp_P) (p h : Nat) : Prop := (pg_hd P h).1 ≤ p ∧ p < (pg_hd P h).2.1
def af_hf (P : sp_P) (h : Nat) (F : sp_F) : sp_F := (F.1, [16 * (pg_hd P h).2.2.2 + 7], F.2.2)
def af_cs (P : sp_P) (S : af_A) (p : Nat) (F : sp_F) : Prop := ∃ F', sp_stp P p F = some F' ∧ (sp_jmp (pg_op P p) = true → af_to P S (pg_b P p) F') ∧ (sp_end (pg_op P p) = false → af_to P S (p + 1) F')
def af_con (P : sp_P) (S : af_A) (p : Nat) (F : sp_F) : Prop := (∀ h, h < (pg_han P).length → af_gd P p h → af_to P S (pg_hd P h).2.2.1 (af_hf P h F)) ∧ af_cs P S p F
def ok_8 (F : sp_F) : Prop := ok_F F ∧ sp_sl F.2.1 ≤ 8
def af_ok (P : sp_P) (A : af_A) : Prop := ∀ p F, A p = some F → p < pg_n P ∧ ok_8 F
def af_sol (P : sp_P) (S : af_A) : Prop := af_ok P S ∧ af_to P S 0 (sp_fst P) ∧ ∀ p F, S p = some F → af_con P S p F
def af_le (P : sp_P) (A S : af_A) : Prop := ∀ p F, A p = some F → ∃ G, S p = some G ∧ le_F P F G
def af_inv (P : sp_P) (A : af_A) : Prop := af_ok P A ∧ ∀ S, af_sol P S → af_le P A S
theorem af_le.rf {P : sp_P} (A : af_A) : af_le P A A := fun _ F h => ⟨F, h, le_F.rf F⟩
theorem af_le.tr {P : sp_P} (hs : sp_sup (pg_sup P)) {A B C : af_A} (hA : af_ok P A) (hB : af_ok P B) (h1 : af_le P A B) (h2 : af_le P B C) : af_le P A C := by
  intro p F hF
  obtain ⟨G, g1, g2⟩ := h1 p F hF
  obtain ⟨H, i1, i2⟩ := h2 p G g1
  exact ⟨H, i1, g2.tr hs (hA p F hF).2.1.1 (hB p G g1).2.1.1 i2⟩
theorem af_to.mono {P : sp_P} (hs : sp_sup (pg_sup P)) {A B : af_A} {q : Nat} {F : sp_F} (hA : af_ok P A) (hF : wf_F F) (h : af_to P A q F) (hl : af_le P A B) : af_to P B q F := by
  obtain ⟨h1, G, g1, g2⟩ := h
  obtain ⟨H, i1, i2⟩ := hl q G g1
  exact ⟨h1, H, i1, g2.tr hs hF (hA q G g1).2.1.1 i2⟩
theorem af_up_e (A : af_A) (q : Nat) (F : sp_F) : af_up A q F q = some F := if_pos rfl
theorem af_up_n (A : af_A) {q r : Nat} (F : sp_F) (h : r ≠ q) : af_up A q F r = A r := if_neg h
/-- one coming -/
theorem af_arr_s {P : sp_P} (hs : sp_sup (pg_sup P)) {A A' : af_A} {q : Nat} {F : sp_F} (hA : af_ok P A) (hF : ok_8 F) (h : af_arr P A q F = some A') : af_ok P A' ∧ af_le P A A' ∧ af_to P A' q F ∧ ∀ r, r ≠ q → A' r = A r := by
  unfold af_arr at h
  split at h
  · next hq =>
    split at h
    · next e =>
      cases h
      refine ⟨?_, ?_, ⟨hq, F, af_up_e A q F, le_F.rf F⟩, fun r hr => af_up_n A F hr⟩
      · intro p G hG
        by_cases ep : p = q
        · subst ep
          rw [af_up_e] at hG
          cases hG
          exact ⟨hq, hF⟩
        · rw [af_up_n A F ep] at hG
          exact hA p G hG
      · intro p G hG
        have ep : p ≠ q := by
          rintro rfl
          rw [e] at hG
          cases hG
        exact ⟨G, by rw [af_up_n A F ep]; exact hG, le_F.rf G⟩
    · next G e =>
      rw [Option.map_eq_some_iff] at h
      obtain ⟨H, h1, rfl⟩ := h
      have hG := (hA q G e).2
      obtain ⟨j1, j2, j3⟩ := af_jn_ok hs hG.1 hF.1 h1
      refine ⟨?_, ?_, ⟨hq, H, af_up_e A q H, j3⟩, fun r hr => af_up_n A H hr⟩
      · intro p K hK
        by_cases ep : p = q
        · subst ep
          rw [af_up_e] at hK
          cases hK
          refine ⟨hq, j1, ?_⟩
          rw [← j2.2.1.sl j1.2.2.1]
          exact hG.2
        · rw [af_up_n A H ep] at hK
          exact hA p K hK
      · intro p K hK
        by_cases ep : p = q
        · subst ep
          rw [e] at hK
          cases hK
          exact ⟨H, af_up_e A p H, j2⟩
        · exact ⟨K, by rw [af_up_n A H ep]; exact hK, le_F.rf K⟩
  · cases h
theorem af_arr_i {P : sp_P} (hs : sp_sup (pg_sup P)) {A : af_A} {q : Nat} {F : sp_F} (hA : af_inv P A) (hF : ok_8 F) {S : af_A} (hS : af_sol P S) (ht : af_to P S q F) : ∃ A', af_arr P A q F = some A' ∧ af_le P A' S := by
  obtain ⟨hq, G, g1, g2⟩ := ht
  unfold af_arr
  rw [if_pos hq]
  have hAS := hA.2 S hS
  cases e : A q with
  | none =>
    refine ⟨_, rfl, ?_⟩
    intro p K hK
    by_cases ep : p = q
    · subst ep
      rw [af_up_e] at hK
      cases hK
      exact ⟨G, g1, g2⟩
    · rw [af_up_n A F ep] at hK
      exact hAS p K hK
  | some H =>
    obtain ⟨G2, i1, i2⟩ := hAS q H e
    rw [g1] at i1
    cases i1
    obtain ⟨K, k1, k2⟩ := af_jn_lub hs (hA.1 q H e).2.1 hF.1 (hS.1 q G g1).2.1 i2 g2
    dsimp only
    rw [k1]
    refine ⟨_, rfl, ?_⟩
    intro p N hN
    by_cases ep : p = q
    · subst ep
      rw [af_up_e] at hN
      cases hN
      exact ⟨G, g1, k2⟩
    · rw [af_up_n A K ep] at hN
      exact hAS p N hN
/-- both at once -/
theorem af_arr_inv {P : sp_P} (hs : sp_sup (pg_sup P)) {A A' : af_A} {q : Nat} {F : sp_F} (hA : af_inv P A) (hF : ok_8 F) (ht : ∀ S, af_sol P S → af_to P S q F) (h : af_arr P A q F = some A') : af_inv P A' := by
  refine ⟨(af_arr_s hs hA.1 hF h).1, ?_⟩
  intro S hS
  obtain ⟨B, b1, b2⟩ := af_arr_i hs hA hF hS (ht S hS)
  rw [h] at b1
  cases b1
  exact b2
theorem af_arr_no {P : sp_P} (hs : sp_sup (pg_sup P)) {A : af_A} {q : Nat} {F : sp_F} (hA : af_inv P A) (hF : ok_8 F) (ht : ∀ S, af_sol P S → af_to P S q F) (h : af_arr P A q F = none) : ∀ S, ¬ af_sol P S := by
  intro S hS
  obtain ⟨B, b1, b2⟩ := af_arr_i hs hA hF hS (ht S hS)
  rw [h] at b1
  cases b1
/-- what a PLACE leaves comes below every solution -/
theorem wf_hh {P : sp_P} (hP : wf_P P) (h : Nat) : (pg_hd P h).2.2.2 < 8 := by
  unfold pg_hd
  by_cases e : h < (pg_han P).length
  · have : (pg_han P).getD h (0, 0, 0, 0) ∈ pg_han P := by
      rw [List.getD_eq_getElem?_getD, List.getElem?_eq_getElem e]
      exact List.getElem_mem e
    exact (hP.2.2.2.2.2.2.2.2.1 _ this).2.2.2.2
  · rw [List.getD_eq_getElem?_getD, List.getElem?_eq_none (by omega)]
    decide
theorem af_hf_ok {P : sp_P} (hP : wf_P P) {h : Nat} {F : sp_F} (hF : ok_8 F) : ok_8 (af_hf P h F) := by
  refine ⟨han_ok hF.1 (wf_hh hP h), ?_⟩
  show sp_sl [16 * (pg_hd P h).2.2.2 + 7] ≤ 8
  rw [sp_sl_c, w_t7]
  decide
theorem af_hf_le {P : sp_P} {h : Nat} {F G : sp_F} (hl : le_F P F G) : le_F P (af_hf P h F) (af_hf P h G) := ⟨hl.1, le_L.rf _, hl.2.2⟩
theorem af_to.below {P : sp_P} (hs : sp_sup (pg_sup P)) {S : af_A} {q : Nat} {F G : sp_F} (h : af_to P S q G) (wF : wf_F F) (wG : wf_F G) (hl : le_F P F G) : af_to P S q F := by
  obtain ⟨h1, H, i1, i2⟩ := h
  exact ⟨h1, H, i1, hl.tr hs wF wG i2⟩
theorem af_hh {P : sp_P} (hP : wf_P P) {A : af_A} (hA : af_inv P A) {p h : Nat} {F : sp_F} (hF : A p = some F) (hh : h < (pg_han P).length) (hg : af_gd P p h) : ∀ S, af_sol P S → af_to P S (pg_hd P h).2.2.1 (af_hf P h F) := by
  intro S hS
  obtain ⟨G, g1, g2⟩ := hA.2 S hS p F hF
  have := (hS.2.2 p G g1).1 h hh hg
  exact this.below hP.1 (af_hf_ok hP (hA.1 p F hF).2).1.1 (af_hf_ok hP (hS.1 p G g1).2).1.1 (af_hf_le g2)
theorem ok_8_stp {P : sp_P} (hP : wf_P P) {p : Nat} {F F' : sp_F} (hp : p < pg_n P) (hF : ok_8 F) (h : sp_stp P p F = some F') : ok_8 F' := ⟨ok_stp hP hp hF.1 h, sl_stp hF.2 h⟩
theorem af_ss {P : sp_P} (hP : wf_P P) {A : af_A} (hA : af_inv P A) {p : Nat} {F : sp_F} (hF : A p = some F) {S : af_A} (hS : af_sol P S) : ∃ F', sp_stp P p F = some F' ∧ (sp_jmp (pg_op P p) = true → af_to P S (pg_b P p) F') ∧ (sp_end (pg_op P p) = false → af_to P S (p + 1) F') := by
  obtain ⟨G, g1, g2⟩ := hA.2 S hS p F hF
  obtain ⟨G', i1, i2, i3⟩ := (hS.2.2 p G g1).2
  have hF8 := hA.1 p F hF
  have hG8 := hS.1 p G g1
  obtain ⟨F', j1, j2⟩ := le_stp hP.1 hF8.2.1 hG8.2.1 g2 i1
  have w1 := (ok_8_stp hP hF8.1 hF8.2 j1).1.1
  have w2 := (ok_8_stp hP hG8.1 hG8.2 i1).1.1
  exact ⟨F', j1, fun q => (i2 q).below hP.1 w1 w2 j2, fun q => (i3 q).below hP.1 w1 w2 j2⟩
/-- in between nothing moved -/
theorem af_mid {P : sp_P} (hs : sp_sup (pg_sup P)) {A B C : af_A} (hA : af_ok P A) (hB : af_ok P B) (h1 : af_le P A B) (h2 : af_le P B C) {p : Nat} {F : sp_F} (hF : A p = some F) (hC : C p = some F) : B p = some F := by
  obtain ⟨G, g1, g2⟩ := h1 p F hF
  obtain ⟨H, i1, i2⟩ := h2 p G g1
  rw [hC] at i1
  cases i1
  rw [g1, g2.an hs (hA p F hF).2.1.1 (hB p G g1).2.1.1 i2]
/-- the HANDLERS of a PLACE, k of them, from h on -/
def af_hs (P : sp_P) (p : Nat) : Nat → Nat → af_A → Option af_A
  | 0, _, A => some A
  | k + 1, h, A => if (pg_hd P h).1 ≤ p ∧ p < (pg_hd P h).2.1 then (match A p with
    | some F => (af_arr P A (pg_hd P h).2.2.1 (af_hf P h F)).bind (af_hs P p k (h + 1))
    | none => none) else af_hs P p k (h + 1) A
/-- what the INSTRUCTION leaves -/
def af_lv (P : sp_P) (p : Nat) (A : af_A) : Option af_A := (A p).bind fun F => (sp_stp P p F).bind fun F' => (if sp_jmp (pg_op P p) then af_arr P A (pg_b P p) F' else some A).bind fun A => if sp_end (pg_op P p) then some A else af_arr P A (p + 1) F'
theorem af_hs_s {P : sp_P} (hP : wf_P P) {p : Nat} : ∀ (k h : Nat) (A A' : af_A), h + k = (pg_han P).length → af_inv P A → (A p).isSome = true → af_hs P p k h A = some A' → af_inv P A' ∧ af_le P A A' ∧ ∀ F, A p = some F → A' p = some F → ∀ j, h ≤ j → j < (pg_han P).length → af_gd P p j → af_to P A' (pg_hd P j).2.2.1 (af_hf P j F) := by
  intro k
  induction k with
  | zero =>
    intro h A A' hk hA hsm he
    cases he
    exact ⟨hA, af_le.rf A, fun F _ _ j h1 h2 => absurd h1 (by omega)⟩
  | succ k ih =>
    intro h A A' hk hA hsm he
    unfold af_hs at he
    obtain ⟨F0, hF0⟩ := Option.isSome_iff_exists.mp hsm
    split at he
    · next hg =>
      rw [hF0] at he
      dsimp only at he
      rw [Option.bind_eq_some_iff] at he
      obtain ⟨B, b1, b2⟩ := he
      have hht := af_hh hP hA hF0 (by omega) hg
      have hok := af_hf_ok hP (h := h) (hA.1 p F0 hF0).2
      have s1 := af_arr_s hP.1 hA.1 hok b1
      have s2 := af_arr_inv hP.1 hA hok hht b1
      have hBp : (B p).isSome = true := by
        obtain ⟨G, g1, -⟩ := s1.2.1 p F0 hF0
        rw [g1]; rfl
      obtain ⟨i1, i2, i3⟩ := ih (h + 1) B A' (by omega) s2 hBp b2
      refine ⟨i1, s1.2.1.tr hP.1 hA.1 s1.1 i2, ?_⟩
      intro F hF hF' j h1 h2 hgj
      rw [hF0] at hF
      cases hF
      have hBF := af_mid hP.1 hA.1 s1.1 s1.2.1 i2 hF0 hF'
      by_cases ej : j = h
      · subst ej
        exact s1.2.2.1.mono hP.1 s1.1 hok.1.1 i2
      · exact i3 F0 hBF hF' j (by omega) h2 hgj
    · next hg =>
      obtain ⟨i1, i2, i3⟩ := ih (h + 1) A A' (by omega) hA hsm he
      refine ⟨i1, i2, ?_⟩
      intro F hF hF' j h1 h2 hgj
      by_cases ej : j = h
      · subst ej
        exact absurd hgj hg
      · exact i3 F hF hF' j (by omega) h2 hgj
theorem af_hs_no {P : sp_P} (hP : wf_P P) {p : Nat} : ∀ (k h : Nat) (A : af_A), h + k = (pg_han P).length → af_inv P A → (A p).isSome = true → af_hs P p k h A = none → ∀ S, ¬ af_sol P S := by
  intro k
  induction k with
  | zero =>
    intro h A hk hA hsm he
    cases he
  | succ k ih =>
    intro h A hk hA hsm he
    unfold af_hs at he
    obtain ⟨F0, hF0⟩ := Option.isSome_iff_exists.mp hsm
    split at he
    · next hg =>
      rw [hF0] at he
      dsimp only at he
      have hht := af_hh hP hA hF0 (by omega) hg
      have hok := af_hf_ok hP (h := h) (hA.1 p F0 hF0).2
      cases b1 : af_arr P A (pg_hd P h).2.2.1 (af_hf P h F0) with
      | none => exact af_arr_no hP.1 hA hok hht b1
      | some B =>
        rw [b1] at he
        have s1 := af_arr_s hP.1 hA.1 hok b1
        have s2 := af_arr_inv hP.1 hA hok hht b1
        have hBp : (B p).isSome = true := by
          obtain ⟨G, g1, -⟩ := s1.2.1 p F0 hF0
          rw [g1]; rfl
        exact ih (h + 1) B (by omega) s2 hBp he
    · exact ih (h + 1) A (by omega) hA hsm he
theorem af_lv_s {P : sp_P} (hP : wf_P P) {p : Nat} {A A' : af_A} (hA : af_inv P A) (he : af_lv P p A = some A') : af_inv P A' ∧ af_le P A A' ∧ ∀ F, A p = some F → af_cs P A' p F := by
  unfold af_lv at he
  rw [Option.bind_eq_some_iff] at he
  obtain ⟨F, hF, he⟩ := he
  rw [Option.bind_eq_some_iff] at he
  obtain ⟨F', hF', he⟩ := he
  rw [Option.bind_eq_some_iff] at he
  obtain ⟨B, b1, b2⟩ := he
  have hF8 := hA.1 p F hF
  have hok := ok_8_stp hP hF8.1 hF8.2 hF'
  have hto : ∀ S, af_sol P S → (sp_jmp (pg_op P p) = true → af_to P S (pg_b P p) F') ∧ (sp_end (pg_op P p) = false → af_to P S (p + 1) F') := by
    intro S hS
    obtain ⟨F2, j1, j2⟩ := af_ss hP hA hF hS
    rw [hF'] at j1
    cases j1
    exact j2
  have hB : af_inv P B ∧ af_le P A B ∧ (sp_jmp (pg_op P p) = true → af_to P B (pg_b P p) F') := by
    split at b1
    · next e =>
      have s1 := af_arr_s hP.1 hA.1 hok b1
      exact ⟨af_arr_inv hP.1 hA hok (fun S hS => (hto S hS).1 e) b1, s1.2.1, fun _ => s1.2.2.1⟩
    · next e =>
      cases b1
      exact ⟨hA, af_le.rf _, fun q => absurd q e⟩
  have hC : af_inv P A' ∧ af_le P B A' ∧ (sp_end (pg_op P p) = false → af_to P A' (p + 1) F') := by
    split at b2
    · next e =>
      cases b2
      exact ⟨hB.1, af_le.rf _, fun q => by rw [e] at q; cases q⟩
    · next e =>
      have s1 := af_arr_s hP.1 hB.1.1 hok b2
      exact ⟨af_arr_inv hP.1 hB.1 hok (fun S hS => (hto S hS).2 (by simpa using e)) b2, s1.2.1, fun _ => s1.2.2.1⟩
  refine ⟨hC.1, hB.2.1.tr hP.1 hA.1 hB.1.1 hC.2.1, ?_⟩
  intro G hG
  rw [hF] at hG
  cases hG
  exact ⟨F', hF', fun q => (hB.2.2 q).mono hP.1 hB.1.1 hok.1.1 hC.2.1, hC.2.2⟩
theorem af_lv_no {P : sp_P} (hP : wf_P P) {p : Nat} {A : af_A} (hA : af_inv P A) (hsm : (A p).isSome = true) (he : af_lv P p A = none) : ∀ S, ¬ af_sol P S := by
  obtain ⟨F, hF⟩ := Option.isSome_iff_exists.mp hsm
  intro S hS
  obtain ⟨F', hF', t1, t2⟩ := af_ss hP hA hF hS
  have hF8 := hA.1 p F hF
  have hok := ok_8_stp hP hF8.1 hF8.2 hF'
  unfold af_lv at he
  rw [hF, Option.bind_some, hF', Option.bind_some] at he
  have hto : ∀ S, af_sol P S → (sp_jmp (pg_op P p) = true → af_to P S (pg_b P p) F') ∧ (sp_end (pg_op P p) = false → af_to P S (p + 1) F') := by
    intro S hS
    obtain ⟨F2, j1, j2⟩ := af_ss hP hA hF hS
    rw [hF'] at j1
    cases j1
    exact j2
  by_cases e : sp_jmp (pg_op P p) = true
  · rw [if_pos e] at he
    cases b1 : af_arr P A (pg_b P p) F' with
    | none => exact af_arr_no hP.1 hA hok (fun S hS => (hto S hS).1 e) b1 S hS
    | some B =>
      rw [b1, Option.bind_some] at he
      split at he
      · cases he
      · next e2 => exact af_arr_no hP.1 (af_arr_inv hP.1 hA hok (fun S hS => (hto S hS).1 e) b1) hok (fun S hS => (hto S hS).2 (by simpa using e2)) he S hS
  · rw [if_neg e, Option.bind_some] at he
    split at he
    · cases he
    · next e2 => exact af_arr_no hP.1 hA hok (fun S hS => (hto S hS).2 (by simpa using e2)) he S hS
/-- the least solution is one -/
def af_least (P : sp_P) (A : af_A) : Prop := af_sol P A ∧ ∀ S, af_sol P S → af_le P A S
theorem af_least.u {P : sp_P} (hs : sp_sup (pg_sup P)) {A B : af_A} (hA : af_least P A) (hB : af_least P B) : A = B := by
  have h1 := hA.2 B hB.1
  have h2 := hB.2 A hA.1
  funext p
  cases e : A p with
  | none =>
    cases e2 : B p with
    | none => rfl
    | some G =>
      obtain ⟨F, f1, -⟩ := h2 p G e2
      rw [e] at f1
      cases f1
  | some F =>
    obtain ⟨G, g1, g2⟩ := h1 p F e
    obtain ⟨F2, i1, i2⟩ := h2 p G g1
    rw [e] at i1
    cases i1
    rw [g1, g2.an hs (hA.1.1 p F e).2.1.1 (hB.1.1 p G g1).2.1.1 i2]
