/-! GOING THROUGH IT: rounds with waiting PLACES, and plain rounds -/
def sm (f : Nat → Nat) : Nat → Nat
  | 0 => 0
  | n + 1 => sm f n + f n
theorem sm_le {f g : Nat → Nat} : ∀ {n : Nat}, (∀ i, i < n → f i ≤ g i) → sm f n ≤ sm g n
  | 0, _ => Nat.le_refl _
  | n + 1, h => by
    have h1 := sm_le (n := n) fun i hi => h i (by omega)
    have h2 := h n (by omega)
    unfold sm
    omega
theorem sm_lt {f g : Nat → Nat} : ∀ {n k : Nat}, (∀ i, i < n → f i ≤ g i) → k < n → f k < g k → sm f n < sm g n
  | 0, _, _, h, _ => absurd h (by omega)
  | n + 1, k, h, hk, hl => by
    have h2 := h n (by omega)
    unfold sm
    by_cases e : k = n
    · subst e
      have h1 := sm_le (n := k) fun i hi => h i (by omega)
      omega
    · have h1 := sm_lt (n := n) (k := k) (fun i hi => h i (by omega)) (by omega) hl
      omega
theorem sm_ub {f : Nat → Nat} {c : Nat} : ∀ {n : Nat}, (∀ i, i < n → f i ≤ c) → sm f n ≤ c * n
  | 0, _ => Nat.le_refl _
  | n + 1, h => by
    have h1 := sm_ub (n := n) fun i hi => h i (by omega)
    have h2 := h n (by omega)
    unfold sm
    rw [Nat.mul_succ]
    omega
def af_m (A : af_A) (p : Nat) : Nat := match A p with
  | none => 164
  | some F => mz F
theorem af_m_le {P : sp_P} {A : af_A} (hA : af_ok P A) (p : Nat) : af_m A p ≤ 164 := by
  unfold af_m
  split
  · exact Nat.le_refl _
  · next F h =>
    have := mz_le (hA p F h).2.1 (hA p F h).2.2
    omega
theorem af_m_lt {P : sp_P} (hs : sp_sup (pg_sup P)) {A B : af_A} (hA : af_ok P A) (hB : af_ok P B) (h : af_le P A B) (p : Nat) : B p = A p ∨ af_m B p < af_m A p := by
  cases e : A p with
  | none =>
    cases e2 : B p with
    | none => exact Or.inl rfl
    | some G =>
      right
      have := mz_le (hB p G e2).2.1 (hB p G e2).2.2
      unfold af_m
      rw [e, e2]
      dsimp only
      omega
  | some F =>
    obtain ⟨G, g1, g2⟩ := h p F e
    rcases g2.mzl hs (hA p F e).2.1.1 (hB p G g1).2.1.1 with q | q
    · left
      rw [g1, q]
    · right
      unfold af_m
      rw [e, g1]
      exact q
def af_w (A B : af_A) (W : Nat → Bool) : Nat → Bool := fun r => W r || !decide (B r = A r)
theorem af_same {P : sp_P} (hs : sp_sup (pg_sup P)) {A B C : af_A} (hA : af_ok P A) (hB : af_ok P B) (h1 : af_le P A B) (h2 : af_le P B C) {p : Nat} (h : C p = A p) : B p = A p := by
  cases e : A p with
  | none =>
    cases e2 : B p with
    | none => rfl
    | some G =>
      obtain ⟨H, i1, -⟩ := h2 p G e2
      rw [h, e] at i1
      cases i1
  | some F => exact af_mid hs hA hB h1 h2 e (by rw [h, e])
theorem af_w_tr {P : sp_P} (hs : sp_sup (pg_sup P)) {A B C : af_A} (hA : af_ok P A) (hB : af_ok P B) (h1 : af_le P A B) (h2 : af_le P B C) (W : Nat → Bool) : af_w B C (af_w A B W) = af_w A C W := by
  funext r
  unfold af_w
  by_cases e : C r = A r
  · have e2 := af_same hs hA hB h1 h2 e
    simp [e, e2]
  · by_cases e2 : B r = A r
    · simp [e2]
    · simp [e, e2]
theorem af_w_rf (A : af_A) (W : Nat → Bool) : af_w A A W = W := by
  funext r
  unfold af_w
  simp
def af_ph (n : Nat) (A : af_A) (W : Nat → Bool) : Nat := sm (fun p => 2 * af_m A p + (W p).toNat) n
theorem af_ph_le {P : sp_P} (hs : sp_sup (pg_sup P)) {A B : af_A} (hA : af_ok P A) (hB : af_ok P B) (h : af_le P A B) (W : Nat → Bool) (n : Nat) : af_ph n B (af_w A B W) ≤ af_ph n A W := by
  refine sm_le fun p _ => ?_
  unfold af_w
  have hb := Bool.toNat_le (W p || !decide (B p = A p))
  rcases af_m_lt hs hA hB h p with q | q
  · have : af_m B p = af_m A p := by unfold af_m; rw [q]
    simp [q, this]
  · omega
/-- one PLACE, the class's way -/
def ac_pr (P : sp_P) (p : Nat) (A : af_A) : Option af_A := (af_hs P p (pg_han P).length 0 A).bind (af_lv P p)
def ar_pr (P : sp_P) (p : Nat) (A : af_A) : Option af_A := (af_lv P p A).bind (af_hs P p (pg_han P).length 0)
theorem af_cs.mono {P : sp_P} (hP : wf_P P) {A B : af_A} {p : Nat} {F : sp_F} (hp : p < pg_n P) (hA : af_ok P A) (hF : ok_8 F) (h : af_cs P A p F) (hl : af_le P A B) : af_cs P B p F := by
  obtain ⟨F', h1, h2, h3⟩ := h
  have w := (ok_8_stp hP hp hF h1).1.1
  exact ⟨F', h1, fun q => (h2 q).mono hP.1 hA w hl, fun q => (h3 q).mono hP.1 hA w hl⟩
theorem af_con.mono {P : sp_P} (hP : wf_P P) {A B : af_A} {p : Nat} {F : sp_F} (hp : p < pg_n P) (hA : af_ok P A) (hF : ok_8 F) (h : af_con P A p F) (hl : af_le P A B) : af_con P B p F := ⟨fun j hj hg => (h.1 j hj hg).mono hP.1 hA (af_hf_ok hP hF).1.1 hl, h.2.mono hP hp hA hF hl⟩
theorem ac_pr_s {P : sp_P} (hP : wf_P P) {p : Nat} {A B : af_A} (hA : af_inv P A) (hsm : (A p).isSome = true) (h : ac_pr P p A = some B) : af_inv P B ∧ af_le P A B ∧ ∀ F, A p = some F → B p = some F → af_con P B p F := by
  unfold ac_pr at h
  rw [Option.bind_eq_some_iff] at h
  obtain ⟨C, c1, c2⟩ := h
  obtain ⟨i1, i2, i3⟩ := af_hs_s hP _ 0 A C (by omega) hA hsm c1
  obtain ⟨j1, j2, j3⟩ := af_lv_s hP i1 c2
  refine ⟨j1, i2.tr hP.1 hA.1 i1.1 j2, ?_⟩
  intro F hF hF'
  have hC := af_mid hP.1 hA.1 i1.1 i2 j2 hF hF'
  exact ⟨fun k hk hg => (i3 F hF hC k (by omega) hk hg).mono hP.1 i1.1 (af_hf_ok hP (hA.1 p F hF).2).1.1 j2, j3 F hC⟩
theorem ac_pr_no {P : sp_P} (hP : wf_P P) {p : Nat} {A : af_A} (hA : af_inv P A) (hsm : (A p).isSome = true) (h : ac_pr P p A = none) : ∀ S, ¬ af_sol P S := by
  unfold ac_pr at h
  cases c1 : af_hs P p (pg_han P).length 0 A with
  | none => exact af_hs_no hP _ 0 A (by omega) hA hsm c1
  | some C =>
    rw [c1] at h
    obtain ⟨i1, i2, i3⟩ := af_hs_s hP _ 0 A C (by omega) hA hsm c1
    obtain ⟨F, hF⟩ := Option.isSome_iff_exists.mp hsm
    obtain ⟨G, g1, -⟩ := i2 p F hF
    exact af_lv_no hP i1 (by rw [g1]; rfl) h
theorem ar_pr_s {P : sp_P} (hP : wf_P P) {p : Nat} {A B : af_A} (hA : af_inv P A) (hsm : (A p).isSome = true) (h : ar_pr P p A = some B) : af_inv P B ∧ af_le P A B ∧ ∀ F, A p = some F → B p = some F → af_con P B p F := by
  unfold ar_pr at h
  rw [Option.bind_eq_some_iff] at h
  obtain ⟨C, c1, c2⟩ := h
  obtain ⟨F0, hF0⟩ := Option.isSome_iff_exists.mp hsm
  obtain ⟨j1, j2, j3⟩ := af_lv_s hP hA c1
  obtain ⟨G, g1, -⟩ := j2 p F0 hF0
  obtain ⟨i1, i2, i3⟩ := af_hs_s hP _ 0 C B (by omega) j1 (by rw [g1]; rfl) c2
  refine ⟨i1, j2.tr hP.1 hA.1 j1.1 i2, ?_⟩
  intro F hF hF'
  have hC := af_mid hP.1 hA.1 j1.1 j2 i2 hF hF'
  exact ⟨fun k hk hg => i3 F hC hF' k (by omega) hk hg, (j3 F hF).mono hP (hA.1 p F hF).1 j1.1 (hA.1 p F hF).2 i2⟩
theorem ar_pr_no {P : sp_P} (hP : wf_P P) {p : Nat} {A : af_A} (hA : af_inv P A) (hsm : (A p).isSome = true) (h : ar_pr P p A = none) : ∀ S, ¬ af_sol P S := by
  unfold ar_pr at h
  cases c1 : af_lv P p A with
  | none => exact af_lv_no hP hA hsm c1
  | some C =>
    rw [c1] at h
    obtain ⟨F0, hF0⟩ := Option.isSome_iff_exists.mp hsm
    obtain ⟨j1, j2, j3⟩ := af_lv_s hP hA c1
    obtain ⟨G, g1, -⟩ := j2 p F0 hF0
    exact af_hs_no hP _ 0 C (by omega) j1 (by rw [g1]; rfl) h
/-- a round of the class -/
def ac_rd (P : sp_P) : Nat → Nat → af_A → (Nat → Bool) → Bool → Option (af_A × (Nat → Bool) × Bool)
  | 0, _, A, W, m => some (A, W, m)
  | k + 1, p, A, W, m => if W p then (ac_pr P p A).bind fun B => ac_rd P k (p + 1) B (af_w A B fun r => if r = p then false else W r) true else ac_rd P k (p + 1) A W m
def ac_inv (P : sp_P) (A : af_A) (W : Nat → Bool) : Prop := af_inv P A ∧ (∀ r F, A r = some F → W r = false → af_con P A r F) ∧ af_to P A 0 (sp_fst P) ∧ ∀ r, W r = true → (A r).isSome = true
theorem af_le.sm {P : sp_P} {A B : af_A} (h : af_le P A B) {p : Nat} (hs : (A p).isSome = true) : (B p).isSome = true := by
  obtain ⟨F, hF⟩ := Option.isSome_iff_exists.mp hs
  obtain ⟨G, g1, -⟩ := h p F hF
  rw [g1]
  rfl
theorem ac_pr_i {P : sp_P} (hP : wf_P P) {p : Nat} {A B : af_A} {W : Nat → Bool} (hp : p < pg_n P) (hA : ac_inv P A W) (hW : W p = true) (h : ac_pr P p A = some B) : ac_inv P B (af_w A B fun r => if r = p then false else W r) ∧ af_le P A B ∧ af_ph (pg_n P) B (af_w A B fun r => if r = p then false else W r) < af_ph (pg_n P) A W := by
  obtain ⟨i1, i2, i3⟩ := ac_pr_s hP hA.1 (hA.2.2.2 p hW) h
  refine ⟨⟨i1, ?_, hA.2.2.1.mono hP.1 hA.1.1 (fst_ok hP).1 i2, ?_⟩, i2, ?_⟩
  · intro r F hF hr
    unfold af_w at hr
    dsimp only at hr
    rw [Bool.or_eq_false_iff] at hr
    have hB : B r = A r := by simpa using hr.2
    by_cases e : r = p
    · subst e
      exact i3 F (by rw [← hB]; exact hF) hF
    · have hW2 : W r = false := by
        have := hr.1
        rwa [if_neg e] at this
      rw [hB] at hF
      have hr8 := hA.1.1 r F hF
      exact (hA.2.1 r F hF hW2).mono hP hr8.1 hA.1.1 hr8.2 i2
  · intro r hr
    unfold af_w at hr
    dsimp only at hr
    rw [Bool.or_eq_true] at hr
    rcases hr with hr | hr
    · by_cases e : r = p
      · rw [if_pos e] at hr
        cases hr
      · rw [if_neg e] at hr
        exact i2.sm (hA.2.2.2 r hr)
    · have hB : ¬ B r = A r := by simpa using hr
      cases e : B r with
      | none =>
        cases e2 : A r with
        | none => rw [e, e2] at hB; exact absurd rfl hB
        | some F =>
          obtain ⟨G, g1, -⟩ := i2 r F e2
          rw [e] at g1
          cases g1
      | some G => rfl
  · refine Nat.lt_of_le_of_lt (af_ph_le hP.1 hA.1.1 i1.1 i2 _ _) ?_
    refine sm_lt (k := p) (fun i _ => ?_) hp ?_
    · dsimp only
      by_cases e : i = p
      · subst e
        rw [if_pos rfl, hW]
        show _ + 0 ≤ _
        omega
      · rw [if_neg e]
        omega
    · dsimp only
      rw [if_pos rfl, hW]
      show _ + 0 < _ + 1
      omega
theorem ac_rd_s {P : sp_P} (hP : wf_P P) : ∀ (k p : Nat) (A : af_A) (W : Nat → Bool) (m : Bool) (B : af_A) (V : Nat → Bool) (m' : Bool), p + k = pg_n P → ac_inv P A W → ac_rd P k p A W m = some (B, V, m') → ac_inv P B V ∧ af_le P A B ∧ af_ph (pg_n P) B V ≤ af_ph (pg_n P) A W ∧ (m' = true → m = true ∨ af_ph (pg_n P) B V < af_ph (pg_n P) A W) ∧ (m' = false → m = false ∧ B = A ∧ V = W ∧ ∀ r, p ≤ r → r < pg_n P → W r = false) := by
  intro k
  induction k with
  | zero =>
    intro p A W m B V m' hk hA h
    cases h
    exact ⟨hA, af_le.rf A, Nat.le_refl _, fun q => Or.inl q, fun q => ⟨q, rfl, rfl, fun r h1 h2 => absurd h1 (by omega)⟩⟩
  | succ k ih =>
    intro p A W m B V m' hk hA h
    unfold ac_rd at h
    split at h
    · next hW =>
      rw [Option.bind_eq_some_iff] at h
      obtain ⟨C, c1, c2⟩ := h
      obtain ⟨i1, i2, i3⟩ := ac_pr_i hP (by omega) hA hW c1
      obtain ⟨j1, j2, j3, j4, j5⟩ := ih (p + 1) C _ true B V m' (by omega) i1 c2
      refine ⟨j1, i2.tr hP.1 hA.1.1 i1.1.1 j2, by omega, fun _ => Or.inr (by omega), ?_⟩
      intro q
      have := (j5 q).1
      cases this
    · next hW =>
      obtain ⟨j1, j2, j3, j4, j5⟩ := ih (p + 1) A W m B V m' (by omega) hA h
      refine ⟨j1, j2, j3, j4, ?_⟩
      intro q
      obtain ⟨k1, k2, k3, k4⟩ := j5 q
      refine ⟨k1, k2, k3, ?_⟩
      intro r h1 h2
      by_cases e : r = p
      · subst e
        simpa using hW
      · exact k4 r (by omega) h2
theorem ac_rd_no {P : sp_P} (hP : wf_P P) : ∀ (k p : Nat) (A : af_A) (W : Nat → Bool) (m : Bool), p + k = pg_n P → ac_inv P A W → ac_rd P k p A W m = none → ∀ S, ¬ af_sol P S := by
  intro k
  induction k with
  | zero =>
    intro p A W m hk hA h
    cases h
  | succ k ih =>
    intro p A W m hk hA h
    unfold ac_rd at h
    split at h
    · next hW =>
      cases c1 : ac_pr P p A with
      | none => exact ac_pr_no hP hA.1 (hA.2.2.2 p hW) c1
      | some C =>
        rw [c1] at h
        obtain ⟨i1, i2, i3⟩ := ac_pr_i hP (by omega) hA hW c1
        exact ih (p + 1) C _ true (by omega) i1 h
    · exact ih (p + 1) A W m (by omega) hA h
def ac_go (P : sp_P) : Nat → af_A → (Nat → Bool) → Option af_A
  | 0, A, _ => some A
  | k + 1, A, W => (ac_rd P (pg_n P) 0 A W false).bind fun s => if s.2.2 then ac_go P k s.1 s.2.1 else some s.1
theorem ac_go_s {P : sp_P} (hP : wf_P P) : ∀ (k : Nat) (A : af_A) (W : Nat → Bool), ac_inv P A W → af_ph (pg_n P) A W < k → (∀ B, ac_go P k A W = some B → af_least P B) ∧ (ac_go P k A W = none → ∀ S, ¬ af_sol P S) := by
  intro k
  induction k with
  | zero =>
    intro A W hA hk
    omega
  | succ k ih =>
    intro A W hA hk
    unfold ac_go
    cases c : ac_rd P (pg_n P) 0 A W false with
    | none => exact ⟨fun B h => (by cases h), fun _ => ac_rd_no hP _ 0 A W false (by omega) hA c⟩
    | some s =>
      obtain ⟨B, V, m⟩ := s
      obtain ⟨j1, j2, j3, j4, j5⟩ := ac_rd_s hP _ 0 A W false B V m (by omega) hA c
      rw [Option.bind_some]
      dsimp only
      cases m with
      | true =>
        rw [if_pos rfl]
        have := j4 rfl
        exact ih B V j1 (by rcases this with h | h; cases h; omega)
      | false =>
        rw [if_neg (by decide)]
        obtain ⟨k1, k2, k3, k4⟩ := j5 rfl
        subst k2 k3
        refine ⟨fun C hC => ?_, fun h => by cases h⟩
        cases hC
        refine ⟨⟨hA.1.1, hA.2.2.1, ?_⟩, hA.1.2⟩
        intro r F hF
        exact hA.2.1 r F hF (k4 r (by omega) (hA.1.1 r F hF).1)
/-- the beginning -/
def af_z : af_A := fun _ => none
theorem af_z_inv (P : sp_P) : af_inv P af_z := ⟨fun p F h => (by cases h), fun S _ p F h => (by cases h)⟩
theorem fst_8 {P : sp_P} (hP : wf_P P) : ok_8 (sp_fst P) := ⟨fst_ok hP, by show sp_sl [] ≤ 8; decide⟩
def af_0 (P : sp_P) : af_A := af_up af_z 0 (sp_fst P)
theorem af_0_s {P : sp_P} (hP : wf_P P) (hn : 0 < pg_n P) : af_arr P af_z 0 (sp_fst P) = some (af_0 P) ∧ af_inv P (af_0 P) ∧ af_to P (af_0 P) 0 (sp_fst P) := by
  have h : af_arr P af_z 0 (sp_fst P) = some (af_0 P) := by
    unfold af_arr
    rw [if_pos hn]
    rfl
  exact ⟨h, af_arr_inv hP.1 (af_z_inv P) (fst_8 hP) (fun S hS => hS.2.1) h, (af_arr_s hP.1 (af_z_inv P).1 (fst_8 hP) h).2.2.1⟩
def ac_w0 : Nat → Bool := fun r => r == 0
theorem ac_0 {P : sp_P} (hP : wf_P P) (hn : 0 < pg_n P) : ac_inv P (af_0 P) ac_w0 := by
  obtain ⟨h1, h2, h3⟩ := af_0_s hP hn
  refine ⟨h2, ?_, h3, ?_⟩
  · intro r F hF hr
    have hr : r ≠ 0 := by simpa [ac_w0] using hr
    rw [af_0, af_up_n _ _ hr] at hF
    cases hF
  · intro r hr
    have hr : r = 0 := by simpa [ac_w0] using hr
    subst hr
    rw [af_0, af_up_e]
    rfl
theorem af_ph_ub {P : sp_P} (hP : wf_P P) {A : af_A} (hA : af_ok P A) (W : Nat → Bool) : af_ph (pg_n P) A W < 100000 := by
  have h1 : af_ph (pg_n P) A W ≤ 329 * pg_n P := by
    refine sm_ub fun i _ => ?_
    have := af_m_le hA i
    have := Bool.toNat_le (W i)
    omega
  have h2 : pg_n P ≤ 50 := hP.2.2.2.2.2.1
  have : 329 * pg_n P ≤ 329 * 50 := Nat.mul_le_mul_left _ h2
  omega
/-- rounds of the reference -/
def ar_rd (P : sp_P) : Nat → Nat → af_A → Option af_A
  | 0, _, A => some A
  | k + 1, p, A => if (A p).isSome then (ar_pr P p A).bind (ar_rd P k (p + 1)) else ar_rd P k (p + 1) A
theorem ar_rd_s {P : sp_P} (hP : wf_P P) : ∀ (k p : Nat) (A B : af_A), p + k = pg_n P → af_inv P A → ar_rd P k p A = some B → af_inv P B ∧ af_le P A B ∧ (B = A → ∀ r, p ≤ r → r < pg_n P → ∀ F, A r = some F → af_con P A r F) := by
  intro k
  induction k with
  | zero =>
    intro p A B hk hA h
    cases h
    exact ⟨hA, af_le.rf A, fun _ r h1 h2 => absurd h1 (by omega)⟩
  | succ k ih =>
    intro p A B hk hA h
    unfold ar_rd at h
    split at h
    · next hsm =>
      rw [Option.bind_eq_some_iff] at h
      obtain ⟨C, c1, c2⟩ := h
      obtain ⟨i1, i2, i3⟩ := ar_pr_s hP hA hsm c1
      obtain ⟨j1, j2, j3⟩ := ih (p + 1) C B (by omega) i1 c2
      refine ⟨j1, i2.tr hP.1 hA.1 i1.1 j2, ?_⟩
      intro e r h1 h2 F hF
      have hC : C = A := by
        funext q
        exact af_same hP.1 hA.1 i1.1 i2 j2 (by rw [e])
      subst hC
      by_cases er : r = p
      · subst er
        exact i3 F hF hF
      · exact j3 e r (by omega) h2 F hF
    · next hsm =>
      obtain ⟨j1, j2, j3⟩ := ih (p + 1) A B (by omega) hA h
      refine ⟨j1, j2, ?_⟩
      intro e r h1 h2 F hF
      by_cases er : r = p
      · subst er
        rw [hF] at hsm
        exact absurd rfl hsm
      · exact j3 e r (by omega) h2 F hF
theorem ar_rd_no {P : sp_P} (hP : wf_P P) : ∀ (k p : Nat) (A : af_A), p + k = pg_n P → af_inv P A → ar_rd P k p A = none → ∀ S, ¬ af_sol P S := by
  intro k
  induction k with
  | zero =>
    intro p A hk hA h
    cases h
  | succ k ih =>
    intro p A hk hA h
    unfold ar_rd at h
    split at h
    · next hsm =>
      cases c1 : ar_pr P p A with
      | none => exact ar_pr_no hP hA hsm c1
      | some C =>
        rw [c1] at h
        obtain ⟨i1, i2, i3⟩ := ar_pr_s hP hA hsm c1
        exact ih (p + 1) C (by omega) i1 h
    · exact ih (p + 1) A (by omega) hA h
/-- whether some PLACE below 50 has moved -/
def af_ch (A B : af_A) : Bool := (List.range 50).any fun r => !decide (B r = A r)
theorem af_ch_f {P : sp_P} (hP : wf_P P) {A B : af_A} (hA : af_ok P A) (hB : af_ok P B) (h : af_ch A B = false) : B = A := by
  have hn : pg_n P ≤ 50 := hP.2.2.2.2.2.1
  unfold af_ch at h
  rw [List.any_eq_false] at h
  funext r
  by_cases e : r < 50
  · have := h r (List.mem_range.mpr e)
    simpa using this
  · cases e1 : A r with
    | none =>
      cases e2 : B r with
      | none => rfl
      | some G => have := (hB r G e2).1; omega
    | some F => have := (hA r F e1).1; omega
theorem af_ch_t {A B : af_A} (h : af_ch A B = true) : ∃ r, r < 50 ∧ B r ≠ A r := by
  unfold af_ch at h
  rw [List.any_eq_true] at h
  obtain ⟨r, h1, h2⟩ := h
  exact ⟨r, List.mem_range.mp h1, by simpa using h2⟩
theorem af_ch_tr {P : sp_P} (hs : sp_sup (pg_sup P)) {A B C : af_A} (hA : af_ok P A) (hB : af_ok P B) (h1 : af_le P A B) (h2 : af_le P B C) : (af_ch A B || af_ch B C) = af_ch A C := by
  have hx : ∀ X Y : af_A, af_ch X Y = true ↔ ∃ r, r < 50 ∧ Y r ≠ X r := fun X Y => ⟨af_ch_t, fun ⟨r, a, b⟩ => by
    unfold af_ch
    rw [List.any_eq_true]
    exact ⟨r, List.mem_range.mpr a, by simpa using b⟩⟩
  rw [Bool.eq_iff_iff, Bool.or_eq_true, hx, hx, hx]
  constructor
  · rintro (⟨r, a, b⟩ | ⟨r, a, b⟩)
    · exact ⟨r, a, fun e => b (af_same hs hA hB h1 h2 e)⟩
    · refine ⟨r, a, fun e => ?_⟩
      have := af_same hs hA hB h1 h2 e
      exact b (by rw [e, this])
  · rintro ⟨r, a, b⟩
    by_cases e : B r = A r
    · exact Or.inr ⟨r, a, by rw [e]; exact b⟩
    · exact Or.inl ⟨r, a, e⟩
def ar_go (P : sp_P) : Nat → af_A → Option af_A
  | 0, A => some A
  | k + 1, A => (ar_rd P (pg_n P) 0 A).bind fun B => if af_ch A B then ar_go P k B else some B
theorem ar_go_s {P : sp_P} (hP : wf_P P) : ∀ (k : Nat) (A : af_A), af_inv P A → af_to P A 0 (sp_fst P) → sm (af_m A) (pg_n P) < k → (∀ B, ar_go P k A = some B → af_least P B) ∧ (ar_go P k A = none → ∀ S, ¬ af_sol P S) := by
  intro k
  induction k with
  | zero =>
    intro A hA h0 hk
    omega
  | succ k ih =>
    intro A hA h0 hk
    unfold ar_go
    cases c : ar_rd P (pg_n P) 0 A with
    | none => exact ⟨fun B h => (by cases h), fun _ => ar_rd_no hP _ 0 A (by omega) hA c⟩
    | some B =>
      obtain ⟨j1, j2, j3⟩ := ar_rd_s hP _ 0 A B (by omega) hA c
      rw [Option.bind_some]
      cases e : af_ch A B with
      | true =>
        rw [if_pos rfl]
        obtain ⟨r, r1, r2⟩ := af_ch_t e
        have hlt : sm (af_m B) (pg_n P) < sm (af_m A) (pg_n P) := by
          refine sm_lt (k := r) (fun i _ => ?_) ?_ ?_
          · rcases af_m_lt hP.1 hA.1 j1.1 j2 i with q | q
            · have : af_m B i = af_m A i := by unfold af_m; rw [q]
              omega
            · omega
          · cases e2 : B r with
            | some G => exact (j1.1 r G e2).1
            | none =>
              cases e3 : A r with
              | some F => exact (hA.1 r F e3).1
              | none => rw [e2, e3] at r2; exact absurd rfl r2
          · rcases af_m_lt hP.1 hA.1 j1.1 j2 r with q | q
            · exact absurd q r2
            · exact q
        exact ih B j1 (h0.mono hP.1 hA.1 (fst_ok hP).1 j2) (by omega)
      | false =>
        rw [if_neg (by decide)]
        have hB := af_ch_f hP hA.1 j1.1 e
        refine ⟨fun C hC => ?_, fun h => by cases h⟩
        cases hC
        subst hB
        exact ⟨⟨hA.1, h0, fun r F hF => j3 rfl r (by omega) (hA.1 r F hF).1 F hF⟩, hA.2⟩
theorem af_m_ub {P : sp_P} (hP : wf_P P) {A : af_A} (hA : af_ok P A) : sm (af_m A) (pg_n P) ≤ 8200 := by
  have h1 : sm (af_m A) (pg_n P) ≤ 164 * pg_n P := sm_ub fun i _ => af_m_le hA i
  have h2 : pg_n P ≤ 50 := hP.2.2.2.2.2.1
  omega
