/-! THE ORDER ON LISTS AND FRAMES -/
def le_L (P : sp_P) : List Nat → List Nat → Prop
  | [], [] => True
  | x :: L, y :: K => le_t P x y ∧ le_L P L K
  | _, _ => False
theorem le_L.rf {P : sp_P} : ∀ L : List Nat, le_L P L L
  | [] => trivial
  | x :: L => ⟨Or.inl rfl, le_L.rf L⟩
theorem le_L.len {P : sp_P} : ∀ {L K : List Nat}, le_L P L K → L.length = K.length
  | [], [], _ => rfl
  | x :: L, y :: K, h => by
    have := le_L.len h.2
    simp only [List.length_cons, this]
theorem le_L.tr {P : sp_P} (hs : sp_sup (pg_sup P)) : ∀ {L K N : List Nat}, (∀ t ∈ L, sp_wt t) → (∀ t ∈ K, sp_wt t) → le_L P L K → le_L P K N → le_L P L N
  | [], [], [], _, _, _, _ => trivial
  | x :: L, y :: K, z :: N, w1, w2, h1, h2 => ⟨h1.1.tr hs (w1 x List.mem_cons_self) (w2 y List.mem_cons_self) h2.1, le_L.tr hs (fun t ht => w1 t (List.mem_cons_of_mem _ ht)) (fun t ht => w2 t (List.mem_cons_of_mem _ ht)) h1.2 h2.2⟩
theorem le_L.an {P : sp_P} (hs : sp_sup (pg_sup P)) : ∀ {L K : List Nat}, (∀ t ∈ L, sp_wt t) → (∀ t ∈ K, sp_wt t) → le_L P L K → le_L P K L → L = K
  | [], [], _, _, _, _ => rfl
  | x :: L, y :: K, w1, w2, h1, h2 => by
    rw [h1.1.an hs (w1 x List.mem_cons_self) (w2 y List.mem_cons_self) h2.1, le_L.an hs (fun t ht => w1 t (List.mem_cons_of_mem _ ht)) (fun t ht => w2 t (List.mem_cons_of_mem _ ht)) h1.2 h2.2]
theorem le_L.gd {P : sp_P} : ∀ {L K : List Nat}, le_L P L K → ∀ i, le_t P (L.getD i 0) (K.getD i 0)
  | [], [], _, i => Or.inl rfl
  | x :: L, y :: K, h, 0 => h.1
  | x :: L, y :: K, h, i + 1 => by
    have := le_L.gd h.2 i
    simpa only [List.getD_cons_succ] using this
theorem le_L.set {P : sp_P} : ∀ {L K : List Nat}, le_L P L K → ∀ {x y : Nat}, le_t P x y → ∀ i, le_L P (L.set i x) (K.set i y)
  | [], [], _, _, _, _, i => trivial
  | x :: L, y :: K, h, _, _, hx, 0 => ⟨hx, h.2⟩
  | x :: L, y :: K, h, _, _, hx, i + 1 => ⟨h.1, le_L.set h.2 hx i⟩
theorem le_t.wd {P : sp_P} {x y : Nat} (h : le_t P x y) (hy : y ≠ 0) : sp_wd x = sp_wd y := by
  rcases h with rfl | h | ⟨k, h⟩
  · rfl
  · contradiction
  · have y34 : ¬(y = 3 ∨ y = 4) := by rintro (rfl | rfl) <;> cases k
    have x34 : ¬(x = 3 ∨ x = 4) := by
      rintro (rfl | rfl)
      · rcases h with h | h
        · cases h
        · cases h.1
      · rcases h with h | h
        · cases h
        · cases h.1
    unfold sp_wd
    rw [if_neg x34, if_neg y34]
def nz_L (T : List Nat) : Prop := ∀ t ∈ T, t ≠ 0
theorem le_L.sl {P : sp_P} : ∀ {L K : List Nat}, le_L P L K → nz_L K → sp_sl L = sp_sl K
  | [], [], _, _ => rfl
  | x :: L, y :: K, h, hn => by
    rw [sp_sl_c, sp_sl_c, h.1.wd (hn y List.mem_cons_self), le_L.sl h.2 (fun t ht => hn t (List.mem_cons_of_mem _ ht))]
theorem le_L.nz {P : sp_P} : ∀ {L K : List Nat}, le_L P L K → nz_L K → nz_L L
  | [], [], _, _ => fun t ht => by cases ht
  | x :: L, y :: K, h, hn => by
    intro t ht
    rcases List.mem_cons.mp ht with rfl | ht
    · have hy := hn y List.mem_cons_self
      rintro rfl
      rcases h.1 with h | h | ⟨k, h | h⟩
      · exact hy h.symm
      · exact hy h
      · cases h
      · cases h.1
    · exact le_L.nz h.2 (fun t ht => hn t (List.mem_cons_of_mem _ ht)) t ht
/-- a TYPE that stands for itself alone below and above -/
theorem le_t.eq {P : sp_P} {x y : Nat} (h : le_t P x y) (hy : y ≠ 0) (hk : sp_kd y ≠ 7) : x = y := by
  rcases h with h | h | ⟨k, h⟩
  · exact h
  · contradiction
  · contradiction
theorem le_t.eqx {P : sp_P} {x y : Nat} (h : le_t P x y) (hx : x ≠ 5) (hk : sp_kd x ≠ 7) : y = x ∨ y = 0 := by
  rcases h with h | h | ⟨k, h | h⟩
  · exact Or.inl h.symm
  · exact Or.inr h
  · contradiction
  · exact absurd h.1 hk
theorem le_L.rep {P : sp_P} {x y : Nat} (hx0 : x ≠ 0) (hx : x ≠ 5) (hk : sp_kd x ≠ 7) : ∀ {L K : List Nat}, le_L P L K → le_L P (sp_rep x y L) (sp_rep x y K)
  | [], [], _ => trivial
  | t :: L, u :: K, h => by
    refine ⟨?_, le_L.rep hx0 hx hk h.2⟩
    show le_t P (if t = x then y else t) (if u = x then y else u)
    by_cases e : t = x
    · subst e
      rw [if_pos rfl]
      rcases h.1.eqx hx hk with e2 | e2
      · rw [if_pos e2]
        exact Or.inl rfl
      · subst e2
        rw [if_neg (fun q => hx0 q.symm)]
        exact Or.inr (Or.inl rfl)
    · rw [if_neg e]
      by_cases e2 : u = x
      · subst e2
        exact absurd (h.1.eq hx0 hk) e
      · rw [if_neg e2]
        exact h.1
def le_F (P : sp_P) (F G : sp_F) : Prop := le_L P F.1 G.1 ∧ le_L P F.2.1 G.2.1 ∧ (F.2.2 = true → G.2.2 = true)
/-- a FRAME of THE FLOW -/
def ok_F (F : sp_F) : Prop := wf_F F ∧ F.1.length = 10 ∧ nz_L F.2.1 ∧ sp_wd (F.1.getD 9 0) = 1
theorem le_F.rf {P : sp_P} (F : sp_F) : le_F P F F := ⟨le_L.rf _, le_L.rf _, id⟩
theorem le_F.tr {P : sp_P} (hs : sp_sup (pg_sup P)) {F G H : sp_F} (w1 : wf_F F) (w2 : wf_F G) (h1 : le_F P F G) (h2 : le_F P G H) : le_F P F H := ⟨h1.1.tr hs w1.1 w2.1 h2.1, h1.2.1.tr hs w1.2 w2.2 h2.2.1, fun q => h2.2.2 (h1.2.2 q)⟩
theorem le_F.an {P : sp_P} (hs : sp_sup (pg_sup P)) {F G : sp_F} (w1 : wf_F F) (w2 : wf_F G) (h1 : le_F P F G) (h2 : le_F P G F) : F = G := by
  obtain ⟨L, T, b⟩ := F
  obtain ⟨K, U, c⟩ := G
  have e1 := h1.1.an hs w1.1 w2.1 h2.1
  have e2 := h1.2.1.an hs w1.2 w2.2 h2.2.1
  have e3 : b = c := by
    have q1 : b = true → c = true := h1.2.2
    have q2 : c = true → b = true := h2.2.2
    cases b <;> cases c <;> simp_all
  dsimp only at e1 e2
  subst e1 e2 e3
  rfl
theorem le_psh {P : sp_P} {x y : Nat} {T U U' : List Nat} (h : le_L P T U) (hn : nz_L U) (hxy : le_t P x y) (hy : y ≠ 0) (hp : sp_psh y U = some U') : ∃ T', sp_psh x T = some T' ∧ le_L P T' U' := by
  unfold sp_psh at hp ⊢
  rw [h.sl hn, hxy.wd hy]
  split at hp
  · next e =>
    rw [if_pos e]
    cases hp
    exact ⟨_, rfl, hxy, h⟩
  · cases hp
theorem le_t.sm {P : sp_P} {x y : Nat} (h : le_t P x y) (hy : sp_sm y = true) : sp_sm x = true := by
  rcases h with rfl | h | ⟨k, h⟩
  · exact hy
  · subst h; cases hy
  · rcases h with rfl | ⟨h, -⟩
    · rfl
    · unfold sp_sm
      rw [h]
      rfl
theorem le_t.rf' {P : sp_P} {x y : Nat} (h : le_t P x y) (hy : sp_rf y = true) : sp_rf x = true := by
  rcases h with rfl | h | ⟨k, h⟩
  · exact hy
  · subst h; cases hy
  · rcases h with rfl | ⟨h, -⟩
    · rfl
    · unfold sp_rf
      rw [h]
      rfl
theorem le_t.op {P : sp_P} {x y : Nat} (h : le_t P x y) (hy : sp_op y = true) : sp_op x = true := by
  rcases h with rfl | h | ⟨k, h⟩
  · exact hy
  · subst h; cases hy
  · rcases h with rfl | ⟨h, -⟩
    · rfl
    · unfold sp_op
      rw [h]
      simp
theorem le_t.is {P : sp_P} (hs : sp_sup (pg_sup P)) {x y z : Nat} (hx : sp_wt x) (hy : sp_wt y) (h : le_t P x y) (hz : sp_is P y z = true) : sp_is P x z = true := by
  unfold sp_is at hz ⊢
  simp only [Bool.or_eq_true, Bool.and_eq_true, beq_iff_eq] at hz ⊢
  rcases h with rfl | h | ⟨k, h⟩
  · exact hz
  · subst h
    rcases hz with (hz | hz) | ⟨k1, hz | hz⟩
    · exact Or.inl (Or.inr hz.symm)
    · exact Or.inl (Or.inr hz)
    · cases hz
    · cases hz.1
  · rcases hz with (hz | hz) | ⟨k1, hz | ⟨k2, hz⟩⟩
    · subst hz
      rcases h with h | ⟨k2, h⟩
      · exact Or.inr ⟨k, Or.inl h⟩
      · exact Or.inr ⟨k, Or.inr ⟨k2, Or.inr h⟩⟩
    · exact Or.inl (Or.inr hz)
    · subst hz; cases k
    · refine Or.inr ⟨k1, ?_⟩
      rcases h with h | ⟨k3, h⟩
      · exact Or.inl h
      · refine Or.inr ⟨k3, ?_⟩
        rcases hz with hz | hz
        · exact Or.inl hz
        · exact Or.inr (in_tr hs (sp_wt7 hy k2) hz 7 _ (by have := sp_wt7 hx k3; omega) (sp_wt7 hx k3) h)
theorem le_t.ok {P : sp_P} {x y k : Nat} (h : le_t P x y) (hy : sp_ok y k = true) : sp_ok x k = true ∧ y ≠ 0 := by
  unfold sp_ok at hy ⊢
  split
  · next e =>
    rw [if_pos e] at hy
    exact ⟨h.rf' hy, by rintro rfl; cases hy⟩
  · next e =>
    rw [if_neg e] at hy
    have hy := beq_iff_eq.mp hy
    have h0 : sp_tk k ≠ 0 := by unfold sp_tk; split <;> decide
    have hk : sp_kd (sp_tk k) ≠ 7 := by
      rcases (show sp_tk k = 1 ∨ sp_tk k = 4 ∨ sp_tk k = 2 ∨ sp_tk k = 3 ∨ sp_tk k = 7 by unfold sp_tk; split <;> decide) with q | q | q | q | q
      · rw [q]; decide
      · rw [q]; decide
      · rw [q]; decide
      · rw [q]; decide
      · exact absurd q e
    subst hy
    refine ⟨?_, h0⟩
    rw [h.eq h0 hk]
    simp
theorem le_sto {P : sp_P} {L K : List Nat} {a x y : Nat} (h : le_L P L K) (hxy : le_t P x y) (hy : y ≠ 0) : le_L P (sp_sto L a x) (sp_sto K a y) := by
  have h1 : le_L P (if 0 < a ∧ sp_wd (L.getD (a - 1) 0) = 2 then L.set (a - 1) 0 else L) (if 0 < a ∧ sp_wd (K.getD (a - 1) 0) = 2 then K.set (a - 1) 0 else K) := by
    have hg := h.gd (a - 1)
    by_cases ha : 0 < a
    · by_cases e0 : K.getD (a - 1) 0 = 0
      · rw [if_neg (show ¬(0 < a ∧ sp_wd (K.getD (a - 1) 0) = 2) by rw [e0]; exact fun q => absurd q.2 (by decide))]
        split
        · have := h.set (x := 0) (y := K.getD (a - 1) 0) (by rw [e0]; exact Or.inl rfl) (a - 1)
          have hid : K.set (a - 1) (K.getD (a - 1) 0) = K := by
            apply List.ext_getElem?
            intro i
            rw [List.getElem?_set]
            split
            · next e =>
              subst e
              split
              · next e => simp [e]
              · next e => simp; omega
            · rfl
          rw [hid] at this
          exact this
        · exact h
      · rw [hg.wd e0]
        split
        · exact h.set (Or.inl rfl) _
        · exact h
    · rw [if_neg (fun q => ha q.1), if_neg (fun q => ha q.1)]
      exact h
  unfold sp_sto
  dsimp only
  rw [hxy.wd hy]
  split
  · exact (h1.set hxy a).set (Or.inl rfl) _
  · exact h1.set hxy a
