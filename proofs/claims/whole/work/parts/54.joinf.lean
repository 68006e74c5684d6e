/-! NO MORE THAN EIGHT SLOTS -/
theorem sl_psh {T T' : List Nat} {x : Nat} (hp : sp_psh x T = some T') : sp_sl T' ≤ 8 := by
  unfold sp_psh at hp
  split at hp
  · next e =>
    cases hp
    rw [sp_sl_c]
    omega
  · cases hp
theorem sl_sum {t : Nat} : ∀ {T T' : List Nat}, sp_sum t T = some T' → sp_sl T' ≤ 8
  | [], _, h => by cases h
  | [_], _, h => by cases h
  | x :: y :: T, T', hp => by
    unfold sp_sum at hp
    dsimp only at hp
    split at hp
    · exact sl_psh hp
    · cases hp
theorem sl_swp {t u : Nat} : ∀ {T T' : List Nat}, sp_swp t u T = some T' → sp_sl T' ≤ 8
  | [], _, h => by cases h
  | x :: T, T', hp => by
    unfold sp_swp at hp
    dsimp only at hp
    split at hp
    · exact sl_psh hp
    · cases hp
theorem sl_t {x : Nat} {T : List Nat} (h : sp_sl (x :: T) ≤ 8) : sp_sl T ≤ 8 := by
  rw [sp_sl_c] at h
  omega
theorem sl_stk {P : sp_P} {o : Nat} {F : sp_F} {T' : List Nat} (hF : sp_sl F.2.1 ≤ 8) (hp : sp_stk P o F = some T') : sp_sl T' ≤ 8 := by
  obtain ⟨L, T, b⟩ := F
  dsimp only at hF
  unfold sp_stk at hp
  split at hp
  · cases hp
    exact hF
  · dsimp only at hp
    match T, hF, hp with
    | x :: T, hF, hp =>
      dsimp only at hp
      split at hp
      · cases hp
        exact sl_t hF
      · cases hp
  · dsimp only at hp
    match T, hF, hp with
    | x :: T, hF, hp =>
      dsimp only at hp
      split at hp
      · cases hp
        exact sl_t hF
      · match T, hF, hp with
        | x2 :: T, hF, hp =>
          dsimp only at hp
          split at hp
          · cases hp
            exact sl_t (sl_t hF)
          · cases hp
  · dsimp only at hp
    match T, hF, hp with
    | x :: T, hF, hp =>
      dsimp only at hp
      split at hp
      · exact sl_psh hp
      · cases hp
  · dsimp only at hp
    match T, hF, hp with
    | x :: x2 :: T, hF, hp =>
      dsimp only at hp
      split at hp
      · cases hp
        rw [sp_sl_c, sp_sl_c] at hF ⊢
        omega
      · cases hp
  · exact sl_sum hp
  · exact sl_sum hp
  · exact sl_sum hp
  · exact sl_sum hp
  · exact sl_swp hp
  · exact sl_swp hp
  · exact sl_swp hp
  · exact sl_swp hp
  · dsimp only at hp
    split at hp
    · cases hp
    · cases hp
      exact hF
  · dsimp only at hp
    match T, hF, hp with
    | x :: T, hF, hp =>
      dsimp only at hp
      split at hp
      · cases hp
        exact sl_t hF
      · cases hp
  · dsimp only at hp
    match T, hF, hp with
    | x :: T, hF, hp =>
      dsimp only at hp
      split at hp
      · cases hp
        exact hF
      · cases hp
  · exact sl_psh hp
theorem sl_stp {P : sp_P} {p : Nat} {F F' : sp_F} (hF : sp_sl F.2.1 ≤ 8) (hp : sp_stp P p F = some F') : sp_sl F'.2.1 ≤ 8 := by
  unfold sp_stp at hp
  dsimp only at hp
  generalize pg_op P p = o at hp
  by_cases e : o ≤ 20
  · rw [if_pos e] at hp
    rw [Option.map_eq_some_iff] at hp
    obtain ⟨U', q1, rfl⟩ := hp
    exact sl_stk hF q1
  rw [if_neg e] at hp
  by_cases e : o ≤ 25
  · rw [if_pos e] at hp
    split at hp
    · next e2 =>
      rw [Option.map_eq_some_iff] at hp
      obtain ⟨U', q1, rfl⟩ := hp
      exact sl_psh q1
    · cases hp
  rw [if_neg e] at hp
  obtain ⟨L, T, b⟩ := F
  dsimp only at hF
  by_cases e3 : o ≤ 30
  · rw [if_pos e3] at hp
    match T, hF, hp with
    | x :: T, hF, hp =>
      dsimp only at hp
      split at hp
      · cases hp
        exact sl_t hF
      · cases hp
  rw [if_neg e3] at hp
  by_cases e : o = 31
  · rw [if_pos e] at hp
    cases hp
    exact hF
  rw [if_neg e] at hp
  by_cases e : o = 32
  · rw [if_pos e] at hp
    match T, hF, hp with
    | x :: T, hF, hp =>
      dsimp only at hp
      split at hp
      · cases hp
        exact sl_t hF
      · cases hp
  rw [if_neg e] at hp
  by_cases e : o = 33
  · rw [if_pos e] at hp
    match T, hF, hp with
    | x :: T, hF, hp =>
      dsimp only at hp
      split at hp
      · cases hp
        exact sl_t hF
      · cases hp
  rw [if_neg e] at hp
  by_cases e34 : o = 34
  · rw [if_pos e34] at hp
    match T, hF, hp with
    | x :: x2 :: T, hF, hp =>
      dsimp only at hp
      split at hp
      · cases hp
        exact sl_t (sl_t hF)
      · cases hp
  rw [if_neg e34] at hp
  by_cases e : o = 35
  · rw [if_pos e] at hp
    rw [Option.map_eq_some_iff] at hp
    obtain ⟨U', q1, rfl⟩ := hp
    exact sl_psh q1
  rw [if_neg e] at hp
  by_cases e : o = 36
  · rw [if_pos e] at hp
    unfold sp_ini at hp
    match T, hF, hp with
    | x :: T, hF, hp =>
      dsimp only at hp
      split at hp
      · split at hp
        · cases hp
          dsimp only
          rw [sp_sl_rep (by rw [show 16 * pg_own P + 7 = 16 * pg_own P + 7 from rfl]; unfold sp_wd; rw [if_neg (by decide), if_neg (by omega)])]
          exact sl_t hF
        · cases hp
      · split at hp
        · next e8 =>
          cases hat : sp_at P (sp_pt x) with
          | none => rw [hat] at hp; cases hp
          | some q =>
            rw [hat] at hp
            dsimp only at hp
            split at hp
            · cases hp
              dsimp only
              rw [sp_sl_rep (by rw [w_t7]; unfold sp_wd; unfold sp_kd at e8; rw [if_neg (by omega)])]
              exact sl_t hF
            · cases hp
        · cases hp
  rw [if_neg e] at hp
  match T, hF, hp with
  | x :: T, hF, hp =>
    dsimp only at hp
    by_cases e2 : (sp_op x && sp_is P x (16 * (if o = 39 then 0 else pg_a P p) + 7)) = true
    · rw [if_pos e2] at hp
      rw [Option.map_eq_some_iff] at hp
      obtain ⟨U', q1, rfl⟩ := hp
      exact sl_psh q1
    · rw [if_neg e2] at hp
      cases hp
/-! THE FIRST FRAME -/
theorem spr_len : ∀ (l : List Nat), (sp_spr l).length ≤ 2 * l.length
  | [] => by simp [sp_spr]
  | t :: l => by
    have := spr_len l
    unfold sp_spr
    split <;> simp only [List.length_cons] <;> omega
theorem spr_wt {l : List Nat} (h : ∀ t ∈ l, sp_wt t) : ∀ t ∈ sp_spr l, sp_wt t := by
  induction l with
  | nil => intro t ht; cases ht
  | cons x l ih =>
    have ih := ih fun t ht => h t (List.mem_cons_of_mem _ ht)
    intro t ht
    unfold sp_spr at ht
    split at ht
    · rcases List.mem_cons.mp ht with rfl | ht
      · exact h _ List.mem_cons_self
      · rcases List.mem_cons.mp ht with rfl | ht
        · exact wt_k (by decide)
        · exact ih t ht
    · rcases List.mem_cons.mp ht with rfl | ht
      · exact h _ List.mem_cons_self
      · exact ih t ht
theorem fst_len {P : sp_P} (hP : wf_P P) : (sp_hd P ++ sp_spr (pg_arg P)).length ≤ 9 := by
  have h1 := spr_len (pg_arg P)
  have h2 : (sp_hd P).length ≤ 1 := by
    unfold sp_hd
    split
    · simp
    · split <;> simp
  have h3 := hP.2.2.2.1
  rw [List.length_append]
  omega
theorem wf_A.wt {t : Nat} (h : wf_A t) : sp_wt t := by
  rcases h with h | h
  · exact wt_k (by omega)
  · exact Or.inr (Or.inl h)
theorem fst_ok {P : sp_P} (hP : wf_P P) : ok_F (sp_fst P) := by
  have hl := fst_len hP
  have hw : ∀ t ∈ (sp_hd P ++ sp_spr (pg_arg P)) ++ List.replicate 10 0, sp_wt t := by
    intro t ht
    rcases List.mem_append.mp ht with ht | ht
    · rcases List.mem_append.mp ht with ht | ht
      · unfold sp_hd at ht
        split at ht
        · cases ht
        · split at ht
          · rcases List.mem_cons.mp ht with rfl | ht
            · exact wt_k (by decide)
            · cases ht
          · rcases List.mem_cons.mp ht with rfl | ht
            · exact wt_7 hP.2.1
            · cases ht
      · exact spr_wt (fun t ht => (hP.2.2.2.2.1 t ht).wt) t ht
    · rw [List.mem_replicate] at ht
      rw [ht.2]
      exact wt_k (by decide)
  refine ⟨⟨fun t ht => hw t (List.mem_of_mem_take ht), fun t ht => absurd ht List.not_mem_nil⟩, ?_, (fun t ht => absurd ht List.not_mem_nil), ?_⟩
  · show (List.take 10 _).length = 10
    rw [List.length_take, List.length_append, List.length_replicate]
    omega
  · show sp_wd ((List.take 10 _).getD 9 0) = 1
    rw [List.getD_eq_getElem?_getD, List.getElem?_take, if_pos (by decide), List.getElem?_append_right hl, List.getElem?_replicate]
    rw [if_pos (by omega)]
    rfl
theorem han_ok {F : sp_F} {c : Nat} (hF : ok_F F) (hc : c < 8) : ok_F (F.1, [16 * c + 7], F.2.2) := by
  refine ⟨⟨hF.1.1, ?_⟩, hF.2.1, ?_, hF.2.2.2⟩
  · intro t ht
    rcases List.mem_cons.mp ht with rfl | ht
    · exact wt_7 hc
    · cases ht
  · intro t ht
    rcases List.mem_cons.mp ht with rfl | ht
    · omega
    · cases ht
/-! JOINS OF FRAMES -/
def zj (P : sp_P) (L K : List Nat) : List Nat := List.zipWith (sp_jn P) L K
theorem zj_wt {P : sp_P} (hs : sp_sup (pg_sup P)) : ∀ {L K : List Nat}, (∀ t ∈ L, sp_wt t) → (∀ t ∈ K, sp_wt t) → ∀ t ∈ zj P L K, sp_wt t
  | [], _, _, _ => fun t ht => by simp [zj] at ht
  | x :: L, [], _, _ => fun t ht => by simp [zj] at ht
  | x :: L, y :: K, w1, w2 => by
    intro t ht
    rcases List.mem_cons.mp ht with rfl | ht
    · exact jn_wt hs (w1 x List.mem_cons_self) (w2 y List.mem_cons_self)
    · exact zj_wt hs (fun t ht => w1 t (List.mem_cons_of_mem _ ht)) (fun t ht => w2 t (List.mem_cons_of_mem _ ht)) t ht
theorem zj_len {P : sp_P} {L K : List Nat} (h : L.length = K.length) : (zj P L K).length = L.length := by
  unfold zj
  rw [List.length_zipWith, h]
  omega
theorem zj_ub {P : sp_P} (hs : sp_sup (pg_sup P)) : ∀ {L K : List Nat}, L.length = K.length → (∀ t ∈ L, sp_wt t) → (∀ t ∈ K, sp_wt t) → le_L P L (zj P L K) ∧ le_L P K (zj P L K)
  | [], [], _, _, _ => ⟨trivial, trivial⟩
  | x :: L, y :: K, h, w1, w2 => by
    have h1 := jn_ub hs (w1 x List.mem_cons_self) (w2 y List.mem_cons_self)
    have h2 := zj_ub hs (L := L) (K := K) (by simpa using h) (fun t ht => w1 t (List.mem_cons_of_mem _ ht)) (fun t ht => w2 t (List.mem_cons_of_mem _ ht))
    exact ⟨⟨h1.1, h2.1⟩, ⟨h1.2, h2.2⟩⟩
theorem zj_lub {P : sp_P} (hs : sp_sup (pg_sup P)) : ∀ {L K N : List Nat}, (∀ t ∈ L, sp_wt t) → (∀ t ∈ K, sp_wt t) → le_L P L N → le_L P K N → le_L P (zj P L K) N
  | [], [], [], _, _, _, _ => trivial
  | [], _ :: _, [], _, _, _, h2 => h2.elim
  | [], _ :: _, _ :: _, _, _, h1, _ => h1.elim
  | _ :: _, [], [], _, _, h1, _ => h1.elim
  | _ :: _, [], _ :: _, _, _, _, h2 => h2.elim
  | x :: L, y :: K, z :: N, w1, w2, h1, h2 => ⟨jn_lub hs (w1 x List.mem_cons_self) (w2 y List.mem_cons_self) h1.1 h2.1, zj_lub hs (fun t ht => w1 t (List.mem_cons_of_mem _ ht)) (fun t ht => w2 t (List.mem_cons_of_mem _ ht)) h1.2 h2.2⟩
theorem zj_gd {P : sp_P} : ∀ {L K : List Nat} {i : Nat}, i < L.length → i < K.length → (zj P L K).getD i 0 = sp_jn P (L.getD i 0) (K.getD i 0)
  | x :: L, y :: K, 0, _, _ => rfl
  | x :: L, y :: K, i + 1, h1, h2 => by
    have := zj_gd (P := P) (L := L) (K := K) (i := i) (by simpa using h1) (by simpa using h2)
    simpa [zj] using this
theorem jn_wd {P : sp_P} {x y : Nat} (hx : sp_wd x = 1) (hy : sp_wd y = 1) : sp_wd (sp_jn P x y) = 1 := by
  unfold sp_jn
  split
  · exact hx
  · split
    · split
      · exact hy
      · split
        · exact hx
        · exact w_t7 _
    · rfl
/-- THE FLOW comes to a PLACE that has the FRAME G with the FRAME F -/
def af_jn (P : sp_P) (G F : sp_F) : Option sp_F := if G.2.1.length = F.2.1.length then (if 0 ∈ zj P G.2.1 F.2.1 then none else some (zj P G.1 F.1, zj P G.2.1 F.2.1, G.2.2 || F.2.2)) else none
theorem af_jn_ok {P : sp_P} (hs : sp_sup (pg_sup P)) {G F H : sp_F} (hG : ok_F G) (hF : ok_F F) (h : af_jn P G F = some H) : ok_F H ∧ le_F P G H ∧ le_F P F H := by
  unfold af_jn at h
  split at h
  · next e =>
    split at h
    · cases h
    · next e0 =>
      cases h
      have hl : G.1.length = F.1.length := by rw [hG.2.1, hF.2.1]
      have u1 := zj_ub hs hl hG.1.1 hF.1.1
      have u2 := zj_ub hs e hG.1.2 hF.1.2
      refine ⟨⟨⟨zj_wt hs hG.1.1 hF.1.1, zj_wt hs hG.1.2 hF.1.2⟩, by rw [zj_len hl]; exact hG.2.1, ?_, ?_⟩, ⟨u1.1, u2.1, fun q => ?_⟩, ⟨u1.2, u2.2, fun q => ?_⟩⟩
      · intro t ht h0
        rw [h0] at ht
        exact e0 ht
      · show sp_wd ((zj P G.1 F.1).getD 9 0) = 1
        rw [zj_gd (by rw [hG.2.1]; decide) (by rw [hF.2.1]; decide)]
        exact jn_wd hG.2.2.2 hF.2.2.2
      · show (G.2.2 || F.2.2) = true
        rw [q]; rfl
      · show (G.2.2 || F.2.2) = true
        rw [q, Bool.or_true]
  · cases h
theorem af_jn_lub {P : sp_P} (hs : sp_sup (pg_sup P)) {G F S : sp_F} (hG : ok_F G) (hF : ok_F F) (hS : ok_F S) (h1 : le_F P G S) (h2 : le_F P F S) : ∃ H, af_jn P G F = some H ∧ le_F P H S := by
  unfold af_jn
  have l2 := zj_lub hs hG.1.2 hF.1.2 h1.2.1 h2.2.1
  rw [if_pos (by rw [h1.2.1.len, h2.2.1.len]), if_neg (fun q => (l2.nz hS.2.2.1) 0 q rfl)]
  refine ⟨_, rfl, zj_lub hs hG.1.1 hF.1.1 h1.1 h2.1, l2, ?_⟩
  intro q
  rw [Bool.or_eq_true] at q
  rcases q with q | q
  · exact h1.2.2 q
  · exact h2.2.2 q
/-! HOW FAR A FRAME CAN GO UP -/
def ht_L (L : List Nat) : Nat := (L.map ht_t).sum
theorem le_L.ht {P : sp_P} (hs : sp_sup (pg_sup P)) : ∀ {L K : List Nat}, (∀ t ∈ L, sp_wt t) → (∀ t ∈ K, sp_wt t) → le_L P L K → L = K ∨ ht_L K < ht_L L
  | [], [], _, _, _ => Or.inl rfl
  | x :: L, y :: K, w1, w2, h => by
    have h1 := h.1.ht hs (w1 x List.mem_cons_self) (w2 y List.mem_cons_self)
    have h2 := le_L.ht hs (fun t ht => w1 t (List.mem_cons_of_mem _ ht)) (fun t ht => w2 t (List.mem_cons_of_mem _ ht)) h.2
    unfold ht_L at h2 ⊢
    simp only [List.map_cons, List.sum_cons]
    rcases h1 with h1 | h1
    · subst h1
      rcases h2 with h2 | h2
      · subst h2
        exact Or.inl rfl
      · exact Or.inr (by omega)
    · right
      rcases h2 with h2 | h2
      · subst h2
        omega
      · omega
theorem ht_L_le : ∀ {L : List Nat}, (∀ t ∈ L, sp_wt t) → ht_L L ≤ 9 * L.length
  | [], _ => by simp [ht_L]
  | x :: L, h => by
    have h1 := ht_le x (h x List.mem_cons_self)
    have h2 := ht_L_le (L := L) (fun t ht => h t (List.mem_cons_of_mem _ ht))
    unfold ht_L at h2 ⊢
    simp only [List.map_cons, List.sum_cons, List.length_cons]
    omega
def mz (F : sp_F) : Nat := (if F.2.2 then 0 else 1) + ht_L F.1 + ht_L F.2.1
theorem le_F.mzl {P : sp_P} (hs : sp_sup (pg_sup P)) {F G : sp_F} (w1 : wf_F F) (w2 : wf_F G) (h : le_F P F G) : F = G ∨ mz G < mz F := by
  obtain ⟨L, T, b⟩ := F
  obtain ⟨K, U, c⟩ := G
  have h1 := h.1.ht hs w1.1 w2.1
  have h2 := h.2.1.ht hs w1.2 w2.2
  have h3 : b = true → c = true := h.2.2
  unfold mz
  dsimp only at h1 h2 ⊢
  rcases h1 with rfl | h1
  · rcases h2 with rfl | h2
    · cases b <;> cases c <;> simp_all
    · right
      cases b <;> cases c <;> simp_all <;> omega
  · right
    rcases h2 with rfl | h2
    · cases b <;> cases c <;> simp_all <;> omega
    · cases b <;> cases c <;> simp_all <;> omega
theorem mz_le {F : sp_F} (h : ok_F F) (h8 : sp_sl F.2.1 ≤ 8) : mz F ≤ 163 := by
  have h1 := ht_L_le h.1.1
  have h2 := ht_L_le h.1.2
  have h3 := sp_sl_len F.2.1
  rw [h.2.1] at h1
  unfold mz
  split <;> omega
