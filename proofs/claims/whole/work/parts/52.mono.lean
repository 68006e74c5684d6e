/-! EVERY INSTRUCTION KEEPS THE ORDER -/
theorem nz_tail {x : Nat} {T : List Nat} (h : nz_L (x :: T)) : nz_L T := fun t ht => h t (List.mem_cons_of_mem _ ht)
theorem nz_head {x : Nat} {T : List Nat} (h : nz_L (x :: T)) : x ≠ 0 := h x List.mem_cons_self
theorem le_sum {P : sp_P} {t : Nat} (ht : t ≠ 0) (hk : sp_kd t ≠ 7) : ∀ {T U U' : List Nat}, le_L P T U → nz_L U → sp_sum t U = some U' → ∃ T', sp_sum t T = some T' ∧ le_L P T' U'
  | [], [], _, _, _, h => by cases h
  | [x], [y], _, _, _, h => by cases h
  | x :: x2 :: T, y :: y2 :: U, U', h, hn, hp => by
    unfold sp_sum at hp ⊢
    dsimp only at hp ⊢
    split at hp
    · next e =>
      obtain ⟨rfl, rfl⟩ := e
      rw [h.1.eq ht hk, h.2.1.eq ht hk, if_pos ⟨rfl, rfl⟩]
      exact le_psh h.2.2 (nz_tail (nz_tail hn)) (Or.inl rfl) ht hp
    · cases hp
theorem le_swp {P : sp_P} {t u : Nat} (ht : t ≠ 0) (hk : sp_kd t ≠ 7) (hu : u ≠ 0) : ∀ {T U U' : List Nat}, le_L P T U → nz_L U → sp_swp t u U = some U' → ∃ T', sp_swp t u T = some T' ∧ le_L P T' U'
  | [], [], _, _, _, h => by cases h
  | x :: T, y :: U, U', h, hn, hp => by
    unfold sp_swp at hp ⊢
    dsimp only at hp ⊢
    split at hp
    · next e =>
      subst e
      rw [h.1.eq ht hk, if_pos rfl]
      exact le_psh h.2 (nz_tail hn) (Or.inl rfl) hu hp
    · cases hp
theorem le_stk {P : sp_P} (hs : sp_sup (pg_sup P)) {o : Nat} {F G : sp_F} {U' : List Nat} (hF : ok_F F) (hG : ok_F G) (h : le_F P F G) (hp : sp_stk P o G = some U') : ∃ T', sp_stk P o F = some T' ∧ le_L P T' U' := by
  obtain ⟨L, T, b⟩ := F
  obtain ⟨K, U, c⟩ := G
  obtain ⟨h1, h2, h3⟩ := h
  have hn : nz_L U := hG.2.2.1
  have w1 : ∀ t ∈ T, sp_wt t := hF.1.2
  have w2 : ∀ t ∈ U, sp_wt t := hG.1.2
  dsimp only at h1 h2 h3
  clear hF hG
  unfold sp_stk at hp ⊢
  split at hp
  · cases hp
    exact ⟨_, rfl, h2⟩
  · dsimp only at hp ⊢
    match T, U, h2, hn, hp with
    | [], [], _, _, hp => cases hp
    | x :: T, y :: U, h2, hn, hp =>
      dsimp only at hp ⊢
      split at hp
      · next e =>
        cases hp
        rw [if_pos (h2.1.sm e)]
        exact ⟨_, rfl, h2.2⟩
      · cases hp
  · dsimp only at hp ⊢
    match T, U, h2, hn, hp with
    | [], [], _, _, hp => cases hp
    | x :: T, y :: U, h2, hn, hp =>
      dsimp only at hp ⊢
      rw [h2.1.wd (nz_head hn)]
      split at hp
      · next e =>
        cases hp
        rw [if_pos e]
        exact ⟨_, rfl, h2.2⟩
      · next e =>
        rw [if_neg e]
        match T, U, h2, hn, hp with
        | [], [], _, _, hp => cases hp
        | x2 :: T, y2 :: U, h2, hn, hp =>
          dsimp only at hp ⊢
          split at hp
          · next e =>
            cases hp
            rw [Bool.and_eq_true] at e
            rw [if_pos (by rw [h2.1.sm e.1, h2.2.1.sm e.2]; rfl)]
            exact ⟨_, rfl, h2.2.2⟩
          · cases hp
  · dsimp only at hp ⊢
    match T, U, h2, hn, hp with
    | [], [], _, _, hp => cases hp
    | x :: T, y :: U, h2, hn, hp =>
      dsimp only at hp ⊢
      split at hp
      · next e =>
        rw [if_pos (h2.1.sm e)]
        exact le_psh h2 hn h2.1 (nz_head hn) hp
      · cases hp
  · dsimp only at hp ⊢
    match T, U, h2, hn, hp with
    | [], [], _, _, hp => cases hp
    | x :: x2 :: T, y :: y2 :: U, h2, hn, hp =>
      dsimp only at hp ⊢
      split at hp
      · next e =>
        cases hp
        rw [Bool.and_eq_true] at e
        rw [if_pos (by rw [h2.1.sm e.1, h2.2.1.sm e.2]; rfl)]
        exact ⟨_, rfl, h2.2.1, h2.1, h2.2.2⟩
      · cases hp
    | [x], [y], h2, hn, hp => cases hp
  · exact le_sum (by decide) (by decide) h2 hn hp
  · exact le_sum (by decide) (by decide) h2 hn hp
  · exact le_sum (by decide) (by decide) h2 hn hp
  · exact le_sum (by decide) (by decide) h2 hn hp
  · exact le_swp (by decide) (by decide) (by decide) h2 hn hp
  · exact le_swp (by decide) (by decide) (by decide) h2 hn hp
  · exact le_swp (by decide) (by decide) (by decide) h2 hn hp
  · exact le_swp (by decide) (by decide) (by decide) h2 hn hp
  · dsimp only at hp ⊢
    split at hp
    · cases hp
    · next e =>
      cases hp
      refine ⟨T, if_neg ?_, h2⟩
      intro q
      apply e
      rw [Bool.or_eq_true, Bool.and_eq_true] at q ⊢
      exact q.imp id fun q => ⟨q.1, h3 q.2⟩
  · dsimp only at hp ⊢
    match T, U, h2, hn, hp with
    | [], [], _, _, hp => cases hp
    | x :: T, y :: U, h2, hn, hp =>
      dsimp only at hp ⊢
      split at hp
      · next e =>
        cases hp
        rw [Bool.and_eq_true, beq_iff_eq] at e
        obtain ⟨e1, e2⟩ := e
        subst e2
        rw [h2.1.eq (by decide) (by decide), if_pos (by rw [e1]; rfl)]
        exact ⟨_, rfl, h2.2⟩
      · cases hp
  · dsimp only at hp ⊢
    match T, U, h2, hn, hp with
    | [], [], _, _, hp => cases hp
    | x :: T, y :: U, h2, hn, hp =>
      dsimp only at hp ⊢
      split at hp
      · next e =>
        cases hp
        rw [Bool.and_eq_true] at e
        rw [if_pos (by rw [h2.1.op e.1, h2.1.is hs (w1 x List.mem_cons_self) (w2 y List.mem_cons_self) e.2]; rfl)]
        exact ⟨_, rfl, h2⟩
      · cases hp
  · next q0 _ _ _ _ _ _ _ _ _ _ _ _ _ _ _ =>
    exact le_psh h2 hn (Or.inl rfl) q0 hp
theorem le_ini {P : sp_P} {a : Nat} {F G G' : sp_F} (hG : ok_F G) (h : le_F P F G) (hp : sp_ini P a G = some G') : ∃ F', sp_ini P a F = some F' ∧ le_F P F' G' := by
  obtain ⟨L, T, b⟩ := F
  obtain ⟨K, U, c⟩ := G
  obtain ⟨h1, h2, h3⟩ := h
  have hn : nz_L U := hG.2.2.1
  dsimp only at h1 h2 h3
  unfold sp_ini at hp ⊢
  clear hG
  match T, U, h2, hn, hp with
  | [], [], _, _, hp => cases hp
  | x :: T, y :: U, h2, hn, hp =>
    dsimp only at hp ⊢
    split at hp
    · next e =>
      subst e
      rw [h2.1.eq (by decide) (by decide), if_pos rfl]
      split at hp
      · next e =>
        cases hp
        rw [if_pos e]
        exact ⟨_, rfl, h1.rep (by decide) (by decide) (by decide), h2.2.rep (by decide) (by decide) (by decide), fun q => by cases q⟩
      · cases hp
    · next e6 =>
      split at hp
      · next e8 =>
        have hk : sp_kd y ≠ 7 := by rw [e8]; decide
        have h5 : y ≠ 5 := by rintro rfl; cases e8
        have hx : x = y := h2.1.eq (nz_head hn) hk
        subst hx
        rw [if_neg e6, if_pos e8]
        cases hat : sp_at P (sp_pt x) with
        | none => rw [hat] at hp; cases hp
        | some p =>
          rw [hat] at hp
          dsimp only at hp ⊢
          split at hp
          · next e =>
            cases hp
            rw [if_pos e]
            exact ⟨_, rfl, h1.rep (nz_head hn) h5 hk, h2.2.rep (nz_head hn) h5 hk, h3⟩
          · cases hp
      · cases hp
theorem le_stp {P : sp_P} (hs : sp_sup (pg_sup P)) {p : Nat} {F G G' : sp_F} (hF : ok_F F) (hG : ok_F G) (h : le_F P F G) (hp : sp_stp P p G = some G') : ∃ F', sp_stp P p F = some F' ∧ le_F P F' G' := by
  unfold sp_stp at hp ⊢
  dsimp only at hp ⊢
  have hn : nz_L G.2.1 := hG.2.2.1
  generalize pg_op P p = o at hp ⊢
  by_cases e : o ≤ 20
  · rw [if_pos e] at hp ⊢
    rw [Option.map_eq_some_iff] at hp
    obtain ⟨U', q1, rfl⟩ := hp
    obtain ⟨T', r1, r2⟩ := le_stk hs hF hG h q1
    rw [r1]
    exact ⟨_, rfl, h.1, r2, h.2.2⟩
  rw [if_neg e] at hp ⊢
  by_cases e : o ≤ 25
  · rw [if_pos e] at hp ⊢
    split at hp
    · next e2 =>
      have hg := h.1.gd (pg_a P p)
      have := hg.ok e2
      rw [if_pos this.1]
      rw [Option.map_eq_some_iff] at hp
      obtain ⟨U', q1, rfl⟩ := hp
      obtain ⟨T', r1, r2⟩ := le_psh h.2.1 hn hg this.2 q1
      rw [r1]
      exact ⟨_, rfl, h.1, r2, h.2.2⟩
    · cases hp
  rw [if_neg e] at hp ⊢
  have h' := h
  obtain ⟨L, T, b⟩ := F
  obtain ⟨K, U, c⟩ := G
  have w1 : ∀ t ∈ T, sp_wt t := hF.1.2
  have w2 : ∀ t ∈ U, sp_wt t := hG.1.2
  obtain ⟨h1, h2, h3⟩ := h
  dsimp only at h1 h2 h3 hn
  by_cases e : o ≤ 30
  · rw [if_pos e] at hp ⊢
    clear h' hF hG w1 w2
    match T, U, h2, hn, hp with
    | [], [], _, _, hp => cases hp
    | x :: T, y :: U, h2, hn, hp =>
      dsimp only at hp ⊢
      split at hp
      · next e2 =>
        have := h2.1.ok e2
        cases hp
        rw [if_pos this.1]
        exact ⟨_, rfl, le_sto h1 h2.1 this.2, h2.2, h3⟩
      · cases hp
  rw [if_neg e] at hp ⊢
  by_cases e : o = 31
  · rw [if_pos e] at hp ⊢
    cases hp
    exact ⟨_, rfl, h1, h2, h3⟩
  rw [if_neg e] at hp ⊢
  by_cases e : o = 32
  · rw [if_pos e] at hp ⊢
    clear h' hF hG w1 w2
    match T, U, h2, hn, hp with
    | [], [], _, _, hp => cases hp
    | x :: T, y :: U, h2, hn, hp =>
      dsimp only at hp ⊢
      split at hp
      · next e2 =>
        cases hp
        subst e2
        rw [h2.1.eq (by decide) (by decide), if_pos rfl]
        exact ⟨_, rfl, h1, h2.2, h3⟩
      · cases hp
  rw [if_neg e] at hp ⊢
  by_cases e : o = 33
  · rw [if_pos e] at hp ⊢
    clear h' hF hG w1 w2
    match T, U, h2, hn, hp with
    | [], [], _, _, hp => cases hp
    | x :: T, y :: U, h2, hn, hp =>
      dsimp only at hp ⊢
      split at hp
      · next e2 =>
        cases hp
        rw [if_pos (h2.1.op e2)]
        exact ⟨_, rfl, h1, h2.2, h3⟩
      · cases hp
  rw [if_neg e] at hp ⊢
  by_cases e : o = 34
  · rw [if_pos e] at hp ⊢
    clear h' hF hG w1 w2
    match T, U, h2, hn, hp with
    | [], [], _, _, hp => cases hp
    | [x], [y], _, _, hp => cases hp
    | x :: x2 :: T, y :: y2 :: U, h2, hn, hp =>
      dsimp only at hp ⊢
      split at hp
      · next e2 =>
        cases hp
        rw [Bool.and_eq_true] at e2
        rw [if_pos (by rw [h2.1.op e2.1, h2.2.1.op e2.2]; rfl)]
        exact ⟨_, rfl, h1, h2.2.2, h3⟩
      · cases hp
  rw [if_neg e] at hp ⊢
  by_cases e : o = 35
  · rw [if_pos e] at hp ⊢
    rw [Option.map_eq_some_iff] at hp
    obtain ⟨U', q1, rfl⟩ := hp
    obtain ⟨T', r1, r2⟩ := le_psh h2 hn (Or.inl rfl) (by omega) q1
    dsimp only
    rw [r1]
    exact ⟨_, rfl, h1, r2, h3⟩
  rw [if_neg e] at hp ⊢
  by_cases e : o = 36
  · rw [if_pos e] at hp ⊢
    exact le_ini hG h' hp
  rw [if_neg e] at hp ⊢
  clear h' hF hG
  match T, U, h2, hn, w1, w2, hp with
  | [], [], _, _, _, _, hp => cases hp
  | x :: T, y :: U, h2, hn, w1, w2, hp =>
    dsimp only at hp ⊢
    by_cases e2 : (sp_op y && sp_is P y (16 * (if o = 39 then 0 else pg_a P p) + 7)) = true
    · rw [if_pos e2] at hp
      rw [Bool.and_eq_true] at e2
      rw [if_pos (by rw [h2.1.op e2.1, h2.1.is hs (w1 x List.mem_cons_self) (w2 y List.mem_cons_self) e2.2]; rfl)]
      rw [Option.map_eq_some_iff] at hp
      obtain ⟨U', q1, rfl⟩ := hp
      obtain ⟨T', r1, r2⟩ := le_psh h2.2 (nz_tail hn) (Or.inl rfl) (by split <;> omega) q1
      rw [r1]
      exact ⟨_, rfl, h1, r2, h3⟩
    · rw [if_neg e2] at hp
      cases hp
