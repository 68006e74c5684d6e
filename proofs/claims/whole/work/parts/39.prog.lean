/-! THE METHOD, well formed, and in the class's store -/
def wf_I (q : Nat × Nat × Nat) : Prop := q.1 < 40 ∧ (21 ≤ q.1 → q.1 ≤ 30 → q.2.1 < 10 ∧ (q.1 = 22 ∨ q.1 = 24 ∨ q.1 = 27 ∨ q.1 = 29 → q.2.1 < 9)) ∧ (31 ≤ q.1 → q.1 ≤ 34 → q.2.2 < 50) ∧ (35 ≤ q.1 → q.2.1 < 8) ∧ (q.1 = 38 → q.2.2 < 8)
def wf_H (q : Nat × Nat × Nat × Nat) : Prop := q.1 < 50 ∧ q.1 < q.2.1 ∧ q.2.1 ≤ 50 ∧ q.2.2.1 < 50 ∧ q.2.2.2 < 8
def wf_A (t : Nat) : Prop := (1 ≤ t ∧ t ≤ 4) ∨ (sp_kd t = 7 ∧ sp_pt t < 8)
def wf_P (P : sp_P) : Prop := sp_sup (pg_sup P) ∧ pg_own P < 8 ∧ pg_mode P ≤ 2 ∧ (pg_arg P).length ≤ 4 ∧ (∀ t ∈ pg_arg P, wf_A t) ∧ pg_n P ≤ 50 ∧ (∀ q ∈ pg_cod P, wf_I q) ∧ (pg_han P).length ≤ 4 ∧ (∀ q ∈ pg_han P, wf_H q) ∧ (pg_mode P = 2 → pg_giv P = false)
def pg_hd (P : sp_P) (h : Nat) : Nat × Nat × Nat × Nat := (pg_han P).getD h (0, 0, 0, 0)
def rc_P (P : sp_P) (M : zm_M) : Prop := rc_C P M ∧ M 5 0 0 = nI (pg_own P) ∧ M 5 0 1 = nI (pg_mode P) ∧ M 5 0 2 = bI (pg_giv P) ∧ M 5 0 4 = nI (pg_arg P).length ∧ (∀ i, i < (pg_arg P).length → M 6 0 i = nI ((pg_arg P).getD i 0)) ∧ M 5 0 9 = nI (pg_n P) ∧ (∀ p, p < pg_n P → M 7 0 p = nI (pg_op P p) ∧ M 8 0 p = nI (pg_a P p) ∧ M 9 0 p = nI (pg_b P p)) ∧ (∀ p, p ≤ pg_n P → M 10 0 p = nI (sp_off P p)) ∧ M 5 0 14 = nI (pg_han P).length ∧ ∀ h, h < (pg_han P).length → M 11 0 h = nI (pg_hd P h).1 ∧ M 12 0 h = nI (pg_hd P h).2.1 ∧ M 13 0 h = nI (pg_hd P h).2.2.1 ∧ M 14 0 h = nI (pg_hd P h).2.2.2
/-- it hangs on sorts below 15 alone -/
theorem rc_P.kept {P : sp_P} {M M' : zm_M} (h : rc_P P M) (hk : ∀ s, s < 15 → M' s = M s) : rc_P P M' := by
  unfold rc_P rc_C at h ⊢
  rw [hk 2 (by decide), hk 3 (by decide), hk 4 (by decide), hk 5 (by decide), hk 6 (by decide), hk 7 (by decide), hk 8 (by decide), hk 9 (by decide), hk 10 (by decide), hk 11 (by decide), hk 12 (by decide), hk 13 (by decide), hk 14 (by decide)]
  exact h
theorem zo_F.low {f : Nat} {M M' : zm_M} (h : zo_F f M M') {s : Nat} (hs : s < 23) : M' s = M s := by
  funext i k
  exact h s i k (Or.inl hs)
theorem rc_P.zo {P : sp_P} {M M' : zm_M} {f : Nat} (h : rc_P P M) (hk : zo_F f M M') : rc_P P M' := h.kept fun s hs => hk.low (by omega)
/-- what a step of the class's machine answers and leaves in frame f -/
def st_R (f : Nat) (M : zm_M) (res : Option (Int32 × zm_M)) (o : Option sp_F) : Prop := ∃ M', res = some (bI o.isSome, M') ∧ zo_F f M M' ∧ ∀ F', o = some F' → rc_F M' f F' ∧ wf_F F'
theorem st_R.no {f : Nat} {M M' : zm_M} (h : zo_F f M M') : st_R f M (some (nI 0, M')) none := ⟨M', rfl, h, fun F' q => by cases q⟩
theorem st_R.yes {f : Nat} {M M' : zm_M} {F : sp_F} (h : zo_F f M M') (h1 : rc_F M' f F) (h2 : wf_F F) : st_R f M (some (nI 1, M')) (some F) := ⟨M', rfl, h, fun F' q => by cases q; exact ⟨h1, h2⟩⟩
theorem wf_cons {L T : List Nat} {b : Bool} {t : Nat} (h : wf_F (L, T, b)) (ht : sp_wt t) : wf_F (L, t :: T, b) := ⟨h.1, fun u hu => by
  rcases List.mem_cons.mp hu with rfl | hu
  · exact ht
  · exact h.2 u hu⟩
theorem wf_tail {L T : List Nat} {b : Bool} {t : Nat} (h : wf_F (L, t :: T, b)) : wf_F (L, T, b) := ⟨h.1, fun u hu => h.2 u (List.mem_cons_of_mem _ hu)⟩
/-- a push, its answer handed on -/
theorem st_psh {M M0 : zm_M} {f t : Nat} {L T : List Nat} {b : Bool} (h0 : zo_F f M0 M) (h : rc_F M f (L, T, b)) (hw : wf_F (L, T, b)) (ht : sp_wt t) : st_R f M0 ((fn_fr_push [.inr (23, f), .inl (nI t)] M).bind fun q => if q.1 = nI 0 then some (nI 0, q.2) else some (nI 1, q.2)) ((sp_psh t T).map fun T => (L, T, b)) := by
  obtain ⟨M', h1, h2, h3⟩ := sc_push h (show t < 2 ^ 31 by have := sp_wt_lt ht; omega)
  rw [h1]
  simp only [Option.bind_some, bI_0]
  cases hp : sp_psh t T with
  | none => exact st_R.no (h0.tr h2)
  | some T' =>
    have hT : T' = t :: T := by
      unfold sp_psh at hp
      split at hp
      · cases hp; rfl
      · cases hp
    subst hT
    exact st_R.yes (h0.tr h2) (h3 _ hp) (wf_cons hw ht)
theorem st_01 {α : Type} {x : Option (Int32 × α)} (h : ∀ q, x = some q → q.1 = nI 0 ∨ q.1 = nI 1) : (x.bind fun q => if q.1 = nI 0 ∨ q.1 = nI 1 then some (q.1, q.2) else none) = x := by
  cases x with
  | none => rfl
  | some q =>
    show (if q.1 = nI 0 ∨ q.1 = nI 1 then some (q.1, q.2) else none) = some q
    rw [if_pos (h q rfl)]
theorem bI_01 (b : Bool) : bI b = nI 0 ∨ bI b = nI 1 := by cases b <;> simp [bI]
theorem st_R.b {f : Nat} {M : zm_M} {res : Option (Int32 × zm_M)} {o : Option sp_F} (h : st_R f M res o) : st_R f M (res.bind fun q => if q.1 = nI 0 ∨ q.1 = nI 1 then some (q.1, q.2) else none) o := by
  obtain ⟨M', h1, h2⟩ := h
  rw [st_01 (fun q hq => by rw [h1] at hq; cases hq; exact bI_01 _)]
  exact ⟨M', h1, h2⟩
/-- a push as it is -/
theorem st_psh' {M M0 : zm_M} {f t : Nat} {L T : List Nat} {b : Bool} (h0 : zo_F f M0 M) (h : rc_F M f (L, T, b)) (hw : wf_F (L, T, b)) (ht : sp_wt t) : st_R f M0 (fn_fr_push [.inr (23, f), .inl (nI t)] M) ((sp_psh t T).map fun T => (L, T, b)) := by
  obtain ⟨M', h1, h2, h3⟩ := sc_push h (show t < 2 ^ 31 by have := sp_wt_lt ht; omega)
  rw [h1]
  cases hp : sp_psh t T with
  | none => exact st_R.no (h0.tr h2)
  | some T' =>
    have hT : T' = t :: T := by
      unfold sp_psh at hp
      split at hp
      · cases hp; rfl
      · cases hp
    subst hT
    exact st_R.yes (h0.tr h2) (h3 _ hp) (wf_cons hw ht)
/-- take t, then go on -/
theorem st_take {M M0 : zm_M} {f t : Nat} {L T : List Nat} {b : Bool} {k : zm_M → Option (Int32 × zm_M)} {ok : List Nat → Option sp_F} (h0 : zo_F f M0 M) (h : rc_F M f (L, T, b)) (hw : wf_F (L, T, b)) (ht : t < 2 ^ 31) (hk : ∀ M' T', T = t :: T' → zo_F f M0 M' → rc_F M' f (L, T', b) → wf_F (L, T', b) → st_R f M0 (k M') (ok T')) : st_R f M0 ((fn_fr_take [.inr (23, f), .inl (nI t)] M).bind fun q => if q.1 = nI 0 then some (nI 0, q.2) else k q.2) (match T with
    | x :: T' => if x = t then ok T' else none
    | [] => none) := by
  obtain ⟨M', h1, h2, h3⟩ := sc_take h hw ht
  rw [h1]
  simp only [Option.bind_some, bI_0]
  cases T with
  | nil => exact st_R.no (h0.tr h2)
  | cons x T =>
    by_cases e : x = t
    · subst e
      simp only [List.head?_cons, beq_self_eq_true, if_true]
      rw [if_neg (by decide)]
      exact hk M' T rfl (h0.tr h2) (h3 T rfl) (wf_tail hw)
    · simp only [if_neg e]
      rw [if_pos (by simp [e])]
      exact st_R.no (h0.tr h2)
