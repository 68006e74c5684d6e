/-! THE COUNT -/
theorem sm_add (f g : Nat → Nat) : ∀ n, sm (fun p => f p + g p) n = sm f n + sm g n
  | 0 => rfl
  | n + 1 => by
    have := sm_add f g n
    unfold sm
    omega
theorem sm_mul (c : Nat) (f : Nat → Nat) : ∀ n, sm (fun p => c * f p) n = c * sm f n
  | 0 => rfl
  | n + 1 => by
    have := sm_mul c f n
    unfold sm
    rw [Nat.mul_add]
    omega
theorem sm_one (r c : Nat) : ∀ n, sm (fun p => if p = r then c else 0) n ≤ c
  | 0 => Nat.zero_le _
  | n + 1 => by
    have h := sm_one r c n
    unfold sm
    by_cases e : n = r
    · rw [if_pos e]
      have : sm (fun p => if p = r then c else 0) n = 0 := by
        have : sm (fun p => if p = r then c else 0) n ≤ 0 * n := sm_ub fun i hi => by
          rw [if_neg (by omega)]
          exact Nat.zero_le _
        omega
      omega
    · rw [if_neg e]
      omega
theorem sm_mem : ∀ (T : List Nat) (n : Nat), sm (fun p => if p ∈ T then 1 else 0) n ≤ T.length
  | [], n => by
    have : sm (fun p => if p ∈ ([] : List Nat) then 1 else 0) n ≤ 0 * n := sm_ub fun i hi => by simp
    omega
  | t :: T, n => by
    have h1 := sm_mem T n
    have h2 := sm_one t 1 n
    have h3 : sm (fun p => if p ∈ t :: T then 1 else 0) n ≤ sm (fun p => (if p ∈ T then 1 else 0) + (if p = t then 1 else 0)) n := by
      refine sm_le fun i _ => ?_
      by_cases e : i = t
      · subst e
        rw [if_pos List.mem_cons_self]
        simp
      · by_cases e2 : i ∈ T
        · rw [if_pos (List.mem_cons_of_mem _ e2), if_pos e2]
          omega
        · rw [if_neg (fun q => by rcases List.mem_cons.mp q with q | q; exact e q; exact e2 q)]
          omega
    rw [sm_add] at h3
    simp only [List.length_cons]
    omega
theorem sl_le {f : Nat → Nat} {n : Nat} : ∀ {R : List Nat}, R.Nodup → (∀ p ∈ R, p < n) → sl_ f R ≤ sm f n := by
  intro R hn hR
  have key : ∀ R : List Nat, R.Nodup → (∀ p ∈ R, p < n) → sl_ f R ≤ sm (fun p => if p ∈ R then f p else 0) n := by
    intro R
    induction R with
    | nil => exact fun _ _ => Nat.zero_le _
    | cons r R ih =>
      intro hn hR
      have hn' := List.nodup_cons.mp hn
      have h1 := ih hn'.2 (fun p hp => hR p (List.mem_cons_of_mem _ hp))
      have hr := hR r List.mem_cons_self
      rw [sl_c]
      have one : ∀ m, r < m → f r ≤ sm (fun p => if p = r then f r else 0) m := by
        intro m
        induction m with
        | zero => intro h; omega
        | succ m ih2 =>
          intro h
          unfold sm
          by_cases e : m = r
          · rw [if_pos e]
            omega
          · have := ih2 (by omega)
            omega
      have h2 := one n hr
      have h3 : sm (fun p => (if p ∈ R then f p else 0) + (if p = r then f r else 0)) n ≤ sm (fun p => if p ∈ r :: R then f p else 0) n := by
        refine sm_le fun i _ => ?_
        by_cases e : i = r
        · subst e
          rw [if_neg hn'.1, if_pos rfl, if_pos List.mem_cons_self]
          omega
        · rw [if_neg e]
          by_cases e2 : i ∈ R
          · rw [if_pos e2, if_pos (List.mem_cons_of_mem _ e2)]
            omega
          · rw [if_neg e2]
            omega
      rw [sm_add] at h3
      omega
  refine Nat.le_trans (key R hn hR) (sm_le fun i _ => ?_)
  split
  · exact Nat.le_refl _
  · exact Nat.zero_le _
/-- bytes of a row -/
theorem tb_nt (t : Nat) : (sp_tb t).length ≤ 1 + 2 * (if t = 0 then 0 else 1) := by
  have := sp_tb_le t
  by_cases e : t = 0
  · subst e
    decide
  · rw [if_neg e]
    omega
theorem tbs_nt : ∀ X : List Nat, (sp_tbs X).length ≤ X.length + 2 * nt X
  | [] => by simp [sp_tbs, nt]
  | t :: X => by
    have h1 := tbs_nt X
    have h2 := tb_nt t
    rw [sp_tbs_c, List.length_append, List.length_cons, nt]
    omega
theorem en_nt : ∀ L : List Nat, nt (sp_en L) ≤ nt L
  | [] => Nat.le_refl _
  | [_] => Nat.le_refl _
  | t :: u :: L => by
    have h1 := en_nt L
    have h2 := en_nt (u :: L)
    unfold sp_en
    split
    · simp only [nt] at *
      omega
    · simp only [nt] at *
      omega
theorem nt_dw : ∀ X : List Nat, nt (X.dropWhile fun t => t == 0) ≤ nt X ∧ (X.dropWhile fun t => t == 0).length ≤ X.length
  | [] => ⟨Nat.le_refl _, Nat.le_refl _⟩
  | t :: X => by
    have := nt_dw X
    rw [List.dropWhile_cons]
    split
    · simp only [nt, List.length_cons]
      omega
    · exact ⟨Nat.le_refl _, Nat.le_refl _⟩
theorem nt_rev (X : List Nat) : nt X.reverse = nt X := by
  induction X with
  | nil => rfl
  | cons t X ih =>
    rw [List.reverse_cons, nt_app, ih]
    simp only [nt]
    omega
theorem lst_nt (L : List Nat) (hl : L.length = 10) : (sp_lst L).length ≤ 10 ∧ nt (sp_lst L) ≤ nt L := by
  have h1 := en_nt L
  have h2 := sp_en_len L
  have h3 := nt_dw (sp_en L).reverse
  rw [nt_rev, List.length_reverse] at h3
  unfold sp_lst sp_tr
  rw [List.length_reverse, nt_rev]
  omega
theorem rb_nt (Y T L : List Nat) (d : Nat) (hl : L.length = 10) : (sp_rb Y (sp_lst L) T d).length ≤ 17 + 2 * nt L + 3 * T.length := by
  have h0 := lst_nt L hl
  have h1 := tbs_nt (sp_lst L)
  have h2 := sp_tbs_le T
  have h3 := sp_tbs_le T.reverse
  rw [List.length_reverse] at h3
  have h4 : (sp_tbs ((sp_lst L).drop Y.length)).length ≤ (sp_tbs (sp_lst L)).length := by
    have := List.take_append_drop Y.length (sp_lst L)
    have e : sp_tbs (sp_lst L) = sp_tbs ((sp_lst L).take Y.length) ++ sp_tbs ((sp_lst L).drop Y.length) := by
      conv => lhs; rw [← this]
      unfold sp_tbs
      rw [List.flatMap_append]
    rw [e, List.length_append]
    omega
  unfold sp_rb
  split
  · split <;> simp [sp_two_len] <;> omega
  · split
    · rw [List.length_append]
      split <;> simp [sp_two_len] <;> omega
    · split
      · simp [sp_two_len]
        omega
      · simp [sp_two_len]
        omega
def sz_ (P : sp_P) (B : af_A) (p : Nat) : Nat := if sp_row P p then (match B p with
  | some F => 17 + 2 * nt F.1 + 3 * F.2.1.length
  | none => 0) else 0
def sms (f : Nat → Nat) : Nat → Nat → Nat
  | 0, _ => 0
  | k + 1, p => f p + sms f k (p + 1)
theorem sms_sm (f : Nat → Nat) : ∀ k p, sms f k p + sm f p = sm f (p + k)
  | 0, p => by simp [sms]
  | k + 1, p => by
    have := sms_sm f k (p + 1)
    rw [sms]
    rw [sm] at this
    rw [show p + (k + 1) = p + 1 + k by omega]
    omega
theorem mr_len {P : sp_P} {B : af_A} (hB : af_ok P B) : ∀ (k p : Nat) (Y : List Nat) (l : Nat), (sp_mr P B k p Y l).1.length ≤ sms (sz_ P B) k p
  | 0, _, _, _ => Nat.le_refl _
  | k + 1, p, Y, l => by
    rw [sp_mr, sms]
    by_cases e : sp_row P p = true
    · rw [if_pos e]
      cases hF : B p with
      | none => exact Nat.zero_le _
      | some F =>
        have h1 := mr_len hB k (p + 1) (sp_lst F.1) (sp_off P p + 1)
        have h2 := rb_nt Y F.2.1 F.1 (sp_off P p - l) (hB p F hF).2.1.2.1
        have hs : sz_ P B p = 17 + 2 * nt F.1 + 3 * F.2.1.length := by
          unfold sz_
          rw [if_pos e, hF]
        dsimp only
        rw [List.length_append, hs]
        omega
    · rw [if_neg e]
      have := mr_len hB k (p + 1) Y l
      omega
set_option maxRecDepth 20000 in
theorem cnt_fin : ∀ k, k < 5 → ∀ a, a < 11 → ∀ d, d < 9 → (17 + 2 * a + 3 * d) * (54 - k - max ((a + d) - (5 + k)) (d - 1) - (a - 5)) + 40 * k ≤ 2500 := by decide +kernel
theorem made_le {P : sp_P} (hP : wf_P P) {B : af_A} (hB : af_least P B) (hw : sp_whole P B = true) : (sp_made P B).1.length ≤ 2500 := by
  have h50 := hP.n
  have h4 : (pg_han P).length ≤ 4 := hP.2.2.2.2.2.2.2.1
  obtain ⟨R, r1, r2, r3, r4⟩ := rk_least hP hB
  have hRn : ∀ p ∈ R, p < pg_n P := by
    intro p hp
    have := (r2 p).mpr hp
    obtain ⟨F, hF⟩ := Option.isSome_iff_exists.mp this
    exact (hB.1.1 p F hF).1
  have hS := sl_le (f := k_s P) r1 hRn
  have hPp := sl_le (f := k_p P) r1 hRn
  have hK := sl_le (f := k_h P) r1 hRn
  have hJ := jt_len P (pg_n P)
  have hie := it_et P (pg_han P).length
  have hKk : sm (k_h P) (pg_n P) ≤ (et P (pg_han P).length).length := sm_mem _ _
  -- each INSTRUCTION is of one kind at most
  have htot : sm (k_s P) (pg_n P) + sm (k_p P) (pg_n P) + sm (fun q => js_o (pg_op P q)) (pg_n P) ≤ pg_n P := by
    rw [← sm_add, ← sm_add]
    have : sm (fun p => k_s P p + k_p P p + js_o (pg_op P p)) (pg_n P) ≤ 1 * pg_n P := sm_ub fun i _ => by
      unfold k_s k_p ss_o ps_o js_o
      split <;> split <;> split <;> omega
    omega
  have hall : ∀ p, p < pg_n P → ∃ F, B p = some F := by
    intro p hp
    unfold sp_whole at hw
    rw [Bool.and_eq_true, List.all_eq_true] at hw
    have := hw.1 p (by rw [List.mem_range'_1]; omega)
    unfold sp_wp at this
    cases e : B p with
    | none => rw [e] at this; cases this
    | some F => exact ⟨F, rfl⟩
  have hbd : ∀ p F, B p = some F → nt F.1 ≤ 10 ∧ F.2.1.length ≤ 8 ∧ nt F.1 ≤ 5 + sm (k_s P) (pg_n P) ∧ F.2.1.length + nt F.1 ≤ 5 + (et P (pg_han P).length).length + sm (k_p P) (pg_n P) ∧ F.2.1.length ≤ 1 + sm (k_p P) (pg_n P) := by
    intro p F hF
    have hok := (hB.1.1 p F hF).2
    have hb := rk.b r3 ((r2 p).mp (by rw [hF]; rfl)) hF
    have h10 := nt_le F.1
    rw [hok.1.2.1] at h10
    have h8 : F.2.1.length ≤ 8 := Nat.le_trans (sp_sl_len _) hok.2
    omega
  have hone : ∀ p F, B p = some F → p ∈ et P (pg_han P).length → F.2.1.length = 1 := by
    intro p F hF hp
    obtain ⟨h, a1, a2, a3⟩ := et_ex hp
    obtain ⟨G, hG⟩ := hall _ a2
    have hH := wf_hdl hP a1
    unfold wf_H at hH
    obtain ⟨_, H, b1, b2⟩ := (hB.1.2.2 _ G hG).1 h a1 ⟨Nat.le_refl _, hH.2.1⟩
    rw [a3, hF] at b1
    cases b1
    exact b2.2.1.len.symm
  generalize hk : (et P (pg_han P).length).length = k at *
  generalize hj : sm (fun q => js_o (pg_op P q)) (pg_n P) = J at *
  have hk5 : k ≤ 4 := by omega
  -- every row that is not a HANDLER's own
  have hrow : ∀ p, p < pg_n P → sp_row P p = true → p ∉ et P (pg_han P).length → p ∈ jt P (pg_n P) ++ it P (pg_han P).length := by
    intro p hp hr hne
    have hh : (∃ h, h < (pg_han P).length ∧ (pg_hd P h).2.2.1 = p) → p ∈ jt P (pg_n P) ++ it P (pg_han P).length := by
      rintro ⟨h, a, b⟩
      by_cases e : (pg_hd P h).1 < pg_n P
      · have := et_mem a e
        rw [b] at this
        exact absurd this hne
      · have := it_mem a e
        rw [b] at this
        exact List.mem_append_right _ this
    unfold sp_row at hr
    rw [Bool.or_eq_true, Bool.or_eq_true] at hr
    rcases hr with (hr | hr) | hr
    · unfold sp_r1 at hr
      rw [Bool.and_eq_true, Bool.and_eq_true] at hr
      obtain ⟨F, hF⟩ := hall p hp
      rcases r4 p ((r2 p).mp (by rw [hF]; rfl)) with q | q | q | q
      · rw [q] at hr
        simp at hr
      · exact List.mem_append_left _ q
      · exact hh q
      · rw [hr.2] at q
        cases q.2
    · unfold sp_r2 at hr
      rw [List.any_eq_true] at hr
      obtain ⟨q, q1, q2⟩ := hr
      rw [Bool.and_eq_true, beq_iff_eq] at q2
      rw [List.mem_range] at q1
      have := jt_mem q1 q2.1
      rw [q2.2] at this
      exact List.mem_append_left _ this
    · unfold sp_r3 at hr
      rw [List.any_eq_true] at hr
      obtain ⟨h, q1, q2⟩ := hr
      rw [beq_iff_eq] at q2
      rw [List.mem_range] at q1
      exact hh ⟨h, q1, q2⟩
  have hTl : (jt P (pg_n P) ++ it P (pg_han P).length).length ≤ J + 4 - k := by
    rw [List.length_append]
    omega
  have hmr := mr_len (P := P) hB.1.1 (pg_n P) 0 (sp_lst (sp_fst P).1) 0
  have hsm := sms_sm (sz_ P B) (pg_n P) 0
  rw [Nat.zero_add] at hsm
  have hz0 : sm (sz_ P B) 0 = 0 := rfl
  unfold sp_made
  refine Nat.le_trans hmr ?_
  rw [hz0, Nat.add_zero] at hsm
  rw [hsm]
  generalize hU : (2500 - 40 * k) / (J + 4 - k) = U
  have hpt : sm (sz_ P B) (pg_n P) ≤ sm (fun p => 40 * (if p ∈ et P (pg_han P).length then 1 else 0) + U * (if p ∈ jt P (pg_n P) ++ it P (pg_han P).length then 1 else 0)) (pg_n P) := by
    refine sm_le fun p hp => ?_
    obtain ⟨F, hF⟩ := hall p hp
    obtain ⟨b1, b2, b3, b4, b5⟩ := hbd p F hF
    unfold sz_
    by_cases er : sp_row P p = true
    · rw [if_pos er, hF]
      dsimp only
      by_cases ee : p ∈ et P (pg_han P).length
      · have := hone p F hF ee
        rw [if_pos ee]
        omega
      · have hm := hrow p hp er ee
        rw [if_neg ee, if_pos hm, Nat.mul_zero, Nat.zero_add, Nat.mul_one, ← hU]
        have hpos : 0 < J + 4 - k := by
          have : 0 < (jt P (pg_n P) ++ it P (pg_han P).length).length := List.length_pos_of_mem hm
          omega
        rw [Nat.le_div_iff_mul_le hpos]
        have hc := cnt_fin k (by omega) (nt F.1) (by omega) F.2.1.length (by omega)
        have hle : J + 4 - k ≤ 54 - k - max ((nt F.1 + F.2.1.length) - (5 + k)) (F.2.1.length - 1) - (nt F.1 - 5) := by omega
        have := Nat.mul_le_mul_left (17 + 2 * nt F.1 + 3 * F.2.1.length) hle
        omega
    · rw [if_neg er]
      exact Nat.zero_le _
  refine Nat.le_trans hpt ?_
  rw [sm_add, sm_mul, sm_mul]
  have h1 := sm_mem (et P (pg_han P).length) (pg_n P)
  have h2 := sm_mem (jt P (pg_n P) ++ it P (pg_han P).length) (pg_n P)
  have h3 : U * sm (fun p => if p ∈ jt P (pg_n P) ++ it P (pg_han P).length then 1 else 0) (pg_n P) ≤ U * (J + 4 - k) := Nat.mul_le_mul_left _ (by omega)
  have h4 : U * (J + 4 - k) ≤ 2500 - 40 * k := by
    rw [← hU]
    exact Nat.div_mul_le_self _ _
  omega
