/-! THE MADE WORLD IS THE LAYOUT'S, with the first store -/
theorem og_some {α : Type} {o : Option α} {d : α} (h : o.isSome = true) : o = some (o.getD d) := by
  cases o with
  | none => cases h
  | some x => rfl
theorem yw_mf : fi_mf [.inr (0, 0)] yw_1 = some yw_2 := og_some yw_a
theorem yw_mo : fi_mo [.inr (353, 0)] yw_3 = some yw_4 := og_some yw_b
theorem nbq_f {a b : Nat} (h : a ≠ b) : Nat.beq a b = false := by
  cases hb : Nat.beq a b with
  | false => rfl
  | true => exact absurd (Nat.eq_of_beq_eq_true hb) h
def ya_c (tc : Nat → ClassId) (s : Nat) : ClassId := match zn_at ly_k s 9 with
  | 1 => tc 0
  | 2 => tc 1
  | _ => tc 2
/-- KINDS lies at kd, the script at b -/
def ya_a (kd b : Nat) (ad : List Nat) (r : Nat × Nat) : Nat := match Nat.beq r.1 62 with
  | true => kd
  | false => match Nat.beq r.1 63 with
    | true => b
    | false => ad.getD (ix r) 0
theorem ya_lo {kd b : Nat} {ad : List Nat} {r : Nat × Nat} (h : r.1 < 62) : ya_a kd b ad r = ad.getD (ix r) 0 := by
  unfold ya_a
  rw [show Nat.beq r.1 62 = false from nbq_f (by omega), show Nat.beq r.1 63 = false from nbq_f (by omega)]
theorem ya_arr {cA : ClassId} {n : Nat} {f g : Nat → Option Nat} (h : ∀ j, j < n → f j = g j) : vp_cell cA (n, .inr (.inr (.inr (.inr f)))) = vp_cell cA (n, .inr (.inr (.inr (.inr g)))) := by
  rw [vp_cell_q, vp_cell_q]
  unfold arrV
  have : (Array.ofFn (n := n) fun j => va_rf (f j.val)) = Array.ofFn (n := n) fun j => va_rf (g j.val) := by
    congr 1
    funext j
    rw [h j.val j.isLt]
  rw [this]
theorem ya_lt {ws : yb_W} {r : Nat × Nat} (h : yk_c ws r = true) : ix r < ws.length := by
  rcases Nat.lt_or_ge (ix r) ws.length with q | q
  · exact q
  · unfold yk_c at h
    rw [List.getElem?_eq_none q] at h
    exact nomatch (show false = true from h)
/-! the layout's own shape, by the kernel -/
theorem zn_ge {α : Type} {d : α} : ∀ {L : List α} {k : Nat}, L.length ≤ k → zn_at L k d = d
  | [], _, _ => rfl
  | a :: L, 0, h => by simp at h
  | a :: L, k + 1, h => zn_ge (L := L) (k := k) (by simpa using h)
def yl_o (q : Nat × Nat) : Bool := Nat.blt q.1 (zy_s zt_Y) && Nat.blt q.2 (zy_m zt_Y q.1)
theorem yl_o_ok {q : Nat × Nat} (h : yl_o q = true) : q.1 < zy_s zt_Y ∧ q.2 < zy_m zt_Y q.1 := by
  unfold yl_o at h
  rw [Bool.and_eq_true] at h
  exact ⟨Nat.le_of_ble_eq_true h.1, Nat.le_of_ble_eq_true h.2⟩
def yl_a (s : Nat) : Bool := Nat.blt (zy_k zt_Y s) 4 && (Nat.ble (zn_at ly_r s []).length 43 && ((!Nat.beq (zy_k zt_Y s) 0 || decide ((zt_cl[zy_c zt_Y s]?).map (fun q => q.2.2) = some (zy_n zt_Y s))) &&
  ((List.range (zy_m zt_Y s)).all (fun i => (List.range 43).all fun k => match zy_r zt_Y s i k with
    | none => true
    | some q => yl_o q) && ((!Nat.beq (zy_k zt_Y s) 3 || (List.range (zy_n zt_Y s)).all fun j => yl_o (zy_e zt_Y s 0 j)) &&
    (List.range 43).all fun k => !(Nat.beq (zy_k zt_Y s) 0 && Nat.blt (zy_f zt_Y (zy_c zt_Y s) k) 2) || (zn_at (zn_at ly_r s []) k none).isNone))))
set_option maxRecDepth 100000 in
theorem yl_ok : ((List.range (zy_s zt_Y)).all yl_a) = true := by decide +kernel
theorem yl_at {s : Nat} (hs : s < zy_s zt_Y) : zy_k zt_Y s < 4 ∧ (zn_at ly_r s []).length ≤ 43 ∧ (zy_k zt_Y s = 0 → (zt_cl[zy_c zt_Y s]?).map (fun q => q.2.2) = some (zy_n zt_Y s)) ∧ (∀ i, i < zy_m zt_Y s → ∀ k, k < 43 → ∀ q, zy_r zt_Y s i k = some q → q.1 < zy_s zt_Y ∧ q.2 < zy_m zt_Y q.1) ∧ (zy_k zt_Y s = 3 → ∀ j, j < zy_n zt_Y s → (zy_e zt_Y s 0 j).1 < zy_s zt_Y ∧ (zy_e zt_Y s 0 j).2 < zy_m zt_Y (zy_e zt_Y s 0 j).1) ∧ (∀ k, k < 43 → zy_k zt_Y s = 0 → zy_f zt_Y (zy_c zt_Y s) k < 2 → zn_at (zn_at ly_r s []) k none = none) := by
  have h := List.all_eq_true.mp yl_ok s (List.mem_range.mpr hs)
  unfold yl_a at h
  rw [Bool.and_eq_true, Bool.and_eq_true, Bool.and_eq_true, Bool.and_eq_true, Bool.and_eq_true, Bool.or_eq_true, Bool.or_eq_true] at h
  obtain ⟨h1, h2, h3, h4, h5, h6⟩ := h
  refine ⟨Nat.le_of_ble_eq_true h1, Nat.le_of_ble_eq_true h2, fun k0 => ?_, fun i hi k hk q hq => ?_, fun k3 j hj => ?_, fun k hk k0 hf => ?_⟩
  · rcases h3 with h3 | h3
    · rw [k0] at h3
      exact absurd h3 (by decide)
    · exact of_decide_eq_true h3
  · have := List.all_eq_true.mp (List.all_eq_true.mp h4 i (List.mem_range.mpr hi)) k (List.mem_range.mpr hk)
    rw [hq] at this
    exact yl_o_ok this
  · rcases h5 with h5 | h5
    · rw [k3] at h5
      exact absurd h5 (by decide)
    · exact yl_o_ok (List.all_eq_true.mp h5 j (List.mem_range.mpr hj))
  · have := List.all_eq_true.mp h6 k (List.mem_range.mpr hk)
    rw [Bool.or_eq_true] at this
    rcases this with q | q
    · have hb : (Nat.beq (zy_k zt_Y s) 0 && Nat.blt (zy_f zt_Y (zy_c zt_Y s) k) 2) = true := by
        rw [Bool.and_eq_true, Nat.beq_eq]
        exact ⟨k0, Nat.ble_eq_true_of_le hf⟩
      rw [hb] at q
      exact nomatch (show false = true from q)
    · exact Option.isNone_iff_eq_none.mp q
theorem zr_none {s i k : Nat} (h : zn_at (zn_at ly_r s []) k none = none) : zy_r zt_Y s i k = none := by
  show (match zn_at (zn_at ly_r s []) k none with
    | none => none
    | some (t, f) => some (t, f i)) = none
  rw [h]
theorem ya_at {D : va_G} {cl : List vw_C} {tc : Nat → ClassId} {kd b : Nat} {ad : List Nat} {ws : yb_W} {H : Heap} {r : Nat × Nat} (hl : ad.length = ws.length) (hP : va_P D cl (yb_w tc ad ws) H) (hr : r ∈ zy_d zt_Y) (hc : yk_c ws r = true) : va_at D cl (ya_a kd b ad r, zc_e zt_Y (ya_a kd b ad) (ya_c tc) (yz ws) r) H := by
  have hdm := zy_d_mem.mp hr
  have hya := yl_at hdm.1
  rw [ya_lo hdm.1]
  unfold yk_c at hc
  split at hc
  · next ci fs heq =>
    have hp := hP (ix r) (ad.getD (ix r) 0, yb_e tc ad (.inl (ci, fs))) (by rw [yb_w_get hl, heq]; rfl)
    rw [Bool.and_eq_true, Bool.and_eq_true, Bool.and_eq_true, Nat.beq_eq, Nat.beq_eq, Nat.beq_eq] at hc
    obtain ⟨⟨hk, hci⟩, hn, hall⟩ := hc
    rw [List.all_eq_true] at hall
    have he : zc_e zt_Y (ya_a kd b ad) (ya_c tc) (yz ws) r = .inr (ci, fs.map (yb_f ad)) := by
      unfold zc_e
      rw [hk, hci]
      show Sum.inr (zy_c zt_Y r.1, _) = Sum.inr (zy_c zt_Y r.1, _)
      congr 2
      apply List.ext_getElem?
      intro k
      rw [List.getElem?_map, List.getElem?_map, ← hn]
      by_cases hlt : k < fs.length
      · have h1 := hall k (List.mem_range.mpr hlt)
        rw [List.getElem?_range hlt]
        cases hz : zy_r zt_Y r.1 r.2 k with
        | none =>
          rw [hz] at h1
          dsimp only at h1
          split at h1
          · next x hx =>
            rw [hx]
            show some (match zy_r zt_Y r.1 r.2 k with
              | none => Value.int (yz ws r.1 r.2 k)
              | some q => .ref (ya_a kd b ad q)) = some (Value.int x)
            rw [hz]
            have hy : yz ws r.1 r.2 k = x := by
              unfold yz
              rw [show ws[ix (r.1, r.2)]? = some (.inl (ci, fs)) from heq]
              dsimp only
              rw [hx]
            rw [hy]
          · cases h1
        | some q =>
          rw [hz] at h1
          dsimp only at h1
          split at h1
          · next x hx =>
            rw [hx]
            show some (match zy_r zt_Y r.1 r.2 k with
              | none => Value.int (yz ws r.1 r.2 k)
              | some q => .ref (ya_a kd b ad q)) = some (Value.ref (ad.getD x.1 0))
            rw [hz, Nat.eq_of_beq_eq_true h1]
            have hk43 : k < 43 := by
              rcases Nat.lt_or_ge k 43 with h | h
              · exact h
              · rw [zr_none (zn_ge (Nat.le_trans hya.2.1 h))] at hz
                cases hz
            dsimp only
            rw [ya_lo (hya.2.2.2.1 r.2 hdm.2 k hk43 q hz).1]
          · cases h1
      · rw [List.getElem?_eq_none (by simpa using hlt), List.getElem?_eq_none (by simpa using hlt)]
        rfl
    rw [he]
    exact hp
  · next t n f heq =>
    have hp := hP (ix r) (ad.getD (ix r) 0, yb_e tc ad (.inr (t, n, .inl f))) (by rw [yb_w_get hl, heq]; rfl)
    rw [Bool.and_eq_true, Bool.or_eq_true, Bool.and_eq_true, Bool.and_eq_true, Nat.beq_eq, Nat.beq_eq, Nat.beq_eq, Nat.beq_eq, Nat.beq_eq] at hc
    obtain ⟨hn, hkt⟩ := hc
    have hy : yz ws r.1 r.2 = f := by
      funext k
      unfold yz
      rw [show ws[ix (r.1, r.2)]? = some (.inr (t, n, .inl f)) from heq]
    have hcA : ya_c tc r.1 = tc t := by
      unfold ya_c
      rcases hkt with ⟨h1, h2⟩ | ⟨h1, h2⟩
      · rw [show zn_at ly_k r.1 9 = 1 from h1, h2]
        rfl
      · rw [show zn_at ly_k r.1 9 = 2 from h1, h2]
        rfl
    rw [zs_arr (by rcases hkt with ⟨h1, h2⟩ | ⟨h1, h2⟩; exact Or.inl h1; exact Or.inr h1), hy, hcA, ← hn]
    exact hp
  · next t n f heq =>
    have hp := hP (ix r) (ad.getD (ix r) 0, yb_e tc ad (.inr (t, n, .inr f))) (by rw [yb_w_get hl, heq]; rfl)
    rw [Bool.and_eq_true, Bool.and_eq_true, Bool.and_eq_true, Nat.beq_eq, Nat.beq_eq, Nat.beq_eq] at hc
    obtain ⟨⟨hk, ht⟩, hn, hall⟩ := hc
    rw [List.all_eq_true] at hall
    have he : zc_e zt_Y (ya_a kd b ad) (ya_c tc) (yz ws) r = .inl (tc 2, n, .inr (.inr (.inr (.inr fun j => some (ya_a kd b ad (zy_e zt_Y r.1 r.2 j)))))) := by
      unfold zc_e
      rw [hk, hn]
      show Sum.inl (ya_c tc r.1, _) = Sum.inl (tc 2, _)
      unfold ya_c
      rw [show zn_at ly_k r.1 9 = 3 from hk]
      rfl
    rw [he]
    subst ht
    show H[ad.getD (ix r) 0]? = some (vp_cell _ _)
    rw [ya_arr (f := fun j => some (ya_a kd b ad (zy_e zt_Y r.1 r.2 j))) (g := fun j => (f j).map fun k => ad.getD k 0) (fun j hj => ?_)]
    · exact hp
    · have h1 := hall j (List.mem_range.mpr hj)
      split at h1
      · next k hfk =>
        rw [hfk, Nat.eq_of_beq_eq_true h1, ya_lo (show (zy_e zt_Y r.1 r.2 j).1 < 62 from (hya.2.2.2.2.1 hk j (by rw [← hn]; exact hj)).1)]
        rfl
      · cases h1
  · cases hc
theorem ya_P {D : va_G} {cl : List vw_C} {tc : Nat → ClassId} {kd b : Nat} {ad : List Nat} {ws : yb_W} {H : Heap} (hl : ad.length = ws.length) (hP : va_P D cl (yb_w tc ad ws) H) (hc : (zy_d zt_Y).all (yk_c ws) = true) : va_P D cl (zc_w zt_Y (ya_a kd b ad) (ya_c tc) (yz ws)) H := by
  intro k q hq
  rw [zc_get] at hq
  cases hd : (zy_d zt_Y)[k]? with
  | none => rw [hd] at hq; cases hq
  | some r =>
    rw [hd] at hq
    cases hq
    exact ya_at hl hP (List.mem_of_getElem? hd) (List.all_eq_true.mp hc r (List.mem_of_getElem? hd))
theorem ya_inj {tc : Nat → ClassId} {A : Nat → Prop} {kd b : Nat} {ad : List Nat} {ws : yb_W} (hl : ad.length = ws.length) (hD : va_D A (yb_w tc ad ws)) (hc : (zy_d zt_Y).all (yk_c ws) = true) {x y : Nat × Nat} (hx : x ∈ zy_d zt_Y) (hy : y ∈ zy_d zt_Y) (h : ya_a kd b ad x = ya_a kd b ad y) : x = y := by
  rw [ya_lo (zy_d_mem.mp hx).1, ya_lo (zy_d_mem.mp hy).1] at h
  have lx := ya_lt (List.all_eq_true.mp hc x hx)
  have ly := ya_lt (List.all_eq_true.mp hc y hy)
  have e := hD.1 (ix x) (ix y) _ _ (by rw [yb_w_get hl, List.getElem?_eq_getElem lx]; rfl) (by rw [yb_w_get hl, List.getElem?_eq_getElem ly]; rfl) h
  have i1 := of_decide_eq_true (List.all_eq_true.mp yk_i x hx)
  have i2 := of_decide_eq_true (List.all_eq_true.mp yk_i y hy)
  rw [← i1, ← i2, e]
theorem ya_pos {k : Nat} {r : Nat × Nat} (h : (zy_d zt_Y)[k]? = some r) : ixp r = k := by
  have h1 : (zy_d zt_Y).zipIdx[k]? = some (r, k) := by
    rw [List.getElem?_zipIdx, h]
    simp
  exact Nat.eq_of_beq_eq_true (List.all_eq_true.mp yk_p (r, k) (List.mem_of_getElem? h1))
theorem ya_D {tc : Nat → ClassId} {A : Nat → Prop} {kd b : Nat} {ad : List Nat} {ws : yb_W} (hl : ad.length = ws.length) (hD : va_D A (yb_w tc ad ws)) (hc : (zy_d zt_Y).all (yk_c ws) = true) (M : zm_M) : va_D A (zc_w zt_Y (ya_a kd b ad) (ya_c tc) M) := by
  refine ⟨fun i j p q hp hq e => ?_, fun k q hq => ?_⟩
  · rw [zc_get] at hp hq
    cases hdi : (zy_d zt_Y)[i]? with
    | none => rw [hdi] at hp; cases hp
    | some r =>
      cases hdj : (zy_d zt_Y)[j]? with
      | none => rw [hdj] at hq; cases hq
      | some r' =>
        rw [hdi] at hp
        rw [hdj] at hq
        cases hp
        cases hq
        have := ya_inj hl hD hc (List.mem_of_getElem? hdi) (List.mem_of_getElem? hdj) e
        rw [← ya_pos hdi, ← ya_pos hdj, this]
  · rw [zc_get] at hq
    cases hd : (zy_d zt_Y)[k]? with
    | none => rw [hd] at hq; cases hq
    | some r =>
      rw [hd] at hq
      cases hq
      have lx := ya_lt (List.all_eq_true.mp hc r (List.mem_of_getElem? hd))
      show A (ya_a kd b ad r)
      rw [ya_lo (zy_d_mem.mp (List.mem_of_getElem? hd)).1]
      exact hD.2 (ix r) (ad.getD (ix r) 0, yb_e tc ad ws[ix r]) (by rw [yb_w_get hl, List.getElem?_eq_getElem lx]; rfl)
theorem ya_G {tc : Nat → ClassId} {A : Nat → Prop} {kd b : Nat} {ad : List Nat} {ws : yb_W} {E : String} (hl : ad.length = ws.length) (hD : va_D A (yb_w tc ad ws)) (hc : (zy_d zt_Y).all (yk_c ws) = true) : zg_ok zt_Y zt_cl (yb_t tc E) (ya_a kd b ad) (ya_c tc) A := by
  refine ⟨ya_D hl hD hc, fun x hx y hy h => ya_inj hl hD hc hx hy h, fun s hs h => ⟨0, ?_⟩, fun s hs h => ⟨1, ?_⟩, fun s hs h => ⟨2, E, ?_⟩, fun s hs h => ?_, fun s i k q hs hi hq => ?_, fun s i j hs hi h hj => ?_, fun s hs => (yl_at hs).1, fun s i k hs h hf => ?_⟩
  · unfold ya_c
    rw [show zn_at ly_k s 9 = 1 from h]
    rfl
  · unfold ya_c
    rw [show zn_at ly_k s 9 = 2 from h]
    rfl
  · unfold ya_c
    rw [show zn_at ly_k s 9 = 3 from h]
    rfl
  · have h1 := (yl_at hs).2.2.1 h
    cases hq : zt_cl[zy_c zt_Y s]? with
    | none => rw [hq] at h1; cases h1
    | some q =>
      rw [hq] at h1
      have h2 : q.2.2 = zy_n zt_Y s := Option.some.inj h1
      exact ⟨q.1, q.2.1, by rw [← h2]⟩
  · rcases Nat.lt_or_ge k 43 with h | h
    · exact Or.inr ((yl_at hs).2.2.2.1 i hi k h q hq)
    · rw [zr_none (zn_ge (Nat.le_trans (yl_at hs).2.1 h))] at hq
      cases hq
  · exact Or.inr ((yl_at hs).2.2.2.2.1 h j hj)
  · rcases Nat.lt_or_ge k 43 with h43 | h43
    · exact zr_none ((yl_at hs).2.2.2.2.2 k h43 h hf)
    · exact zr_none (zn_ge (Nat.le_trans (yl_at hs).2.1 h43))
/-! the first state -/
def P0 : sp_P := (fun _ => 0, fun _ => false, 0, 0, false, [], [], [])
theorem yk_0 {w : yb_W} (h : yk_z w = true) {q : Nat × Nat × Nat} (hq : q ∈ yk_L) : yz w q.1 q.2.1 q.2.2 = nI 0 := of_decide_eq_true (List.all_eq_true.mp h q hq)
theorem yk_iv {w : yb_W} (hz : yk_z w = true) (hl : yk_l w = true) : iv P0 [] (yz w) := by
  have a : ∀ {s i k : Nat}, (s, i, k) ∈ yk_L → yz w s i k = nI 0 := fun h => yk_0 hz h
  have r8 : ∀ {s : Nat} {c : Nat}, c < 8 → (s, 0, c) ∈ (List.range 8).map (fun c => (s, 0, c)) := fun h => List.mem_map.mpr ⟨_, List.mem_range.mpr h, rfl⟩
  have m2 : ∀ c, c < 8 → (2, 0, c) ∈ yk_L := fun c h => List.mem_append_left _ (r8 h)
  have m3 : ∀ c, c < 8 → (3, 0, c) ∈ yk_L := fun c h => List.mem_append_right _ (List.mem_append_left _ (r8 h))
  have mA : ∀ {q : Nat × Nat × Nat}, q ∈ [(5, 0, 0), (5, 0, 1), (5, 0, 2), (5, 0, 4), (5, 0, 9), (5, 0, 14), (10, 0, 0), (15, 0, 1), (18, 0, 8), (29, 0, 9)] → q ∈ yk_L := fun h => List.mem_append_right _ (List.mem_append_right _ (List.mem_append_left _ h))
  have m6 : ∀ c, c < 8 → (36, 0, c) ∈ yk_L := fun c h => List.mem_append_right _ (List.mem_append_right _ (List.mem_append_right _ (List.mem_append_left _ (r8 h))))
  have m7 : ∀ c, c < 8 → (37, 0, c) ∈ yk_L := fun c h => List.mem_append_right _ (List.mem_append_right _ (List.mem_append_right _ (List.mem_append_right _ (List.mem_append_left _ (r8 h)))))
  have mB : ∀ {q : Nat × Nat × Nat}, q ∈ [(35, 0, 2), (35, 0, 3), (35, 0, 4), (35, 0, 5), (35, 0, 6), (35, 0, 7), (35, 0, 8)] → q ∈ yk_L := fun h => List.mem_append_right _ (List.mem_append_right _ (List.mem_append_right _ (List.mem_append_right _ (List.mem_append_right _ (List.mem_append_left _ h)))))
  have mF : ∀ r, r < 50 → ∀ {q : Nat × Nat × Nat}, q ∈ (23, 50 + r, 2) :: (23, 50 + r, 3) :: (23, 50 + r, 4) :: (List.range 10).map (fun j => (24, 50 + r, j)) → q ∈ yk_L := fun r hr q h => List.mem_append_right _ (List.mem_append_right _ (List.mem_append_right _ (List.mem_append_right _ (List.mem_append_right _ (List.mem_append_right _ (List.mem_flatMap.mpr ⟨r, List.mem_range.mpr hr, h⟩))))))
  refine ⟨⟨⟨fun c h _ => h, by decide, by decide, by decide, fun t ht => (by cases ht), by decide, fun t ht => (by cases ht), by decide, fun t ht => (by cases ht), fun _ => rfl⟩, by decide, fun t ht => (by cases ht)⟩, ⟨⟨⟨fun c h => a (m2 c h), fun c h => a (m3 c h), fun c d hc hd => ?_⟩, a (mA (by decide)), a (mA (by decide)), a (mA (by decide)), a (mA (by decide)), fun i h => (by cases h), a (mA (by decide)), fun i h => (by cases h), fun p hp => ?_, a (mA (by decide)), fun i h => (by cases h)⟩, ⟨a (mA (by decide)), fun i h => (by cases h)⟩, Or.inl (a (mA (by decide))), Or.inl (a (mA (by decide))), fun r hr => ⟨(List.replicate 10 0, [], false), ⟨by decide, fun i hi => ?_, a (mF r hr (by simp)), fun i h => (by cases h), a (mF r hr (by simp))⟩, a (mF r hr (by simp)), by decide⟩⟩, ⟨⟨⟨fun c h => a (m6 c h), fun c h => a (m7 c h)⟩, a (mB (by decide)), a (mB (by decide)), a (mB (by decide)), a (mB (by decide)), fun i h => (by cases h), a (mB (by decide)), fun i h => (by cases h), a (mB (by decide)), fun i h => (by cases h)⟩, ⟨a (mB (by decide)), fun i h => (by cases h)⟩⟩⟩
  · exact of_decide_eq_true (List.all_eq_true.mp (List.all_eq_true.mp hl d (List.mem_range.mpr hd)) c (List.mem_range.mpr hc))
  · have : p = 0 := Nat.le_zero.mp hp
    subst this
    exact a (mA (by decide))
  · rw [a (mF r hr (List.mem_cons_of_mem _ (List.mem_cons_of_mem _ (List.mem_cons_of_mem _ (List.mem_map.mpr ⟨i, List.mem_range.mpr hi, rfl⟩)))))]
    show nI 0 = nI ((List.replicate 10 0).getD i 0)
    rw [List.getD_eq_getElem?_getD, List.getElem?_replicate, if_pos hi]
    rfl
