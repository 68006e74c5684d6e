/-! contracts of all methods (written by wip/whole/gen3.py) -/
def zf_e1 (Y : zm_Y) (cl : List vw_C) (Ts : List Cond) (own : String) (i c k : Nat) : Prop := ∃ (C : String) (T : u_T) (N : Nat), cl[c]? = some (C, T, N) ∧ k < N ∧ (∀ w ∈ u_ws C T N, w ∈ Ts) ∧
  (Cond.fieldLink own i (T k).1 (T k).2.1 (T k).2.2.1 ∈ Ts ∨ ∃ host, Cond.fieldLinkNest own i (T k).1 (T k).2.1 (T k).2.2.1 host ∈ Ts) ∧
  (∃ ty0 : Nat → FieldType, ∀ k, k < N → parseFieldDescriptor (T k).2.2.1 = some (ty0 k)) ∧ (∀ a, a < N → ∀ b, b < N → a ≠ b → (T a).2.1 ≠ (T b).2.1) ∧
  (zy_f Y c k = 0 → (T k).2.2.2 = false ∧ parseFieldDescriptor (T k).2.2.1 = some .int) ∧ (zy_f Y c k = 1 → (T k).2.2.2 = false ∧ parseFieldDescriptor (T k).2.2.1 = some .boolean)
theorem zf_up {Y : zm_Y} {cl : List vw_C} {Ts : List Cond} {own : String} {L : List (Nat × (Nat × Nat))} (h : ∀ q ∈ L, zf_e1 Y cl Ts own q.1 q.2.1 q.2.2) : zf_ok Y cl Ts own (zl_up L) := fun i c k hu => h (i, (c, k)) (zl_up_mem hu)
theorem zc_up {Ts : List Cond} {own : String} {L : List (Nat × Int32)} (h : ∀ q ∈ L, Cond.constant own q.1 q.2 ∈ Ts) : ∀ i v, zl_up L i = some v → Cond.constant own i v ∈ Ts := fun i v hu => h (i, v) (zl_up_mem hu)
theorem zz_up {Y : zm_Y} {Zs : zk_Zs} {Ts : List Cond} {own : String} {L : List (Nat × (Nat × Nat))} (h : ∀ q ∈ L, zy_ok Y q.2 ∧ ∃ C n d, (C, n, d, q.2) ∈ Zs ∧ (Cond.fieldLink own q.1 C n d ∈ Ts ∨ ∃ host, Cond.fieldLinkNest own q.1 C n d host ∈ Ts)) : ∀ i q, zl_up L i = some q → zy_ok Y q ∧ ∃ C n d, (C, n, d, q) ∈ Zs ∧ (Cond.fieldLink own i C n d ∈ Ts ∨ ∃ host, Cond.fieldLinkNest own i C n d host ∈ Ts) := fun i q hu => h (i, q) (zl_up_mem hu)
theorem zm_fs_e {T : Type} {n maxL : Nat} {F : List zm_V → zm_M → Option T} (hn : n ≤ maxL) : ∀ av M t, zm_fs n F av M = some t → av.length ≤ maxL ∧ F av M = some t := fun av M t h => by
  obtain ⟨h1, h2⟩ := zm_fs_spec h
  exact ⟨by omega, h2⟩
theorem zm_fv_e {T : Type} {Y : zm_Y} {ci n maxL : Nat} {F : List zm_V → zm_M → Option T} (hn : n + 1 ≤ maxL) : ∀ av M t, zm_fv Y ci n F av M = some t → av.length ≤ maxL ∧ F av M = some t := fun av M t h => by
  obtain ⟨r, as, rfl, h1, -, -, h2⟩ := zm_fv_spec h
  exact ⟨by rw [List.length_cons]; omega, h2⟩
theorem zq_nil {α : Type} {P : α → Prop} : ∀ q ∈ ([] : List α), P q := fun _ h => absurd h List.not_mem_nil
theorem cs_fa : ∀ w ∈ u_ws rn_fa tn_fa 3, w ∈ zt_Ts := by
  rw [show u_ws rn_fa tn_fa 3 = ([.laysFinal "MapForge$Family" "MapForge$Family" "above" "[I", .laysFinal "MapForge$Family" "MapForge$Family" "face" "[Z", .laysFinal "MapForge$Family" "MapForge$Family" "line" "[I"] : List Cond) from by decide +kernel]
  exact List.forall_mem_cons.mpr ⟨wd_109, List.forall_mem_cons.mpr ⟨wd_111, List.forall_mem_cons.mpr ⟨wd_113, zq_nil⟩⟩⟩
theorem nm_fa : ∀ a, a < 3 → ∀ b, b < 3 → a ≠ b → (tn_fa a).2.1 ≠ (tn_fa b).2.1 := by decide +kernel
theorem ty_fa_ok : ∀ k, k < 3 → parseFieldDescriptor (tn_fa k).2.2.1 = some (ty_fa k) := by decide +kernel
theorem cs_pr : ∀ w ∈ u_ws rn_pr tn_pr 15, w ∈ zt_Ts := by
  rw [show u_ws rn_pr tn_pr 15 = ([.lays "MapForge$Program" "MapForge$Program" "own" "I", .lays "MapForge$Program" "MapForge$Program" "mode" "I", .lays "MapForge$Program" "MapForge$Program" "gives" "Z", .laysFinal "MapForge$Program" "MapForge$Program" "arguments" "[I", .lays "MapForge$Program" "MapForge$Program" "argumentCount" "I", .laysFinal "MapForge$Program" "MapForge$Program" "ops" "[I", .laysFinal "MapForge$Program" "MapForge$Program" "as" "[I", .laysFinal "MapForge$Program" "MapForge$Program" "bs" "[I", .laysFinal "MapForge$Program" "MapForge$Program" "offsets" "[I", .lays "MapForge$Program" "MapForge$Program" "size" "I", .laysFinal "MapForge$Program" "MapForge$Program" "from" "[I", .laysFinal "MapForge$Program" "MapForge$Program" "to" "[I", .laysFinal "MapForge$Program" "MapForge$Program" "at" "[I", .laysFinal "MapForge$Program" "MapForge$Program" "caught" "[I", .lays "MapForge$Program" "MapForge$Program" "handlers" "I"] : List Cond) from by decide +kernel]
  exact List.forall_mem_cons.mpr ⟨wd_168, List.forall_mem_cons.mpr ⟨wd_170, List.forall_mem_cons.mpr ⟨wd_172, List.forall_mem_cons.mpr ⟨wd_174, List.forall_mem_cons.mpr ⟨wd_176, List.forall_mem_cons.mpr ⟨wd_178, List.forall_mem_cons.mpr ⟨wd_180, List.forall_mem_cons.mpr ⟨wd_182, List.forall_mem_cons.mpr ⟨wd_184, List.forall_mem_cons.mpr ⟨wd_186, List.forall_mem_cons.mpr ⟨wd_188, List.forall_mem_cons.mpr ⟨wd_190, List.forall_mem_cons.mpr ⟨wd_192, List.forall_mem_cons.mpr ⟨wd_194, List.forall_mem_cons.mpr ⟨wd_196, zq_nil⟩⟩⟩⟩⟩⟩⟩⟩⟩⟩⟩⟩⟩⟩⟩
theorem nm_pr : ∀ a, a < 15 → ∀ b, b < 15 → a ≠ b → (tn_pr a).2.1 ≠ (tn_pr b).2.1 := by decide +kernel
theorem ty_pr_ok : ∀ k, k < 15 → parseFieldDescriptor (tn_pr k).2.2.1 = some (ty_pr k) := by decide +kernel
theorem cs_by : ∀ w ∈ u_ws rn_by tn_by 2, w ∈ zt_Ts := by
  rw [show u_ws rn_by tn_by 2 = ([.laysFinal "MapForge$Bytes" "MapForge$Bytes" "cells" "[I", .lays "MapForge$Bytes" "MapForge$Bytes" "size" "I"] : List Cond) from by decide +kernel]
  exact List.forall_mem_cons.mpr ⟨wd_212, List.forall_mem_cons.mpr ⟨wd_214, zq_nil⟩⟩
theorem nm_by : ∀ a, a < 2 → ∀ b, b < 2 → a ≠ b → (tn_by a).2.1 ≠ (tn_by b).2.1 := by decide +kernel
theorem ty_by_ok : ∀ k, k < 2 → parseFieldDescriptor (tn_by k).2.2.1 = some (ty_by k) := by decide +kernel
theorem cs_ma : ∀ w ∈ u_ws rn_ma tn_ma 2, w ∈ zt_Ts := by
  rw [show u_ws rn_ma tn_ma 2 = ([.laysFinal "MapForge$Machine" "MapForge$Machine" "family" "LMapForge$Family;", .laysFinal "MapForge$Machine" "MapForge$Machine" "program" "LMapForge$Program;"] : List Cond) from by decide +kernel]
  exact List.forall_mem_cons.mpr ⟨wd_225, List.forall_mem_cons.mpr ⟨wd_227, zq_nil⟩⟩
theorem nm_ma : ∀ a, a < 2 → ∀ b, b < 2 → a ≠ b → (tn_ma a).2.1 ≠ (tn_ma b).2.1 := by decide +kernel
theorem ty_ma_ok : ∀ k, k < 2 → parseFieldDescriptor (tn_ma k).2.2.1 = some (ty_ma k) := by decide +kernel
theorem cs_fr : ∀ w ∈ u_ws rn_fr tn_fr 5, w ∈ zt_Ts := by
  rw [show u_ws rn_fr tn_fr 5 = ([.laysFinal "MapForge$Frame" "MapForge$Frame" "locals" "[I", .laysFinal "MapForge$Frame" "MapForge$Frame" "stack" "[I", .lays "MapForge$Frame" "MapForge$Frame" "depth" "I", .lays "MapForge$Frame" "MapForge$Frame" "slots" "I", .lays "MapForge$Frame" "MapForge$Frame" "raw" "Z"] : List Cond) from by decide +kernel]
  exact List.forall_mem_cons.mpr ⟨wd_264, List.forall_mem_cons.mpr ⟨wd_266, List.forall_mem_cons.mpr ⟨wd_268, List.forall_mem_cons.mpr ⟨wd_270, List.forall_mem_cons.mpr ⟨wd_272, zq_nil⟩⟩⟩⟩⟩
theorem nm_fr : ∀ a, a < 5 → ∀ b, b < 5 → a ≠ b → (tn_fr a).2.1 ≠ (tn_fr b).2.1 := by decide +kernel
theorem ty_fr_ok : ∀ k, k < 5 → parseFieldDescriptor (tn_fr k).2.2.1 = some (ty_fr k) := by decide +kernel
theorem cs_fl : ∀ w ∈ u_ws rn_fl tn_fl 10, w ∈ zt_Ts := by
  rw [show u_ws rn_fl tn_fl 10 = ([.laysFinal "MapForge$Flow" "MapForge$Flow" "family" "LMapForge$Family;", .laysFinal "MapForge$Flow" "MapForge$Flow" "program" "LMapForge$Program;", .laysFinal "MapForge$Flow" "MapForge$Flow" "machine" "LMapForge$Machine;", .laysFinal "MapForge$Flow" "MapForge$Flow" "frames" "[LMapForge$Frame;", .laysFinal "MapForge$Flow" "MapForge$Flow" "rowHere" "[Z", .laysFinal "MapForge$Flow" "MapForge$Flow" "reached" "[Z", .laysFinal "MapForge$Flow" "MapForge$Flow" "waiting" "[Z", .laysFinal "MapForge$Flow" "MapForge$Flow" "work" "LMapForge$Frame;", .lays "MapForge$Flow" "MapForge$Flow" "known" "Z", .lays "MapForge$Flow" "MapForge$Flow" "right" "Z"] : List Cond) from by decide +kernel]
  exact List.forall_mem_cons.mpr ⟨wd_289, List.forall_mem_cons.mpr ⟨wd_291, List.forall_mem_cons.mpr ⟨wd_293, List.forall_mem_cons.mpr ⟨wd_295, List.forall_mem_cons.mpr ⟨wd_297, List.forall_mem_cons.mpr ⟨wd_299, List.forall_mem_cons.mpr ⟨wd_301, List.forall_mem_cons.mpr ⟨wd_303, List.forall_mem_cons.mpr ⟨wd_305, List.forall_mem_cons.mpr ⟨wd_307, zq_nil⟩⟩⟩⟩⟩⟩⟩⟩⟩⟩
theorem nm_fl : ∀ a, a < 10 → ∀ b, b < 10 → a ≠ b → (tn_fl a).2.1 ≠ (tn_fl b).2.1 := by decide +kernel
theorem ty_fl_ok : ∀ k, k < 10 → parseFieldDescriptor (tn_fl k).2.2.1 = some (ty_fl k) := by decide +kernel
theorem cs_tl : ∀ w ∈ u_ws rn_tl tn_tl 3, w ∈ zt_Ts := by
  rw [show u_ws rn_tl tn_tl 3 = ([.laysFinal "MapForge$TypeList" "MapForge$TypeList" "types" "[I", .lays "MapForge$TypeList" "MapForge$TypeList" "size" "I", .lays "MapForge$TypeList" "MapForge$TypeList" "width" "I"] : List Cond) from by decide +kernel]
  exact List.forall_mem_cons.mpr ⟨wd_330, List.forall_mem_cons.mpr ⟨wd_332, List.forall_mem_cons.mpr ⟨wd_334, zq_nil⟩⟩⟩
theorem nm_tl : ∀ a, a < 3 → ∀ b, b < 3 → a ≠ b → (tn_tl a).2.1 ≠ (tn_tl b).2.1 := by decide +kernel
theorem ty_tl_ok : ∀ k, k < 3 → parseFieldDescriptor (tn_tl k).2.2.1 = some (ty_tl k) := by decide +kernel
theorem cs_wr : ∀ w ∈ u_ws rn_wr tn_wr 6, w ∈ zt_Ts := by
  rw [show u_ws rn_wr tn_wr 6 = ([.laysFinal "MapForge$Writer" "MapForge$Writer" "program" "LMapForge$Program;", .laysFinal "MapForge$Writer" "MapForge$Writer" "flow" "LMapForge$Flow;", .laysFinal "MapForge$Writer" "MapForge$Writer" "first" "LMapForge$Frame;", .laysFinal "MapForge$Writer" "MapForge$Writer" "before" "LMapForge$TypeList;", .laysFinal "MapForge$Writer" "MapForge$Writer" "list" "LMapForge$TypeList;", .laysFinal "MapForge$Writer" "MapForge$Writer" "written" "LMapForge$Bytes;"] : List Cond) from by decide +kernel]
  exact List.forall_mem_cons.mpr ⟨wd_346, List.forall_mem_cons.mpr ⟨wd_348, List.forall_mem_cons.mpr ⟨wd_350, List.forall_mem_cons.mpr ⟨wd_352, List.forall_mem_cons.mpr ⟨wd_354, List.forall_mem_cons.mpr ⟨wd_356, zq_nil⟩⟩⟩⟩⟩⟩
theorem nm_wr : ∀ a, a < 6 → ∀ b, b < 6 → a ≠ b → (tn_wr a).2.1 ≠ (tn_wr b).2.1 := by decide +kernel
theorem ty_wr_ok : ∀ k, k < 6 → parseFieldDescriptor (tn_wr k).2.2.1 = some (ty_wr k) := by decide +kernel
theorem cs_re : ∀ w ∈ u_ws rn_re tn_re 12, w ∈ zt_Ts := by
  rw [show u_ws rn_re tn_re 12 = ([.laysFinal "MapForge$Reader" "MapForge$Reader" "program" "LMapForge$Program;", .laysFinal "MapForge$Reader" "MapForge$Reader" "bytes" "LMapForge$Bytes;", .laysFinal "MapForge$Reader" "MapForge$Reader" "first" "LMapForge$Frame;", .laysFinal "MapForge$Reader" "MapForge$Reader" "list" "LMapForge$TypeList;", .laysFinal "MapForge$Reader" "MapForge$Reader" "frames" "[LMapForge$Frame;", .laysFinal "MapForge$Reader" "MapForge$Reader" "offsets" "[I", .laysFinal "MapForge$Reader" "MapForge$Reader" "firstBytes" "[I", .laysFinal "MapForge$Reader" "MapForge$Reader" "rowAt" "[I", .lays "MapForge$Reader" "MapForge$Reader" "rows" "I", .lays "MapForge$Reader" "MapForge$Reader" "known" "Z", .lays "MapForge$Reader" "MapForge$Reader" "sound" "Z", .lays "MapForge$Reader" "MapForge$Reader" "next" "I"] : List Cond) from by decide +kernel]
  exact List.forall_mem_cons.mpr ⟨wd_388, List.forall_mem_cons.mpr ⟨wd_390, List.forall_mem_cons.mpr ⟨wd_392, List.forall_mem_cons.mpr ⟨wd_394, List.forall_mem_cons.mpr ⟨wd_396, List.forall_mem_cons.mpr ⟨wd_398, List.forall_mem_cons.mpr ⟨wd_400, List.forall_mem_cons.mpr ⟨wd_402, List.forall_mem_cons.mpr ⟨wd_404, List.forall_mem_cons.mpr ⟨wd_406, List.forall_mem_cons.mpr ⟨wd_408, List.forall_mem_cons.mpr ⟨wd_410, zq_nil⟩⟩⟩⟩⟩⟩⟩⟩⟩⟩⟩⟩
theorem nm_re : ∀ a, a < 12 → ∀ b, b < 12 → a ≠ b → (tn_re a).2.1 ≠ (tn_re b).2.1 := by decide +kernel
theorem ty_re_ok : ∀ k, k < 12 → parseFieldDescriptor (tn_re k).2.2.1 = some (ty_re k) := by decide +kernel
theorem cs_ck : ∀ w ∈ u_ws rn_ck tn_ck 6, w ∈ zt_Ts := by
  rw [show u_ws rn_ck tn_ck 6 = ([.laysFinal "MapForge$Checker" "MapForge$Checker" "family" "LMapForge$Family;", .laysFinal "MapForge$Checker" "MapForge$Checker" "program" "LMapForge$Program;", .laysFinal "MapForge$Checker" "MapForge$Checker" "machine" "LMapForge$Machine;", .laysFinal "MapForge$Checker" "MapForge$Checker" "reader" "LMapForge$Reader;", .laysFinal "MapForge$Checker" "MapForge$Checker" "now" "LMapForge$Frame;", .laysFinal "MapForge$Checker" "MapForge$Checker" "thrown" "LMapForge$Frame;"] : List Cond) from by decide +kernel]
  exact List.forall_mem_cons.mpr ⟨wd_427, List.forall_mem_cons.mpr ⟨wd_429, List.forall_mem_cons.mpr ⟨wd_431, List.forall_mem_cons.mpr ⟨wd_433, List.forall_mem_cons.mpr ⟨wd_435, List.forall_mem_cons.mpr ⟨wd_437, zq_nil⟩⟩⟩⟩⟩⟩
theorem nm_ck : ∀ a, a < 6 → ∀ b, b < 6 → a ≠ b → (tn_ck a).2.1 ≠ (tn_ck b).2.1 := by decide +kernel
theorem ty_ck_ok : ∀ k, k < 6 → parseFieldDescriptor (tn_ck k).2.2.1 = some (ty_ck k) := by decide +kernel
theorem cs_mf : ∀ w ∈ u_ws rn_mf tn_mf 7, w ∈ zt_Ts := by
  rw [show u_ws rn_mf tn_mf 7 = ([.laysFinal "MapForge" "MapForge" "family" "LMapForge$Family;", .laysFinal "MapForge" "MapForge" "program" "LMapForge$Program;", .laysFinal "MapForge" "MapForge" "bytes" "LMapForge$Bytes;", .laysFinal "MapForge" "MapForge" "flow" "LMapForge$Flow;", .laysFinal "MapForge" "MapForge" "writer" "LMapForge$Writer;", .laysFinal "MapForge" "MapForge" "reader" "LMapForge$Reader;", .laysFinal "MapForge" "MapForge" "checker" "LMapForge$Checker;"] : List Cond) from by decide +kernel]
  exact List.forall_mem_cons.mpr ⟨wd_447, List.forall_mem_cons.mpr ⟨wd_449, List.forall_mem_cons.mpr ⟨wd_451, List.forall_mem_cons.mpr ⟨wd_453, List.forall_mem_cons.mpr ⟨wd_455, List.forall_mem_cons.mpr ⟨wd_457, List.forall_mem_cons.mpr ⟨wd_459, zq_nil⟩⟩⟩⟩⟩⟩⟩
theorem nm_mf : ∀ a, a < 7 → ∀ b, b < 7 → a ≠ b → (tn_mf a).2.1 ≠ (tn_mf b).2.1 := by decide +kernel
theorem ty_mf_ok : ∀ k, k < 7 → parseFieldDescriptor (tn_mf k).2.2.1 = some (ty_mf k) := by decide +kernel
theorem cs_mo : ∀ w ∈ u_ws rn_mo tn_mo 43, w ∈ zt_Ts := by
  rw [show u_ws rn_mo tn_mo 43 = ([.laysFinal "MapForgeModel" "MapForgeModel" "sup" "[I", .laysFinal "MapForgeModel" "MapForgeModel" "face" "[Z", .lays "MapForgeModel" "MapForgeModel" "own" "I", .lays "MapForgeModel" "MapForgeModel" "mode" "I", .lays "MapForgeModel" "MapForgeModel" "arguments" "I", .lays "MapForgeModel" "MapForgeModel" "many" "I", .lays "MapForgeModel" "MapForgeModel" "handlers" "I", .lays "MapForgeModel" "MapForgeModel" "bytes" "I", .lays "MapForgeModel" "MapForgeModel" "gives" "Z", .laysFinal "MapForgeModel" "MapForgeModel" "argument" "[I", .laysFinal "MapForgeModel" "MapForgeModel" "op" "[I", .laysFinal "MapForgeModel" "MapForgeModel" "one" "[I", .laysFinal "MapForgeModel" "MapForgeModel" "two" "[I", .laysFinal "MapForgeModel" "MapForgeModel" "hFrom" "[I", .laysFinal "MapForgeModel" "MapForgeModel" "hTo" "[I", .laysFinal "MapForgeModel" "MapForgeModel" "hAt" "[I", .laysFinal "MapForgeModel" "MapForgeModel" "hClass" "[I", .laysFinal "MapForgeModel" "MapForgeModel" "map" "[I", .laysFinal "MapForgeModel" "MapForgeModel" "local" "[I", .laysFinal "MapForgeModel" "MapForgeModel" "stack" "[I", .lays "MapForgeModel" "MapForgeModel" "depth" "I", .lays "MapForgeModel" "MapForgeModel" "raw" "Z", .laysFinal "MapForgeModel" "MapForgeModel" "come" "[Z", .laysFinal "MapForgeModel" "MapForgeModel" "isRaw" "[Z", .laysFinal "MapForgeModel" "MapForgeModel" "deep" "[I", .laysFinal "MapForgeModel" "MapForgeModel" "fLocal" "[I", .laysFinal "MapForgeModel" "MapForgeModel" "fStack" "[I", .lays "MapForgeModel" "MapForgeModel" "right" "Z", .lays "MapForgeModel" "MapForgeModel" "changed" "Z", .laysFinal "MapForgeModel" "MapForgeModel" "rowOffset" "[I", .laysFinal "MapForgeModel" "MapForgeModel" "rowByte" "[I", .laysFinal "MapForgeModel" "MapForgeModel" "rowDeep" "[I", .laysFinal "MapForgeModel" "MapForgeModel" "rowLocal" "[I", .laysFinal "MapForgeModel" "MapForgeModel" "rowStack" "[I", .lays "MapForgeModel" "MapForgeModel" "rows" "I", .laysFinal "MapForgeModel" "MapForgeModel" "list" "[I", .laysFinal "MapForgeModel" "MapForgeModel" "before" "[I", .lays "MapForgeModel" "MapForgeModel" "listed" "I", .lays "MapForgeModel" "MapForgeModel" "listedBefore" "I", .laysFinal "MapForgeModel" "MapForgeModel" "made" "[I", .lays "MapForgeModel" "MapForgeModel" "length" "I", .lays "MapForgeModel" "MapForgeModel" "place" "I", .lays "MapForgeModel" "MapForgeModel" "broken" "Z"] : List Cond) from by decide +kernel]
  exact List.forall_mem_cons.mpr ⟨wd_977, List.forall_mem_cons.mpr ⟨wd_979, List.forall_mem_cons.mpr ⟨wd_981, List.forall_mem_cons.mpr ⟨wd_983, List.forall_mem_cons.mpr ⟨wd_985, List.forall_mem_cons.mpr ⟨wd_987, List.forall_mem_cons.mpr ⟨wd_989, List.forall_mem_cons.mpr ⟨wd_991, List.forall_mem_cons.mpr ⟨wd_993, List.forall_mem_cons.mpr ⟨wd_995, List.forall_mem_cons.mpr ⟨wd_997, List.forall_mem_cons.mpr ⟨wd_999, List.forall_mem_cons.mpr ⟨wd_1001, List.forall_mem_cons.mpr ⟨wd_1003, List.forall_mem_cons.mpr ⟨wd_1005, List.forall_mem_cons.mpr ⟨wd_1007, List.forall_mem_cons.mpr ⟨wd_1009, List.forall_mem_cons.mpr ⟨wd_1011, List.forall_mem_cons.mpr ⟨wd_1013, List.forall_mem_cons.mpr ⟨wd_1015, List.forall_mem_cons.mpr ⟨wd_1017, List.forall_mem_cons.mpr ⟨wd_1019, List.forall_mem_cons.mpr ⟨wd_1021, List.forall_mem_cons.mpr ⟨wd_1023, List.forall_mem_cons.mpr ⟨wd_1025, List.forall_mem_cons.mpr ⟨wd_1027, List.forall_mem_cons.mpr ⟨wd_1029, List.forall_mem_cons.mpr ⟨wd_1031, List.forall_mem_cons.mpr ⟨wd_1033, List.forall_mem_cons.mpr ⟨wd_1035, List.forall_mem_cons.mpr ⟨wd_1037, List.forall_mem_cons.mpr ⟨wd_1039, List.forall_mem_cons.mpr ⟨wd_1041, List.forall_mem_cons.mpr ⟨wd_1043, List.forall_mem_cons.mpr ⟨wd_1045, List.forall_mem_cons.mpr ⟨wd_1047, List.forall_mem_cons.mpr ⟨wd_1049, List.forall_mem_cons.mpr ⟨wd_1051, List.forall_mem_cons.mpr ⟨wd_1053, List.forall_mem_cons.mpr ⟨wd_1055, List.forall_mem_cons.mpr ⟨wd_1057, List.forall_mem_cons.mpr ⟨wd_1059, List.forall_mem_cons.mpr ⟨wd_1061, zq_nil⟩⟩⟩⟩⟩⟩⟩⟩⟩⟩⟩⟩⟩⟩⟩⟩⟩⟩⟩⟩⟩⟩⟩⟩⟩⟩⟩⟩⟩⟩⟩⟩⟩⟩⟩⟩⟩⟩⟩⟩⟩⟩⟩
theorem nm_mo : ∀ a, a < 43 → ∀ b, b < 43 → a ≠ b → (tn_mo a).2.1 ≠ (tn_mo b).2.1 := by decide +kernel
theorem ty_mo_ok : ∀ k, k < 43 → parseFieldDescriptor (tn_mo k).2.2.1 = some (ty_mo k) := by decide +kernel
theorem lk_fa_9 : zf_e1 zt_Y zt_cl zt_Ts "MapForge$Family" 9 0 0 := ⟨rn_fa, tn_fa, 3, rfl, by decide, cs_fa, Or.inl wd_106, ⟨ty_fa, ty_fa_ok⟩, nm_fa, fun h => absurd h (by decide), fun h => absurd h (by decide)⟩
theorem lk_fa_15 : zf_e1 zt_Y zt_cl zt_Ts "MapForge$Family" 15 0 1 := ⟨rn_fa, tn_fa, 3, rfl, by decide, cs_fa, Or.inl wd_107, ⟨ty_fa, ty_fa_ok⟩, nm_fa, fun h => absurd h (by decide), fun h => absurd h (by decide)⟩
theorem lk_fa_19 : zf_e1 zt_Y zt_cl zt_Ts "MapForge$Family" 19 0 2 := ⟨rn_fa, tn_fa, 3, rfl, by decide, cs_fa, Or.inl wd_108, ⟨ty_fa, ty_fa_ok⟩, nm_fa, fun h => absurd h (by decide), fun h => absurd h (by decide)⟩
theorem kt_fa_describe (l : Launch) : zk_me zt_Ts zt_Y zt_cl zt_Zs l (0, 0) yn_fa_describe prog_4_method_2_code 5 none zo_v fn_fa_describe := by
  refine zk_run (X := lx_fa_describe) (code := cd_fa_describe) 1073741824 zt_ok (by decide) en_fa_describe (zf_up (L := lf_fa_describe) ?_) (zc_up (L := lc_fa_describe) ?_) (zz_up (L := lg_fa_describe) ?_) (zi_al_up (L := li_fa_describe) ?_) zr_v_ok (zm_fv_e (by decide))
  · exact List.forall_mem_cons.mpr ⟨lk_fa_9, List.forall_mem_cons.mpr ⟨lk_fa_15, List.forall_mem_cons.mpr ⟨lk_fa_19, zq_nil⟩⟩⟩
  · exact zq_nil
  · exact zq_nil
  · exact zq_nil
theorem lk_mf_40 : zf_e1 zt_Y zt_cl zt_Ts "MapForge" 40 10 3 := ⟨rn_mf, tn_mf, 7, rfl, by decide, cs_mf, Or.inl wd_443, ⟨ty_mf, ty_mf_ok⟩, nm_mf, fun h => absurd h (by decide), fun h => absurd h (by decide)⟩
theorem lk_mf_188 : zf_e1 zt_Y zt_cl zt_Ts "MapForge" 188 5 8 := ⟨rn_fl, tn_fl, 10, rfl, by decide, cs_fl, Or.inl wd_287, ⟨ty_fl, ty_fl_ok⟩, nm_fl, fun h => absurd h (by decide), fun _ => ⟨rfl, rfl⟩⟩
theorem lk_mf_58 : zf_e1 zt_Y zt_cl zt_Ts "MapForge" 58 10 5 := ⟨rn_mf, tn_mf, 7, rfl, by decide, cs_mf, Or.inl wd_445, ⟨ty_mf, ty_mf_ok⟩, nm_mf, fun h => absurd h (by decide), fun h => absurd h (by decide)⟩
theorem lk_mf_136 : zf_e1 zt_Y zt_cl zt_Ts "MapForge" 136 8 9 := ⟨rn_re, tn_re, 12, rfl, by decide, cs_re, Or.inl wd_385, ⟨ty_re, ty_re_ok⟩, nm_re, fun h => absurd h (by decide), fun _ => ⟨rfl, rfl⟩⟩
theorem kt_mf_forgetFindings (l : Launch) : zk_me zt_Ts zt_Y zt_cl zt_Zs l (0, 0) yn_mf_forgetFindings prog_1_method_17_code 1 none zo_v fn_mf_forgetFindings := by
  refine zk_run (X := lx_mf_forgetFindings) (code := cd_mf_forgetFindings) 1 zt_ok (by decide) en_mf_forgetFindings (zf_up (L := lf_mf_forgetFindings) ?_) (zc_up (L := lc_mf_forgetFindings) ?_) (zz_up (L := lg_mf_forgetFindings) ?_) (zi_al_up (L := li_mf_forgetFindings) ?_) zr_v_ok (zm_fv_e (by decide))
  · exact List.forall_mem_cons.mpr ⟨lk_mf_40, List.forall_mem_cons.mpr ⟨lk_mf_188, List.forall_mem_cons.mpr ⟨lk_mf_58, List.forall_mem_cons.mpr ⟨lk_mf_136, zq_nil⟩⟩⟩⟩
  · exact zq_nil
  · exact zq_nil
  · exact zq_nil
theorem lk_mf_12 : zf_e1 zt_Y zt_cl zt_Ts "MapForge" 12 10 0 := ⟨rn_mf, tn_mf, 7, rfl, by decide, cs_mf, Or.inl wd_440, ⟨ty_mf, ty_mf_ok⟩, nm_mf, fun h => absurd h (by decide), fun h => absurd h (by decide)⟩
theorem kt_mf_type (l : Launch) : zk_me zt_Ts zt_Y zt_cl zt_Zs l (1, 24) yn_mf_type prog_1_method_2_code 4 (some .boolean) zo_i fn_mf_type := by
  refine zk_run (X := lx_mf_type) (code := cd_mf_type) 1 zt_ok (by decide) en_mf_type (zf_up (L := lf_mf_type) ?_) (zc_up (L := lc_mf_type) ?_) (zz_up (L := lg_mf_type) ?_) (zi_al_up (L := li_mf_type) ?_) zr_z_ok (zm_fv_e (by decide))
  · exact List.forall_mem_cons.mpr ⟨lk_mf_12, zq_nil⟩
  · exact zq_nil
  · exact zq_nil
  · exact List.forall_mem_cons.mpr ⟨zj_al_v (zj_V (i := 71) zt_ok (kt_fa_describe l) wd_466 wd_467 wd_468 wd_78 wd_469 rfl (by unfold zn_ok; decide +kernel) (by decide)), List.forall_mem_cons.mpr ⟨zj_al_v (zj_V (i := 75) zt_ok (kt_mf_forgetFindings l) wd_470 wd_472 wd_0 wd_77 wd_473 rfl (by unfold zn_ok; decide +kernel) (by decide)), zq_nil⟩⟩
theorem kt_mf_isClass (l : Launch) : zk_me zt_Ts zt_Y zt_cl zt_Zs l (0, 0) yn_mf_isClass prog_1_method_18_code 1 (some .boolean) zo_i fn_mf_isClass := by
  refine zk_run (X := lx_mf_isClass) (code := cd_mf_isClass) 1 zt_ok (by decide) en_mf_isClass (zf_up (L := lf_mf_isClass) ?_) (zc_up (L := lc_mf_isClass) ?_) (zz_up (L := lg_mf_isClass) ?_) (zi_al_up (L := li_mf_isClass) ?_) zr_z_ok (zm_fs_e (by decide))
  · exact zq_nil
  · exact zq_nil
  · exact zq_nil
  · exact zq_nil
theorem lk_pr_39 : zf_e1 zt_Y zt_cl zt_Ts "MapForge$Program" 39 1 0 := ⟨rn_pr, tn_pr, 15, rfl, by decide, cs_pr, Or.inl wd_124, ⟨ty_pr, ty_pr_ok⟩, nm_pr, fun _ => ⟨rfl, rfl⟩, fun h => absurd h (by decide)⟩
theorem lk_pr_43 : zf_e1 zt_Y zt_cl zt_Ts "MapForge$Program" 43 1 1 := ⟨rn_pr, tn_pr, 15, rfl, by decide, cs_pr, Or.inl wd_126, ⟨ty_pr, ty_pr_ok⟩, nm_pr, fun _ => ⟨rfl, rfl⟩, fun h => absurd h (by decide)⟩
theorem lk_pr_46 : zf_e1 zt_Y zt_cl zt_Ts "MapForge$Program" 46 1 2 := ⟨rn_pr, tn_pr, 15, rfl, by decide, cs_pr, Or.inl wd_128, ⟨ty_pr, ty_pr_ok⟩, nm_pr, fun h => absurd h (by decide), fun _ => ⟨rfl, rfl⟩⟩
theorem lk_pr_50 : zf_e1 zt_Y zt_cl zt_Ts "MapForge$Program" 50 1 4 := ⟨rn_pr, tn_pr, 15, rfl, by decide, cs_pr, Or.inl wd_132, ⟨ty_pr, ty_pr_ok⟩, nm_pr, fun _ => ⟨rfl, rfl⟩, fun h => absurd h (by decide)⟩
theorem lk_pr_53 : zf_e1 zt_Y zt_cl zt_Ts "MapForge$Program" 53 1 9 := ⟨rn_pr, tn_pr, 15, rfl, by decide, cs_pr, Or.inl wd_152, ⟨ty_pr, ty_pr_ok⟩, nm_pr, fun _ => ⟨rfl, rfl⟩, fun h => absurd h (by decide)⟩
theorem lk_pr_56 : zf_e1 zt_Y zt_cl zt_Ts "MapForge$Program" 56 1 14 := ⟨rn_pr, tn_pr, 15, rfl, by decide, cs_pr, Or.inl wd_164, ⟨ty_pr, ty_pr_ok⟩, nm_pr, fun _ => ⟨rfl, rfl⟩, fun h => absurd h (by decide)⟩
theorem kt_pr_begin (l : Launch) : zk_me zt_Ts zt_Y zt_cl zt_Zs l (0, 0) yn_pr_begin prog_8_method_2_code 4 none zo_v fn_pr_begin := by
  refine zk_run (X := lx_pr_begin) (code := cd_pr_begin) 1 zt_ok (by decide) en_pr_begin (zf_up (L := lf_pr_begin) ?_) (zc_up (L := lc_pr_begin) ?_) (zz_up (L := lg_pr_begin) ?_) (zi_al_up (L := li_pr_begin) ?_) zr_v_ok (zm_fv_e (by decide))
  · exact List.forall_mem_cons.mpr ⟨lk_pr_39, List.forall_mem_cons.mpr ⟨lk_pr_43, List.forall_mem_cons.mpr ⟨lk_pr_46, List.forall_mem_cons.mpr ⟨lk_pr_50, List.forall_mem_cons.mpr ⟨lk_pr_53, List.forall_mem_cons.mpr ⟨lk_pr_56, zq_nil⟩⟩⟩⟩⟩⟩
  · exact zq_nil
  · exact zq_nil
  · exact zq_nil
theorem lk_mf_19 : zf_e1 zt_Y zt_cl zt_Ts "MapForge" 19 10 1 := ⟨rn_mf, tn_mf, 7, rfl, by decide, cs_mf, Or.inl wd_441, ⟨ty_mf, ty_mf_ok⟩, nm_mf, fun h => absurd h (by decide), fun h => absurd h (by decide)⟩
theorem kt_mf_method (l : Launch) : zk_me zt_Ts zt_Y zt_cl zt_Zs l (1, 23) yn_mf_method prog_1_method_3_code 4 (some .boolean) zo_i fn_mf_method := by
  refine zk_run (X := lx_mf_method) (code := cd_mf_method) 1 zt_ok (by decide) en_mf_method (zf_up (L := lf_mf_method) ?_) (zc_up (L := lc_mf_method) ?_) (zz_up (L := lg_mf_method) ?_) (zi_al_up (L := li_mf_method) ?_) zr_z_ok (zm_fv_e (by decide))
  · exact List.forall_mem_cons.mpr ⟨lk_mf_19, zq_nil⟩
  · exact zq_nil
  · exact zq_nil
  · exact List.forall_mem_cons.mpr ⟨zj_al_i (zj_S (i := 78) zt_ok (kt_mf_isClass l) wd_478 wd_479 wd_77 wd_480 (by unfold zn_ok; decide +kernel) (by decide)), List.forall_mem_cons.mpr ⟨zj_al_v (zj_V (i := 82) zt_ok (kt_pr_begin l) wd_481 wd_482 wd_483 wd_79 wd_484 rfl (by unfold zn_ok; decide +kernel) (by decide)), List.forall_mem_cons.mpr ⟨zj_al_v (zj_V (i := 75) zt_ok (kt_mf_forgetFindings l) wd_470 wd_472 wd_0 wd_77 wd_473 rfl (by unfold zn_ok; decide +kernel) (by decide)), zq_nil⟩⟩⟩
theorem kt_mf_kindOf (l : Launch) : zk_me zt_Ts zt_Y zt_cl zt_Zs l (0, 0) yn_mf_kindOf prog_1_method_27_code 1 (some .int) zo_i fn_mf_kindOf := by
  refine zk_run (X := lx_mf_kindOf) (code := cd_mf_kindOf) 1 zt_ok (by decide) en_mf_kindOf (zf_up (L := lf_mf_kindOf) ?_) (zc_up (L := lc_mf_kindOf) ?_) (zz_up (L := lg_mf_kindOf) ?_) (zi_al_up (L := li_mf_kindOf) ?_) zr_i_ok (zm_fs_e (by decide))
  · exact zq_nil
  · exact zq_nil
  · exact zq_nil
  · exact zq_nil
theorem kt_mf_partOf (l : Launch) : zk_me zt_Ts zt_Y zt_cl zt_Zs l (0, 0) yn_mf_partOf prog_1_method_28_code 1 (some .int) zo_i fn_mf_partOf := by
  refine zk_run (X := lx_mf_partOf) (code := cd_mf_partOf) 1 zt_ok (by decide) en_mf_partOf (zf_up (L := lf_mf_partOf) ?_) (zc_up (L := lc_mf_partOf) ?_) (zz_up (L := lg_mf_partOf) ?_) (zi_al_up (L := li_mf_partOf) ?_) zr_i_ok (zm_fs_e (by decide))
  · exact zq_nil
  · exact zq_nil
  · exact zq_nil
  · exact zq_nil
theorem lk_mf_92 : zf_e1 zt_Y zt_cl zt_Ts "MapForge" 92 1 4 := ⟨rn_pr, tn_pr, 15, rfl, by decide, cs_pr, Or.inl wd_133, ⟨ty_pr, ty_pr_ok⟩, nm_pr, fun _ => ⟨rfl, rfl⟩, fun h => absurd h (by decide)⟩
theorem lk_mf_96 : zf_e1 zt_Y zt_cl zt_Ts "MapForge" 96 1 3 := ⟨rn_pr, tn_pr, 15, rfl, by decide, cs_pr, Or.inl wd_131, ⟨ty_pr, ty_pr_ok⟩, nm_pr, fun h => absurd h (by decide), fun h => absurd h (by decide)⟩
theorem kt_mf_argument (l : Launch) : zk_me zt_Ts zt_Y zt_cl zt_Zs l (1, 20) yn_mf_argument prog_1_method_4_code 4 (some .int) zo_i fn_mf_argument := by
  refine zk_run (X := lx_mf_argument) (code := cd_mf_argument) 1 zt_ok (by decide) en_mf_argument (zf_up (L := lf_mf_argument) ?_) (zc_up (L := lc_mf_argument) ?_) (zz_up (L := lg_mf_argument) ?_) (zi_al_up (L := li_mf_argument) ?_) zr_i_ok (zm_fv_e (by decide))
  · exact List.forall_mem_cons.mpr ⟨lk_mf_19, List.forall_mem_cons.mpr ⟨lk_mf_92, List.forall_mem_cons.mpr ⟨lk_mf_96, zq_nil⟩⟩⟩
  · exact zq_nil
  · exact zq_nil
  · exact List.forall_mem_cons.mpr ⟨zj_al_i (zj_S (i := 85) zt_ok (kt_mf_kindOf l) wd_489 wd_490 wd_77 wd_491 (by unfold zn_ok; decide +kernel) (by decide)), List.forall_mem_cons.mpr ⟨zj_al_i (zj_S (i := 89) zt_ok (kt_mf_partOf l) wd_492 wd_493 wd_77 wd_494 (by unfold zn_ok; decide +kernel) (by decide)), List.forall_mem_cons.mpr ⟨zj_al_i (zj_S (i := 78) zt_ok (kt_mf_isClass l) wd_478 wd_479 wd_77 wd_480 (by unfold zn_ok; decide +kernel) (by decide)), List.forall_mem_cons.mpr ⟨zj_al_v (zj_V (i := 75) zt_ok (kt_mf_forgetFindings l) wd_470 wd_472 wd_0 wd_77 wd_473 rfl (by unfold zn_ok; decide +kernel) (by decide)), zq_nil⟩⟩⟩⟩
theorem kt_mf_hasLocal (l : Launch) : zk_me zt_Ts zt_Y zt_cl zt_Zs l (0, 0) yn_mf_hasLocal prog_1_method_22_code 1 (some .boolean) zo_i fn_mf_hasLocal := by
  refine zk_run (X := lx_mf_hasLocal) (code := cd_mf_hasLocal) 1 zt_ok (by decide) en_mf_hasLocal (zf_up (L := lf_mf_hasLocal) ?_) (zc_up (L := lc_mf_hasLocal) ?_) (zz_up (L := lg_mf_hasLocal) ?_) (zi_al_up (L := li_mf_hasLocal) ?_) zr_z_ok (zm_fs_e (by decide))
  · exact zq_nil
  · exact zq_nil
  · exact zq_nil
  · exact zq_nil
theorem kt_mf_localKindOf (l : Launch) : zk_me zt_Ts zt_Y zt_cl zt_Zs l (0, 0) yn_mf_localKindOf prog_1_method_25_code 1 (some .int) zo_i fn_mf_localKindOf := by
  refine zk_run (X := lx_mf_localKindOf) (code := cd_mf_localKindOf) 1 zt_ok (by decide) en_mf_localKindOf (zf_up (L := lf_mf_localKindOf) ?_) (zc_up (L := lc_mf_localKindOf) ?_) (zz_up (L := lg_mf_localKindOf) ?_) (zi_al_up (L := li_mf_localKindOf) ?_) zr_i_ok (zm_fs_e (by decide))
  · exact zq_nil
  · exact zq_nil
  · exact List.forall_mem_cons.mpr ⟨⟨Or.inl rfl, _, _, _, List.mem_cons_self, Or.inl wd_508⟩, zq_nil⟩
  · exact zq_nil
theorem kt_mf_widthOf (l : Launch) : zk_me zt_Ts zt_Y zt_cl zt_Zs l (0, 0) yn_mf_widthOf prog_1_method_30_code 1 (some .int) zo_i fn_mf_widthOf := by
  refine zk_run (X := lx_mf_widthOf) (code := cd_mf_widthOf) 1 zt_ok (by decide) en_mf_widthOf (zf_up (L := lf_mf_widthOf) ?_) (zc_up (L := lc_mf_widthOf) ?_) (zz_up (L := lg_mf_widthOf) ?_) (zi_al_up (L := li_mf_widthOf) ?_) zr_i_ok (zm_fs_e (by decide))
  · exact zq_nil
  · exact zq_nil
  · exact zq_nil
  · exact zq_nil
theorem kt_mf_isJump (l : Launch) : zk_me zt_Ts zt_Y zt_cl zt_Zs l (0, 0) yn_mf_isJump prog_1_method_23_code 1 (some .boolean) zo_i fn_mf_isJump := by
  refine zk_run (X := lx_mf_isJump) (code := cd_mf_isJump) 1 zt_ok (by decide) en_mf_isJump (zf_up (L := lf_mf_isJump) ?_) (zc_up (L := lc_mf_isJump) ?_) (zz_up (L := lg_mf_isJump) ?_) (zi_al_up (L := li_mf_isJump) ?_) zr_z_ok (zm_fs_e (by decide))
  · exact zq_nil
  · exact zq_nil
  · exact zq_nil
  · exact zq_nil
theorem kt_mf_isPlace (l : Launch) : zk_me zt_Ts zt_Y zt_cl zt_Zs l (0, 0) yn_mf_isPlace prog_1_method_19_code 1 (some .boolean) zo_i fn_mf_isPlace := by
  refine zk_run (X := lx_mf_isPlace) (code := cd_mf_isPlace) 1 zt_ok (by decide) en_mf_isPlace (zf_up (L := lf_mf_isPlace) ?_) (zc_up (L := lc_mf_isPlace) ?_) (zz_up (L := lg_mf_isPlace) ?_) (zi_al_up (L := li_mf_isPlace) ?_) zr_z_ok (zm_fs_e (by decide))
  · exact zq_nil
  · exact zq_nil
  · exact zq_nil
  · exact zq_nil
theorem kt_mf_isInstruction (l : Launch) : zk_me zt_Ts zt_Y zt_cl zt_Zs l (1, 20) yn_mf_isInstruction prog_1_method_21_code 3 (some .boolean) zo_i fn_mf_isInstruction := by
  refine zk_run (X := lx_mf_isInstruction) (code := cd_mf_isInstruction) 1 zt_ok (by decide) en_mf_isInstruction (zf_up (L := lf_mf_isInstruction) ?_) (zc_up (L := lc_mf_isInstruction) ?_) (zz_up (L := lg_mf_isInstruction) ?_) (zi_al_up (L := li_mf_isInstruction) ?_) zr_z_ok (zm_fs_e (by decide))
  · exact zq_nil
  · exact zq_nil
  · exact zq_nil
  · exact List.forall_mem_cons.mpr ⟨zj_al_i (zj_S (i := 189) zt_ok (kt_mf_hasLocal l) wd_502 wd_503 wd_77 wd_504 (by unfold zn_ok; decide +kernel) (by decide)), List.forall_mem_cons.mpr ⟨zj_al_i (zj_S (i := 192) zt_ok (kt_mf_localKindOf l) wd_505 wd_506 wd_77 wd_507 (by unfold zn_ok; decide +kernel) (by decide)), List.forall_mem_cons.mpr ⟨zj_al_i (zj_S (i := 195) zt_ok (kt_mf_widthOf l) wd_510 wd_511 wd_77 wd_512 (by unfold zn_ok; decide +kernel) (by decide)), List.forall_mem_cons.mpr ⟨zj_al_i (zj_S (i := 198) zt_ok (kt_mf_isJump l) wd_513 wd_514 wd_77 wd_515 (by unfold zn_ok; decide +kernel) (by decide)), List.forall_mem_cons.mpr ⟨zj_al_i (zj_S (i := 111) zt_ok (kt_mf_isPlace l) wd_516 wd_517 wd_77 wd_518 (by unfold zn_ok; decide +kernel) (by decide)), List.forall_mem_cons.mpr ⟨zj_al_i (zj_S (i := 78) zt_ok (kt_mf_isClass l) wd_478 wd_479 wd_77 wd_480 (by unfold zn_ok; decide +kernel) (by decide)), zq_nil⟩⟩⟩⟩⟩⟩
theorem kt_mf_lengthOf (l : Launch) : zk_me zt_Ts zt_Y zt_cl zt_Zs l (0, 0) yn_mf_lengthOf prog_1_method_26_code 1 (some .int) zo_i fn_mf_lengthOf := by
  refine zk_run (X := lx_mf_lengthOf) (code := cd_mf_lengthOf) 1 zt_ok (by decide) en_mf_lengthOf (zf_up (L := lf_mf_lengthOf) ?_) (zc_up (L := lc_mf_lengthOf) ?_) (zz_up (L := lg_mf_lengthOf) ?_) (zi_al_up (L := li_mf_lengthOf) ?_) zr_i_ok (zm_fs_e (by decide))
  · exact zq_nil
  · exact zq_nil
  · exact zq_nil
  · exact zq_nil
theorem lk_pr_15 : zf_e1 zt_Y zt_cl zt_Ts "MapForge$Program" 15 1 5 := ⟨rn_pr, tn_pr, 15, rfl, by decide, cs_pr, Or.inl wd_134, ⟨ty_pr, ty_pr_ok⟩, nm_pr, fun h => absurd h (by decide), fun h => absurd h (by decide)⟩
theorem lk_pr_18 : zf_e1 zt_Y zt_cl zt_Ts "MapForge$Program" 18 1 6 := ⟨rn_pr, tn_pr, 15, rfl, by decide, cs_pr, Or.inl wd_139, ⟨ty_pr, ty_pr_ok⟩, nm_pr, fun h => absurd h (by decide), fun h => absurd h (by decide)⟩
theorem lk_pr_21 : zf_e1 zt_Y zt_cl zt_Ts "MapForge$Program" 21 1 7 := ⟨rn_pr, tn_pr, 15, rfl, by decide, cs_pr, Or.inl wd_142, ⟨ty_pr, ty_pr_ok⟩, nm_pr, fun h => absurd h (by decide), fun h => absurd h (by decide)⟩
theorem lk_pr_24 : zf_e1 zt_Y zt_cl zt_Ts "MapForge$Program" 24 1 8 := ⟨rn_pr, tn_pr, 15, rfl, by decide, cs_pr, Or.inl wd_147, ⟨ty_pr, ty_pr_ok⟩, nm_pr, fun h => absurd h (by decide), fun h => absurd h (by decide)⟩
theorem kt_pr_write (l : Launch) : zk_me zt_Ts zt_Y zt_cl zt_Zs l (1, 20) yn_pr_write prog_8_method_3_code 6 none zo_v fn_pr_write := by
  refine zk_run (X := lx_pr_write) (code := cd_pr_write) 1073741824 zt_ok (by decide) en_pr_write (zf_up (L := lf_pr_write) ?_) (zc_up (L := lc_pr_write) ?_) (zz_up (L := lg_pr_write) ?_) (zi_al_up (L := li_pr_write) ?_) zr_v_ok (zm_fv_e (by decide))
  · exact List.forall_mem_cons.mpr ⟨lk_pr_15, List.forall_mem_cons.mpr ⟨lk_pr_18, List.forall_mem_cons.mpr ⟨lk_pr_21, List.forall_mem_cons.mpr ⟨lk_pr_53, List.forall_mem_cons.mpr ⟨lk_pr_24, zq_nil⟩⟩⟩⟩⟩
  · exact zq_nil
  · exact zq_nil
  · exact List.forall_mem_cons.mpr ⟨zj_al_i (zj_SN (i := 59) zt_ok (kt_mf_hasLocal l) wd_523 wd_503 wd_77 wd_504 (by unfold zn_ok; decide +kernel) (by decide)), List.forall_mem_cons.mpr ⟨zj_al_i (zj_SN (i := 63) zt_ok (kt_mf_isJump l) wd_524 wd_514 wd_77 wd_515 (by unfold zn_ok; decide +kernel) (by decide)), List.forall_mem_cons.mpr ⟨zj_al_i (zj_SN (i := 66) zt_ok (kt_mf_lengthOf l) wd_525 wd_526 wd_77 wd_527 (by unfold zn_ok; decide +kernel) (by decide)), zq_nil⟩⟩⟩
theorem lk_mf_104 : zf_e1 zt_Y zt_cl zt_Ts "MapForge" 104 1 9 := ⟨rn_pr, tn_pr, 15, rfl, by decide, cs_pr, Or.inl wd_155, ⟨ty_pr, ty_pr_ok⟩, nm_pr, fun _ => ⟨rfl, rfl⟩, fun h => absurd h (by decide)⟩
theorem kt_mf_add (l : Launch) : zk_me zt_Ts zt_Y zt_cl zt_Zs l (2, 45) yn_mf_add prog_1_method_5_code 4 (some .int) zo_i fn_mf_add := by
  refine zk_run (X := lx_mf_add) (code := cd_mf_add) 1 zt_ok (by decide) en_mf_add (zf_up (L := lf_mf_add) ?_) (zc_up (L := lc_mf_add) ?_) (zz_up (L := lg_mf_add) ?_) (zi_al_up (L := li_mf_add) ?_) zr_i_ok (zm_fv_e (by decide))
  · exact List.forall_mem_cons.mpr ⟨lk_mf_19, List.forall_mem_cons.mpr ⟨lk_mf_104, zq_nil⟩⟩
  · exact zq_nil
  · exact zq_nil
  · exact List.forall_mem_cons.mpr ⟨zj_al_i (zj_S (i := 100) zt_ok (kt_mf_isInstruction l) wd_499 wd_500 wd_77 wd_501 (by unfold zn_ok; decide +kernel) (by decide)), List.forall_mem_cons.mpr ⟨zj_al_v (zj_V (i := 107) zt_ok (kt_pr_write l) wd_519 wd_520 wd_521 wd_79 wd_522 rfl (by unfold zn_ok; decide +kernel) (by decide)), List.forall_mem_cons.mpr ⟨zj_al_v (zj_V (i := 75) zt_ok (kt_mf_forgetFindings l) wd_470 wd_472 wd_0 wd_77 wd_473 rfl (by unfold zn_ok; decide +kernel) (by decide)), zq_nil⟩⟩⟩
theorem kt_mf_change (l : Launch) : zk_me zt_Ts zt_Y zt_cl zt_Zs l (2, 45) yn_mf_change prog_1_method_6_code 5 (some .boolean) zo_i fn_mf_change := by
  refine zk_run (X := lx_mf_change) (code := cd_mf_change) 1 zt_ok (by decide) en_mf_change (zf_up (L := lf_mf_change) ?_) (zc_up (L := lc_mf_change) ?_) (zz_up (L := lg_mf_change) ?_) (zi_al_up (L := li_mf_change) ?_) zr_z_ok (zm_fv_e (by decide))
  · exact List.forall_mem_cons.mpr ⟨lk_mf_19, List.forall_mem_cons.mpr ⟨lk_mf_104, zq_nil⟩⟩
  · exact zq_nil
  · exact zq_nil
  · exact List.forall_mem_cons.mpr ⟨zj_al_i (zj_S (i := 100) zt_ok (kt_mf_isInstruction l) wd_499 wd_500 wd_77 wd_501 (by unfold zn_ok; decide +kernel) (by decide)), List.forall_mem_cons.mpr ⟨zj_al_v (zj_V (i := 107) zt_ok (kt_pr_write l) wd_519 wd_520 wd_521 wd_79 wd_522 rfl (by unfold zn_ok; decide +kernel) (by decide)), List.forall_mem_cons.mpr ⟨zj_al_v (zj_V (i := 75) zt_ok (kt_mf_forgetFindings l) wd_470 wd_472 wd_0 wd_77 wd_473 rfl (by unfold zn_ok; decide +kernel) (by decide)), zq_nil⟩⟩⟩
theorem lk_pr_27 : zf_e1 zt_Y zt_cl zt_Ts "MapForge$Program" 27 1 10 := ⟨rn_pr, tn_pr, 15, rfl, by decide, cs_pr, Or.inl wd_156, ⟨ty_pr, ty_pr_ok⟩, nm_pr, fun h => absurd h (by decide), fun h => absurd h (by decide)⟩
theorem lk_pr_30 : zf_e1 zt_Y zt_cl zt_Ts "MapForge$Program" 30 1 11 := ⟨rn_pr, tn_pr, 15, rfl, by decide, cs_pr, Or.inl wd_157, ⟨ty_pr, ty_pr_ok⟩, nm_pr, fun h => absurd h (by decide), fun h => absurd h (by decide)⟩
theorem lk_pr_33 : zf_e1 zt_Y zt_cl zt_Ts "MapForge$Program" 33 1 12 := ⟨rn_pr, tn_pr, 15, rfl, by decide, cs_pr, Or.inl wd_158, ⟨ty_pr, ty_pr_ok⟩, nm_pr, fun h => absurd h (by decide), fun h => absurd h (by decide)⟩
theorem lk_pr_36 : zf_e1 zt_Y zt_cl zt_Ts "MapForge$Program" 36 1 13 := ⟨rn_pr, tn_pr, 15, rfl, by decide, cs_pr, Or.inl wd_161, ⟨ty_pr, ty_pr_ok⟩, nm_pr, fun h => absurd h (by decide), fun h => absurd h (by decide)⟩
theorem kt_pr_guard (l : Launch) : zk_me zt_Ts zt_Y zt_cl zt_Zs l (0, 0) yn_pr_guard prog_8_method_4_code 5 none zo_v fn_pr_guard := by
  refine zk_run (X := lx_pr_guard) (code := cd_pr_guard) 1 zt_ok (by decide) en_pr_guard (zf_up (L := lf_pr_guard) ?_) (zc_up (L := lc_pr_guard) ?_) (zz_up (L := lg_pr_guard) ?_) (zi_al_up (L := li_pr_guard) ?_) zr_v_ok (zm_fv_e (by decide))
  · exact List.forall_mem_cons.mpr ⟨lk_pr_27, List.forall_mem_cons.mpr ⟨lk_pr_56, List.forall_mem_cons.mpr ⟨lk_pr_30, List.forall_mem_cons.mpr ⟨lk_pr_33, List.forall_mem_cons.mpr ⟨lk_pr_36, zq_nil⟩⟩⟩⟩⟩
  · exact zq_nil
  · exact zq_nil
  · exact zq_nil
theorem lk_mf_114 : zf_e1 zt_Y zt_cl zt_Ts "MapForge" 114 1 14 := ⟨rn_pr, tn_pr, 15, rfl, by decide, cs_pr, Or.inl wd_167, ⟨ty_pr, ty_pr_ok⟩, nm_pr, fun _ => ⟨rfl, rfl⟩, fun h => absurd h (by decide)⟩
theorem kt_mf_handle (l : Launch) : zk_me zt_Ts zt_Y zt_cl zt_Zs l (1, 24) yn_mf_handle prog_1_method_7_code 5 (some .int) zo_i fn_mf_handle := by
  refine zk_run (X := lx_mf_handle) (code := cd_mf_handle) 1 zt_ok (by decide) en_mf_handle (zf_up (L := lf_mf_handle) ?_) (zc_up (L := lc_mf_handle) ?_) (zz_up (L := lg_mf_handle) ?_) (zi_al_up (L := li_mf_handle) ?_) zr_i_ok (zm_fv_e (by decide))
  · exact List.forall_mem_cons.mpr ⟨lk_mf_19, List.forall_mem_cons.mpr ⟨lk_mf_114, zq_nil⟩⟩
  · exact zq_nil
  · exact zq_nil
  · exact List.forall_mem_cons.mpr ⟨zj_al_i (zj_S (i := 111) zt_ok (kt_mf_isPlace l) wd_516 wd_517 wd_77 wd_518 (by unfold zn_ok; decide +kernel) (by decide)), List.forall_mem_cons.mpr ⟨zj_al_i (zj_S (i := 78) zt_ok (kt_mf_isClass l) wd_478 wd_479 wd_77 wd_480 (by unfold zn_ok; decide +kernel) (by decide)), List.forall_mem_cons.mpr ⟨zj_al_v (zj_V (i := 117) zt_ok (kt_pr_guard l) wd_536 wd_537 wd_538 wd_79 wd_539 rfl (by unfold zn_ok; decide +kernel) (by decide)), List.forall_mem_cons.mpr ⟨zj_al_v (zj_V (i := 75) zt_ok (kt_mf_forgetFindings l) wd_470 wd_472 wd_0 wd_77 wd_473 rfl (by unfold zn_ok; decide +kernel) (by decide)), zq_nil⟩⟩⟩⟩
theorem kt_ja_fill (l : Launch) : zk_me zt_Ts zt_Y zt_cl zt_Zs l (0, 0) yn_ja_fill prog_16_method_103_code 4 none zo_v fn_ja_fill := by
  refine zk_run (X := lx_ja_fill) (code := cd_ja_fill) 1073741824 zt_ok (by decide) en_ja_fill (zf_up (L := lf_ja_fill) ?_) (zc_up (L := lc_ja_fill) ?_) (zz_up (L := lg_ja_fill) ?_) (zi_al_up (L := li_ja_fill) ?_) zr_v_ok (zm_fs_e (by decide))
  · exact zq_nil
  · exact zq_nil
  · exact zq_nil
  · exact zq_nil
theorem lk_fr_24 : zf_e1 zt_Y zt_cl zt_Ts "MapForge$Frame" 24 4 2 := ⟨rn_fr, tn_fr, 5, rfl, by decide, cs_fr, Or.inl wd_253, ⟨ty_fr, ty_fr_ok⟩, nm_fr, fun _ => ⟨rfl, rfl⟩, fun h => absurd h (by decide)⟩
theorem lk_fr_28 : zf_e1 zt_Y zt_cl zt_Ts "MapForge$Frame" 28 4 3 := ⟨rn_fr, tn_fr, 5, rfl, by decide, cs_fr, Or.inl wd_257, ⟨ty_fr, ty_fr_ok⟩, nm_fr, fun _ => ⟨rfl, rfl⟩, fun h => absurd h (by decide)⟩
theorem kt_fr_emptyStack (l : Launch) : zk_me zt_Ts zt_Y zt_cl zt_Zs l (0, 0) yn_fr_emptyStack prog_6_method_4_code 1 none zo_v fn_fr_emptyStack := by
  refine zk_run (X := lx_fr_emptyStack) (code := cd_fr_emptyStack) 1 zt_ok (by decide) en_fr_emptyStack (zf_up (L := lf_fr_emptyStack) ?_) (zc_up (L := lc_fr_emptyStack) ?_) (zz_up (L := lg_fr_emptyStack) ?_) (zi_al_up (L := li_fr_emptyStack) ?_) zr_v_ok (zm_fv_e (by decide))
  · exact List.forall_mem_cons.mpr ⟨lk_fr_24, List.forall_mem_cons.mpr ⟨lk_fr_28, zq_nil⟩⟩
  · exact zq_nil
  · exact zq_nil
  · exact zq_nil
theorem kt_mf_typeOf (l : Launch) : zk_me zt_Ts zt_Y zt_cl zt_Zs l (0, 0) yn_mf_typeOf prog_1_method_29_code 2 (some .int) zo_i fn_mf_typeOf := by
  refine zk_run (X := lx_mf_typeOf) (code := cd_mf_typeOf) 1 zt_ok (by decide) en_mf_typeOf (zf_up (L := lf_mf_typeOf) ?_) (zc_up (L := lc_mf_typeOf) ?_) (zz_up (L := lg_mf_typeOf) ?_) (zi_al_up (L := li_mf_typeOf) ?_) zr_i_ok (zm_fs_e (by decide))
  · exact zq_nil
  · exact zq_nil
  · exact zq_nil
  · exact zq_nil
theorem lk_pr_73 : zf_e1 zt_Y zt_cl zt_Ts "MapForge$Program" 73 4 0 := ⟨rn_fr, tn_fr, 5, rfl, by decide, cs_fr, Or.inl wd_248, ⟨ty_fr, ty_fr_ok⟩, nm_fr, fun h => absurd h (by decide), fun h => absurd h (by decide)⟩
theorem lk_pr_87 : zf_e1 zt_Y zt_cl zt_Ts "MapForge$Program" 87 4 4 := ⟨rn_fr, tn_fr, 5, rfl, by decide, cs_fr, Or.inl wd_263, ⟨ty_fr, ty_fr_ok⟩, nm_fr, fun h => absurd h (by decide), fun _ => ⟨rfl, rfl⟩⟩
theorem lk_pr_9 : zf_e1 zt_Y zt_cl zt_Ts "MapForge$Program" 9 1 3 := ⟨rn_pr, tn_pr, 15, rfl, by decide, cs_pr, Or.inl wd_130, ⟨ty_pr, ty_pr_ok⟩, nm_pr, fun h => absurd h (by decide), fun h => absurd h (by decide)⟩
theorem kt_pr_enter (l : Launch) : zk_me zt_Ts zt_Y zt_cl zt_Zs l (1, 23) yn_pr_enter prog_8_method_8_code 4 none zo_v fn_pr_enter := by
  refine zk_run (X := lx_pr_enter) (code := cd_pr_enter) 1073741824 zt_ok (by decide) en_pr_enter (zf_up (L := lf_pr_enter) ?_) (zc_up (L := lc_pr_enter) ?_) (zz_up (L := lg_pr_enter) ?_) (zi_al_up (L := li_pr_enter) ?_) zr_v_ok (zm_fv_e (by decide))
  · exact List.forall_mem_cons.mpr ⟨lk_pr_73, List.forall_mem_cons.mpr ⟨lk_pr_43, List.forall_mem_cons.mpr ⟨lk_pr_87, List.forall_mem_cons.mpr ⟨lk_pr_39, List.forall_mem_cons.mpr ⟨lk_pr_50, List.forall_mem_cons.mpr ⟨lk_pr_9, zq_nil⟩⟩⟩⟩⟩⟩
  · exact zq_nil
  · exact zq_nil
  · exact List.forall_mem_cons.mpr ⟨zj_al_v (zj_S (i := 78) zt_ok (kt_ja_fill l) wd_556 wd_557 wd_89 wd_558 (by unfold zn_ok; decide +kernel) (by decide)), List.forall_mem_cons.mpr ⟨zj_al_v (zj_V (i := 84) zt_ok (kt_fr_emptyStack l) wd_559 wd_560 wd_561 wd_83 wd_562 rfl (by unfold zn_ok; decide +kernel) (by decide)), List.forall_mem_cons.mpr ⟨zj_al_i (zj_SN (i := 90) zt_ok (kt_mf_typeOf l) wd_563 wd_564 wd_77 wd_565 (by unfold zn_ok; decide +kernel) (by decide)), List.forall_mem_cons.mpr ⟨zj_al_i (zj_SN (i := 94) zt_ok (kt_mf_widthOf l) wd_566 wd_511 wd_77 wd_512 (by unfold zn_ok; decide +kernel) (by decide)), zq_nil⟩⟩⟩⟩
theorem kt_mf_isObjectOrNull (l : Launch) : zk_me zt_Ts zt_Y zt_cl zt_Zs l (1, 20) yn_mf_isObjectOrNull prog_1_method_33_code 1 (some .boolean) zo_i fn_mf_isObjectOrNull := by
  refine zk_run (X := lx_mf_isObjectOrNull) (code := cd_mf_isObjectOrNull) 1 zt_ok (by decide) en_mf_isObjectOrNull (zf_up (L := lf_mf_isObjectOrNull) ?_) (zc_up (L := lc_mf_isObjectOrNull) ?_) (zz_up (L := lg_mf_isObjectOrNull) ?_) (zi_al_up (L := li_mf_isObjectOrNull) ?_) zr_z_ok (zm_fs_e (by decide))
  · exact zq_nil
  · exact zq_nil
  · exact zq_nil
  · exact List.forall_mem_cons.mpr ⟨zj_al_i (zj_S (i := 85) zt_ok (kt_mf_kindOf l) wd_489 wd_490 wd_77 wd_491 (by unfold zn_ok; decide +kernel) (by decide)), zq_nil⟩
theorem kt_fa_join (l : Launch) : zk_me zt_Ts zt_Y zt_cl zt_Zs l (2, 40) yn_fa_join prog_4_method_5_code 5 (some .int) zo_i fn_fa_join := by
  refine zk_run (X := lx_fa_join) (code := cd_fa_join) 1073741824 zt_ok (by decide) en_fa_join (zf_up (L := lf_fa_join) ?_) (zc_up (L := lc_fa_join) ?_) (zz_up (L := lg_fa_join) ?_) (zi_al_up (L := li_fa_join) ?_) zr_i_ok (zm_fv_e (by decide))
  · exact List.forall_mem_cons.mpr ⟨lk_fa_19, List.forall_mem_cons.mpr ⟨lk_fa_9, zq_nil⟩⟩
  · exact zq_nil
  · exact zq_nil
  · exact List.forall_mem_cons.mpr ⟨zj_al_i (zj_SN (i := 29) zt_ok (kt_mf_isObjectOrNull l) wd_579 wd_580 wd_77 wd_581 (by unfold zn_ok; decide +kernel) (by decide)), List.forall_mem_cons.mpr ⟨zj_al_i (zj_SN (i := 26) zt_ok (kt_mf_partOf l) wd_582 wd_493 wd_77 wd_494 (by unfold zn_ok; decide +kernel) (by decide)), List.forall_mem_cons.mpr ⟨zj_al_i (zj_SN (i := 33) zt_ok (kt_mf_typeOf l) wd_583 wd_564 wd_77 wd_565 (by unfold zn_ok; decide +kernel) (by decide)), zq_nil⟩⟩⟩
theorem lk_fl_11 : zf_e1 zt_Y zt_cl zt_Ts "MapForge$Flow" 11 5 3 := ⟨rn_fl, tn_fl, 10, rfl, by decide, cs_fl, Or.inl wd_278, ⟨ty_fl, ty_fl_ok⟩, nm_fl, fun h => absurd h (by decide), fun h => absurd h (by decide)⟩
theorem lk_fl_121 : zf_e1 zt_Y zt_cl zt_Ts "MapForge$Flow" 121 4 2 := ⟨rn_fr, tn_fr, 5, rfl, by decide, cs_fr, Or.inl wd_256, ⟨ty_fr, ty_fr_ok⟩, nm_fr, fun _ => ⟨rfl, rfl⟩, fun h => absurd h (by decide)⟩
theorem lk_fl_124 : zf_e1 zt_Y zt_cl zt_Ts "MapForge$Flow" 124 4 4 := ⟨rn_fr, tn_fr, 5, rfl, by decide, cs_fr, Or.inl wd_262, ⟨ty_fr, ty_fr_ok⟩, nm_fr, fun h => absurd h (by decide), fun _ => ⟨rfl, rfl⟩⟩
theorem lk_fl_24 : zf_e1 zt_Y zt_cl zt_Ts "MapForge$Flow" 24 5 6 := ⟨rn_fl, tn_fl, 10, rfl, by decide, cs_fl, Or.inl wd_284, ⟨ty_fl, ty_fl_ok⟩, nm_fl, fun h => absurd h (by decide), fun h => absurd h (by decide)⟩
theorem lk_fl_32 : zf_e1 zt_Y zt_cl zt_Ts "MapForge$Flow" 32 5 0 := ⟨rn_fl, tn_fl, 10, rfl, by decide, cs_fl, Or.inl wd_275, ⟨ty_fl, ty_fl_ok⟩, nm_fl, fun h => absurd h (by decide), fun h => absurd h (by decide)⟩
theorem lk_fl_127 : zf_e1 zt_Y zt_cl zt_Ts "MapForge$Flow" 127 4 0 := ⟨rn_fr, tn_fr, 5, rfl, by decide, cs_fr, Or.inl wd_247, ⟨ty_fr, ty_fr_ok⟩, nm_fr, fun h => absurd h (by decide), fun h => absurd h (by decide)⟩
theorem lk_fl_136 : zf_e1 zt_Y zt_cl zt_Ts "MapForge$Flow" 136 4 1 := ⟨rn_fr, tn_fr, 5, rfl, by decide, cs_fr, Or.inl wd_252, ⟨ty_fr, ty_fr_ok⟩, nm_fr, fun h => absurd h (by decide), fun h => absurd h (by decide)⟩
theorem kt_fl_joinAt (l : Launch) : zk_me zt_Ts zt_Y zt_cl zt_Zs l (3, 64) yn_fl_joinAt prog_5_method_7_code 6 (some .boolean) zo_i fn_fl_joinAt := by
  refine zk_run (X := lx_fl_joinAt) (code := cd_fl_joinAt) 1073741824 zt_ok (by decide) en_fl_joinAt (zf_up (L := lf_fl_joinAt) ?_) (zc_up (L := lc_fl_joinAt) ?_) (zz_up (L := lg_fl_joinAt) ?_) (zi_al_up (L := li_fl_joinAt) ?_) zr_z_ok (zm_fv_e (by decide))
  · exact List.forall_mem_cons.mpr ⟨lk_fl_11, List.forall_mem_cons.mpr ⟨lk_fl_121, List.forall_mem_cons.mpr ⟨lk_fl_124, List.forall_mem_cons.mpr ⟨lk_fl_24, List.forall_mem_cons.mpr ⟨lk_fl_32, List.forall_mem_cons.mpr ⟨lk_fl_127, List.forall_mem_cons.mpr ⟨lk_fl_136, zq_nil⟩⟩⟩⟩⟩⟩⟩
  · exact zq_nil
  · exact zq_nil
  · exact List.forall_mem_cons.mpr ⟨zj_al_i (zj_V (i := 130) zt_ok (kt_fa_join l) wd_575 wd_576 wd_577 wd_78 wd_578 rfl (by unfold zn_ok; decide +kernel) (by decide)), zq_nil⟩
theorem lk_fr_9 : zf_e1 zt_Y zt_cl zt_Ts "MapForge$Frame" 9 4 0 := ⟨rn_fr, tn_fr, 5, rfl, by decide, cs_fr, Or.inl wd_243, ⟨ty_fr, ty_fr_ok⟩, nm_fr, fun h => absurd h (by decide), fun h => absurd h (by decide)⟩
theorem lk_fr_15 : zf_e1 zt_Y zt_cl zt_Ts "MapForge$Frame" 15 4 1 := ⟨rn_fr, tn_fr, 5, rfl, by decide, cs_fr, Or.inl wd_249, ⟨ty_fr, ty_fr_ok⟩, nm_fr, fun h => absurd h (by decide), fun h => absurd h (by decide)⟩
theorem lk_fr_31 : zf_e1 zt_Y zt_cl zt_Ts "MapForge$Frame" 31 4 4 := ⟨rn_fr, tn_fr, 5, rfl, by decide, cs_fr, Or.inl wd_258, ⟨ty_fr, ty_fr_ok⟩, nm_fr, fun h => absurd h (by decide), fun _ => ⟨rfl, rfl⟩⟩
theorem kt_fr_takeOver (l : Launch) : zk_me zt_Ts zt_Y zt_cl zt_Zs l (1, 26) yn_fr_takeOver prog_6_method_2_code 2 none zo_v fn_fr_takeOver := by
  refine zk_run (X := lx_fr_takeOver) (code := cd_fr_takeOver) 1 zt_ok (by decide) en_fr_takeOver (zf_up (L := lf_fr_takeOver) ?_) (zc_up (L := lc_fr_takeOver) ?_) (zz_up (L := lg_fr_takeOver) ?_) (zi_al_up (L := li_fr_takeOver) ?_) zr_v_ok (zm_fv_e (by decide))
  · exact List.forall_mem_cons.mpr ⟨lk_fr_9, List.forall_mem_cons.mpr ⟨lk_fr_15, List.forall_mem_cons.mpr ⟨lk_fr_24, List.forall_mem_cons.mpr ⟨lk_fr_28, List.forall_mem_cons.mpr ⟨lk_fr_31, zq_nil⟩⟩⟩⟩⟩
  · exact zq_nil
  · exact zq_nil
  · exact List.forall_mem_cons.mpr ⟨zj_al_v (zj_ac (i := 18) wd_588 wd_590 wd_589 wd_90 (by decide)), zq_nil⟩
theorem lk_fl_36 : zf_e1 zt_Y zt_cl zt_Ts "MapForge$Flow" 36 5 1 := ⟨rn_fl, tn_fl, 10, rfl, by decide, cs_fl, Or.inl wd_276, ⟨ty_fl, ty_fl_ok⟩, nm_fl, fun h => absurd h (by decide), fun h => absurd h (by decide)⟩
theorem lk_fl_55 : zf_e1 zt_Y zt_cl zt_Ts "MapForge$Flow" 55 1 9 := ⟨rn_pr, tn_pr, 15, rfl, by decide, cs_pr, Or.inl wd_154, ⟨ty_pr, ty_pr_ok⟩, nm_pr, fun _ => ⟨rfl, rfl⟩, fun h => absurd h (by decide)⟩
theorem lk_fl_21 : zf_e1 zt_Y zt_cl zt_Ts "MapForge$Flow" 21 5 5 := ⟨rn_fl, tn_fl, 10, rfl, by decide, cs_fl, Or.inl wd_283, ⟨ty_fl, ty_fl_ok⟩, nm_fl, fun h => absurd h (by decide), fun h => absurd h (by decide)⟩
theorem kt_fl_arrive (l : Launch) : zk_me zt_Ts zt_Y zt_cl zt_Zs l (4, 89) yn_fl_arrive prog_5_method_6_code 3 (some .boolean) zo_i fn_fl_arrive := by
  refine zk_run (X := lx_fl_arrive) (code := cd_fl_arrive) 1 zt_ok (by decide) en_fl_arrive (zf_up (L := lf_fl_arrive) ?_) (zc_up (L := lc_fl_arrive) ?_) (zz_up (L := lg_fl_arrive) ?_) (zi_al_up (L := li_fl_arrive) ?_) zr_z_ok (zm_fv_e (by decide))
  · exact List.forall_mem_cons.mpr ⟨lk_fl_36, List.forall_mem_cons.mpr ⟨lk_fl_55, List.forall_mem_cons.mpr ⟨lk_fl_21, List.forall_mem_cons.mpr ⟨lk_fl_24, List.forall_mem_cons.mpr ⟨lk_fl_11, zq_nil⟩⟩⟩⟩⟩
  · exact zq_nil
  · exact zq_nil
  · exact List.forall_mem_cons.mpr ⟨zj_al_i (zj_V (i := 118) zt_ok (kt_fl_joinAt l) wd_571 wd_573 wd_3 wd_82 wd_574 rfl (by unfold zn_ok; decide +kernel) (by decide)), List.forall_mem_cons.mpr ⟨zj_al_v (zj_V (i := 98) zt_ok (kt_fr_takeOver l) wd_584 wd_585 wd_586 wd_83 wd_587 rfl (by unfold zn_ok; decide +kernel) (by decide)), zq_nil⟩⟩
theorem lk_fl_28 : zf_e1 zt_Y zt_cl zt_Ts "MapForge$Flow" 28 5 7 := ⟨rn_fl, tn_fl, 10, rfl, by decide, cs_fl, Or.inl wd_285, ⟨ty_fl, ty_fl_ok⟩, nm_fl, fun h => absurd h (by decide), fun h => absurd h (by decide)⟩
theorem kt_fl_begin (l : Launch) : zk_me zt_Ts zt_Y zt_cl zt_Zs l (5, 111) yn_fl_begin prog_5_method_3_code 2 none zo_v fn_fl_begin := by
  refine zk_run (X := lx_fl_begin) (code := cd_fl_begin) 1073741824 zt_ok (by decide) en_fl_begin (zf_up (L := lf_fl_begin) ?_) (zc_up (L := lc_fl_begin) ?_) (zz_up (L := lg_fl_begin) ?_) (zi_al_up (L := li_fl_begin) ?_) zr_v_ok (zm_fv_e (by decide))
  · exact List.forall_mem_cons.mpr ⟨lk_fl_21, List.forall_mem_cons.mpr ⟨lk_fl_24, List.forall_mem_cons.mpr ⟨lk_fl_36, List.forall_mem_cons.mpr ⟨lk_fl_28, zq_nil⟩⟩⟩⟩
  · exact zq_nil
  · exact zq_nil
  · exact List.forall_mem_cons.mpr ⟨zj_al_v (zj_V (i := 72) zt_ok (kt_pr_enter l) wd_552 wd_553 wd_554 wd_79 wd_555 rfl (by unfold zn_ok; decide +kernel) (by decide)), List.forall_mem_cons.mpr ⟨zj_al_i (zj_V (i := 76) zt_ok (kt_fl_arrive l) wd_567 wd_569 wd_2 wd_82 wd_570 rfl (by unfold zn_ok; decide +kernel) (by decide)), zq_nil⟩⟩
theorem kt_pr_isGuarded (l : Launch) : zk_me zt_Ts zt_Y zt_cl zt_Zs l (0, 0) yn_pr_isGuarded prog_8_method_5_code 3 (some .boolean) zo_i fn_pr_isGuarded := by
  refine zk_run (X := lx_pr_isGuarded) (code := cd_pr_isGuarded) 1 zt_ok (by decide) en_pr_isGuarded (zf_up (L := lf_pr_isGuarded) ?_) (zc_up (L := lc_pr_isGuarded) ?_) (zz_up (L := lg_pr_isGuarded) ?_) (zi_al_up (L := li_pr_isGuarded) ?_) zr_z_ok (zm_fv_e (by decide))
  · exact List.forall_mem_cons.mpr ⟨lk_pr_27, List.forall_mem_cons.mpr ⟨lk_pr_30, zq_nil⟩⟩
  · exact zq_nil
  · exact zq_nil
  · exact zq_nil
theorem kt_fr_push (l : Launch) : zk_me zt_Ts zt_Y zt_cl zt_Zs l (1, 20) yn_fr_push prog_6_method_5_code 3 (some .boolean) zo_i fn_fr_push := by
  refine zk_run (X := lx_fr_push) (code := cd_fr_push) 1 zt_ok (by decide) en_fr_push (zf_up (L := lf_fr_push) ?_) (zc_up (L := lc_fr_push) ?_) (zz_up (L := lg_fr_push) ?_) (zi_al_up (L := li_fr_push) ?_) zr_z_ok (zm_fv_e (by decide))
  · exact List.forall_mem_cons.mpr ⟨lk_fr_28, List.forall_mem_cons.mpr ⟨lk_fr_15, List.forall_mem_cons.mpr ⟨lk_fr_24, zq_nil⟩⟩⟩
  · exact zq_nil
  · exact zq_nil
  · exact List.forall_mem_cons.mpr ⟨zj_al_i (zj_SN (i := 50) zt_ok (kt_mf_widthOf l) wd_611 wd_511 wd_77 wd_512 (by unfold zn_ok; decide +kernel) (by decide)), zq_nil⟩
theorem kt_fr_takeOverForHandler (l : Launch) : zk_me zt_Ts zt_Y zt_cl zt_Zs l (2, 47) yn_fr_takeOverForHandler prog_6_method_3_code 3 none zo_v fn_fr_takeOverForHandler := by
  refine zk_run (X := lx_fr_takeOverForHandler) (code := cd_fr_takeOverForHandler) 1 zt_ok (by decide) en_fr_takeOverForHandler (zf_up (L := lf_fr_takeOverForHandler) ?_) (zc_up (L := lc_fr_takeOverForHandler) ?_) (zz_up (L := lg_fr_takeOverForHandler) ?_) (zi_al_up (L := li_fr_takeOverForHandler) ?_) zr_v_ok (zm_fv_e (by decide))
  · exact zq_nil
  · exact zq_nil
  · exact zq_nil
  · exact List.forall_mem_cons.mpr ⟨zj_al_v (zj_V (i := 35) zt_ok (kt_fr_takeOver l) wd_604 wd_585 wd_586 wd_83 wd_587 rfl (by unfold zn_ok; decide +kernel) (by decide)), List.forall_mem_cons.mpr ⟨zj_al_v (zj_V (i := 39) zt_ok (kt_fr_emptyStack l) wd_605 wd_560 wd_561 wd_83 wd_562 rfl (by unfold zn_ok; decide +kernel) (by decide)), List.forall_mem_cons.mpr ⟨zj_al_i (zj_SN (i := 42) zt_ok (kt_mf_typeOf l) wd_606 wd_564 wd_77 wd_565 (by unfold zn_ok; decide +kernel) (by decide)), List.forall_mem_cons.mpr ⟨zj_al_i (zj_V (i := 46) zt_ok (kt_fr_push l) wd_607 wd_608 wd_609 wd_83 wd_610 rfl (by unfold zn_ok; decide +kernel) (by decide)), zq_nil⟩⟩⟩⟩
theorem lk_fl_80 : zf_e1 zt_Y zt_cl zt_Ts "MapForge$Flow" 80 1 14 := ⟨rn_pr, tn_pr, 15, rfl, by decide, cs_pr, Or.inl wd_165, ⟨ty_pr, ty_pr_ok⟩, nm_pr, fun _ => ⟨rfl, rfl⟩, fun h => absurd h (by decide)⟩
theorem lk_fl_87 : zf_e1 zt_Y zt_cl zt_Ts "MapForge$Flow" 87 1 13 := ⟨rn_pr, tn_pr, 15, rfl, by decide, cs_pr, Or.inl wd_163, ⟨ty_pr, ty_pr_ok⟩, nm_pr, fun h => absurd h (by decide), fun h => absurd h (by decide)⟩
theorem lk_fl_95 : zf_e1 zt_Y zt_cl zt_Ts "MapForge$Flow" 95 1 12 := ⟨rn_pr, tn_pr, 15, rfl, by decide, cs_pr, Or.inl wd_160, ⟨ty_pr, ty_pr_ok⟩, nm_pr, fun h => absurd h (by decide), fun h => absurd h (by decide)⟩
theorem kt_fl_leaveToHandlers (l : Launch) : zk_me zt_Ts zt_Y zt_cl zt_Zs l (5, 111) yn_fl_leaveToHandlers prog_5_method_4_code 3 (some .boolean) zo_i fn_fl_leaveToHandlers := by
  refine zk_run (X := lx_fl_leaveToHandlers) (code := cd_fl_leaveToHandlers) 1073741824 zt_ok (by decide) en_fl_leaveToHandlers (zf_up (L := lf_fl_leaveToHandlers) ?_) (zc_up (L := lc_fl_leaveToHandlers) ?_) (zz_up (L := lg_fl_leaveToHandlers) ?_) (zi_al_up (L := li_fl_leaveToHandlers) ?_) zr_z_ok (zm_fv_e (by decide))
  · exact List.forall_mem_cons.mpr ⟨lk_fl_36, List.forall_mem_cons.mpr ⟨lk_fl_80, List.forall_mem_cons.mpr ⟨lk_fl_28, List.forall_mem_cons.mpr ⟨lk_fl_11, List.forall_mem_cons.mpr ⟨lk_fl_87, List.forall_mem_cons.mpr ⟨lk_fl_95, zq_nil⟩⟩⟩⟩⟩⟩
  · exact zq_nil
  · exact zq_nil
  · exact List.forall_mem_cons.mpr ⟨zj_al_i (zj_V (i := 83) zt_ok (kt_pr_isGuarded l) wd_596 wd_597 wd_598 wd_79 wd_599 rfl (by unfold zn_ok; decide +kernel) (by decide)), List.forall_mem_cons.mpr ⟨zj_al_v (zj_V (i := 91) zt_ok (kt_fr_takeOverForHandler l) wd_600 wd_601 wd_602 wd_83 wd_603 rfl (by unfold zn_ok; decide +kernel) (by decide)), List.forall_mem_cons.mpr ⟨zj_al_i (zj_V (i := 76) zt_ok (kt_fl_arrive l) wd_567 wd_569 wd_2 wd_82 wd_570 rfl (by unfold zn_ok; decide +kernel) (by decide)), zq_nil⟩⟩⟩
theorem kt_fr_peek (l : Launch) : zk_me zt_Ts zt_Y zt_cl zt_Zs l (0, 0) yn_fr_peek prog_6_method_6_code 2 (some .int) zo_i fn_fr_peek := by
  refine zk_run (X := lx_fr_peek) (code := cd_fr_peek) 1 zt_ok (by decide) en_fr_peek (zf_up (L := lf_fr_peek) ?_) (zc_up (L := lc_fr_peek) ?_) (zz_up (L := lg_fr_peek) ?_) (zi_al_up (L := li_fr_peek) ?_) zr_i_ok (zm_fv_e (by decide))
  · exact List.forall_mem_cons.mpr ⟨lk_fr_24, List.forall_mem_cons.mpr ⟨lk_fr_15, zq_nil⟩⟩
  · exact zq_nil
  · exact zq_nil
  · exact zq_nil
theorem kt_fr_drop (l : Launch) : zk_me zt_Ts zt_Y zt_cl zt_Zs l (1, 20) yn_fr_drop prog_6_method_7_code 1 none zo_v fn_fr_drop := by
  refine zk_run (X := lx_fr_drop) (code := cd_fr_drop) 1 zt_ok (by decide) en_fr_drop (zf_up (L := lf_fr_drop) ?_) (zc_up (L := lc_fr_drop) ?_) (zz_up (L := lg_fr_drop) ?_) (zi_al_up (L := li_fr_drop) ?_) zr_v_ok (zm_fv_e (by decide))
  · exact List.forall_mem_cons.mpr ⟨lk_fr_24, List.forall_mem_cons.mpr ⟨lk_fr_28, List.forall_mem_cons.mpr ⟨lk_fr_15, zq_nil⟩⟩⟩
  · exact zq_nil
  · exact zq_nil
  · exact List.forall_mem_cons.mpr ⟨zj_al_i (zj_SN (i := 50) zt_ok (kt_mf_widthOf l) wd_611 wd_511 wd_77 wd_512 (by unfold zn_ok; decide +kernel) (by decide)), zq_nil⟩
theorem kt_fr_take (l : Launch) : zk_me zt_Ts zt_Y zt_cl zt_Zs l (2, 40) yn_fr_take prog_6_method_8_code 2 (some .boolean) zo_i fn_fr_take := by
  refine zk_run (X := lx_fr_take) (code := cd_fr_take) 1 zt_ok (by decide) en_fr_take (zf_up (L := lf_fr_take) ?_) (zc_up (L := lc_fr_take) ?_) (zz_up (L := lg_fr_take) ?_) (zi_al_up (L := li_fr_take) ?_) zr_z_ok (zm_fv_e (by decide))
  · exact zq_nil
  · exact zq_nil
  · exact zq_nil
  · exact List.forall_mem_cons.mpr ⟨zj_al_i (zj_V (i := 54) zt_ok (kt_fr_peek l) wd_630 wd_631 wd_632 wd_83 wd_633 rfl (by unfold zn_ok; decide +kernel) (by decide)), List.forall_mem_cons.mpr ⟨zj_al_v (zj_V (i := 57) zt_ok (kt_fr_drop l) wd_634 wd_635 wd_636 wd_83 wd_637 rfl (by unfold zn_ok; decide +kernel) (by decide)), zq_nil⟩⟩
theorem kt_mf_isSmall (l : Launch) : zk_me zt_Ts zt_Y zt_cl zt_Zs l (1, 20) yn_mf_isSmall prog_1_method_31_code 2 (some .boolean) zo_i fn_mf_isSmall := by
  refine zk_run (X := lx_mf_isSmall) (code := cd_mf_isSmall) 1 zt_ok (by decide) en_mf_isSmall (zf_up (L := lf_mf_isSmall) ?_) (zc_up (L := lc_mf_isSmall) ?_) (zz_up (L := lg_mf_isSmall) ?_) (zi_al_up (L := li_mf_isSmall) ?_) zr_z_ok (zm_fs_e (by decide))
  · exact zq_nil
  · exact zq_nil
  · exact zq_nil
  · exact List.forall_mem_cons.mpr ⟨zj_al_i (zj_S (i := 85) zt_ok (kt_mf_kindOf l) wd_489 wd_490 wd_77 wd_491 (by unfold zn_ok; decide +kernel) (by decide)), zq_nil⟩
theorem kt_ma_stepOne (l : Launch) : zk_me zt_Ts zt_Y zt_cl zt_Zs l (2, 42) yn_ma_stepOne prog_7_method_4_code 4 (some .boolean) zo_i fn_ma_stepOne := by
  refine zk_run (X := lx_ma_stepOne) (code := cd_ma_stepOne) 1 zt_ok (by decide) en_ma_stepOne (zf_up (L := lf_ma_stepOne) ?_) (zc_up (L := lc_ma_stepOne) ?_) (zz_up (L := lg_ma_stepOne) ?_) (zi_al_up (L := li_ma_stepOne) ?_) zr_z_ok (zm_fv_e (by decide))
  · exact zq_nil
  · exact zq_nil
  · exact zq_nil
  · exact List.forall_mem_cons.mpr ⟨zj_al_i (zj_V (i := 48) zt_ok (kt_fr_push l) wd_624 wd_608 wd_609 wd_83 wd_610 rfl (by unfold zn_ok; decide +kernel) (by decide)), List.forall_mem_cons.mpr ⟨zj_al_v (zj_V (i := 74) zt_ok (kt_fr_drop l) wd_640 wd_635 wd_636 wd_83 wd_637 rfl (by unfold zn_ok; decide +kernel) (by decide)), zq_nil⟩⟩
theorem kt_fr_swap (l : Launch) : zk_me zt_Ts zt_Y zt_cl zt_Zs l (0, 0) yn_fr_swap prog_6_method_9_code 2 none zo_v fn_fr_swap := by
  refine zk_run (X := lx_fr_swap) (code := cd_fr_swap) 1 zt_ok (by decide) en_fr_swap (zf_up (L := lf_fr_swap) ?_) (zc_up (L := lc_fr_swap) ?_) (zz_up (L := lg_fr_swap) ?_) (zi_al_up (L := li_fr_swap) ?_) zr_v_ok (zm_fv_e (by decide))
  · exact List.forall_mem_cons.mpr ⟨lk_fr_24, List.forall_mem_cons.mpr ⟨lk_fr_15, zq_nil⟩⟩
  · exact zq_nil
  · exact zq_nil
  · exact zq_nil
theorem kt_ma_stepTwo (l : Launch) : zk_me zt_Ts zt_Y zt_cl zt_Zs l (2, 41) yn_ma_stepTwo prog_7_method_5_code 3 (some .boolean) zo_i fn_ma_stepTwo := by
  refine zk_run (X := lx_ma_stepTwo) (code := cd_ma_stepTwo) 1 zt_ok (by decide) en_ma_stepTwo (zf_up (L := lf_ma_stepTwo) ?_) (zc_up (L := lc_ma_stepTwo) ?_) (zz_up (L := lg_ma_stepTwo) ?_) (zi_al_up (L := li_ma_stepTwo) ?_) zr_z_ok (zm_fv_e (by decide))
  · exact zq_nil
  · exact zq_nil
  · exact zq_nil
  · exact List.forall_mem_cons.mpr ⟨zj_al_i (zj_V (i := 68) zt_ok (kt_fr_peek l) wd_638 wd_631 wd_632 wd_83 wd_633 rfl (by unfold zn_ok; decide +kernel) (by decide)), List.forall_mem_cons.mpr ⟨zj_al_i (zj_SN (i := 77) zt_ok (kt_mf_isSmall l) wd_641 wd_642 wd_77 wd_643 (by unfold zn_ok; decide +kernel) (by decide)), List.forall_mem_cons.mpr ⟨zj_al_v (zj_V (i := 86) zt_ok (kt_fr_swap l) wd_652 wd_653 wd_654 wd_83 wd_655 rfl (by unfold zn_ok; decide +kernel) (by decide)), List.forall_mem_cons.mpr ⟨zj_al_v (zj_V (i := 74) zt_ok (kt_fr_drop l) wd_640 wd_635 wd_636 wd_83 wd_637 rfl (by unfold zn_ok; decide +kernel) (by decide)), zq_nil⟩⟩⟩⟩
theorem kt_ma_stepOnStack (l : Launch) : zk_me zt_Ts zt_Y zt_cl zt_Zs l (3, 65) yn_ma_stepOnStack prog_7_method_3_code 4 (some .boolean) zo_i fn_ma_stepOnStack := by
  refine zk_run (X := lx_ma_stepOnStack) (code := cd_ma_stepOnStack) 1 zt_ok (by decide) en_ma_stepOnStack (zf_up (L := lf_ma_stepOnStack) ?_) (zc_up (L := lc_ma_stepOnStack) ?_) (zz_up (L := lg_ma_stepOnStack) ?_) (zi_al_up (L := li_ma_stepOnStack) ?_) zr_z_ok (zm_fv_e (by decide))
  · exact zq_nil
  · exact zq_nil
  · exact List.forall_mem_cons.mpr ⟨⟨Or.inl rfl, _, _, _, List.mem_cons_self, Or.inr ⟨_, wd_625⟩⟩, zq_nil⟩
  · exact List.forall_mem_cons.mpr ⟨zj_al_i (zj_V (i := 48) zt_ok (kt_fr_push l) wd_624 wd_608 wd_609 wd_83 wd_610 rfl (by unfold zn_ok; decide +kernel) (by decide)), List.forall_mem_cons.mpr ⟨zj_al_i (zj_V (i := 65) zt_ok (kt_fr_take l) wd_626 wd_627 wd_628 wd_83 wd_629 rfl (by unfold zn_ok; decide +kernel) (by decide)), List.forall_mem_cons.mpr ⟨zj_al_i (zj_V (i := 68) zt_ok (kt_fr_peek l) wd_638 wd_631 wd_632 wd_83 wd_633 rfl (by unfold zn_ok; decide +kernel) (by decide)), List.forall_mem_cons.mpr ⟨zj_al_i (zj_SN (i := 71) zt_ok (kt_mf_widthOf l) wd_639 wd_511 wd_77 wd_512 (by unfold zn_ok; decide +kernel) (by decide)), List.forall_mem_cons.mpr ⟨zj_al_v (zj_V (i := 74) zt_ok (kt_fr_drop l) wd_640 wd_635 wd_636 wd_83 wd_637 rfl (by unfold zn_ok; decide +kernel) (by decide)), List.forall_mem_cons.mpr ⟨zj_al_i (zj_SN (i := 77) zt_ok (kt_mf_isSmall l) wd_641 wd_642 wd_77 wd_643 (by unfold zn_ok; decide +kernel) (by decide)), List.forall_mem_cons.mpr ⟨zj_al_i (zj_V (i := 80) zt_ok (kt_ma_stepOne l) wd_644 wd_646 wd_7 wd_81 wd_647 rfl (by unfold zn_ok; decide +kernel) (by decide)), List.forall_mem_cons.mpr ⟨zj_al_i (zj_V (i := 83) zt_ok (kt_ma_stepTwo l) wd_648 wd_650 wd_8 wd_81 wd_651 rfl (by unfold zn_ok; decide +kernel) (by decide)), zq_nil⟩⟩⟩⟩⟩⟩⟩⟩
theorem kt_fa_is (l : Launch) : zk_me zt_Ts zt_Y zt_cl zt_Zs l (1, 20) yn_fa_is prog_4_method_4_code 4 (some .boolean) zo_i fn_fa_is := by
  refine zk_run (X := lx_fa_is) (code := cd_fa_is) 1 zt_ok (by decide) en_fa_is (zf_up (L := lf_fa_is) ?_) (zc_up (L := lc_fa_is) ?_) (zz_up (L := lg_fa_is) ?_) (zi_al_up (L := li_fa_is) ?_) zr_z_ok (zm_fv_e (by decide))
  · exact List.forall_mem_cons.mpr ⟨lk_fa_15, List.forall_mem_cons.mpr ⟨lk_fa_19, zq_nil⟩⟩
  · exact zq_nil
  · exact zq_nil
  · exact List.forall_mem_cons.mpr ⟨zj_al_i (zj_SN (i := 22) zt_ok (kt_mf_kindOf l) wd_664 wd_490 wd_77 wd_491 (by unfold zn_ok; decide +kernel) (by decide)), List.forall_mem_cons.mpr ⟨zj_al_i (zj_SN (i := 26) zt_ok (kt_mf_partOf l) wd_582 wd_493 wd_77 wd_494 (by unfold zn_ok; decide +kernel) (by decide)), zq_nil⟩⟩
theorem lk_ma_15 : zf_e1 zt_Y zt_cl zt_Ts "MapForge$Machine" 15 3 1 := ⟨rn_ma, tn_ma, 2, rfl, by decide, cs_ma, Or.inl wd_224, ⟨ty_ma, ty_ma_ok⟩, nm_ma, fun h => absurd h (by decide), fun h => absurd h (by decide)⟩
theorem lk_ma_89 : zf_e1 zt_Y zt_cl zt_Ts "MapForge$Machine" 89 1 2 := ⟨rn_pr, tn_pr, 15, rfl, by decide, cs_pr, Or.inl wd_129, ⟨ty_pr, ty_pr_ok⟩, nm_pr, fun h => absurd h (by decide), fun _ => ⟨rfl, rfl⟩⟩
theorem lk_ma_93 : zf_e1 zt_Y zt_cl zt_Ts "MapForge$Machine" 93 1 1 := ⟨rn_pr, tn_pr, 15, rfl, by decide, cs_pr, Or.inl wd_127, ⟨ty_pr, ty_pr_ok⟩, nm_pr, fun _ => ⟨rfl, rfl⟩, fun h => absurd h (by decide)⟩
theorem lk_ma_97 : zf_e1 zt_Y zt_cl zt_Ts "MapForge$Machine" 97 4 4 := ⟨rn_fr, tn_fr, 5, rfl, by decide, cs_fr, Or.inl wd_261, ⟨ty_fr, ty_fr_ok⟩, nm_fr, fun h => absurd h (by decide), fun _ => ⟨rfl, rfl⟩⟩
theorem lk_ma_9 : zf_e1 zt_Y zt_cl zt_Ts "MapForge$Machine" 9 3 0 := ⟨rn_ma, tn_ma, 2, rfl, by decide, cs_ma, Or.inl wd_223, ⟨ty_ma, ty_ma_ok⟩, nm_ma, fun h => absurd h (by decide), fun h => absurd h (by decide)⟩
theorem kt_ma_stepToOther (l : Launch) : zk_me zt_Ts zt_Y zt_cl zt_Zs l (3, 61) yn_ma_stepToOther prog_7_method_6_code 3 (some .boolean) zo_i fn_ma_stepToOther := by
  refine zk_run (X := lx_ma_stepToOther) (code := cd_ma_stepToOther) 1 zt_ok (by decide) en_ma_stepToOther (zf_up (L := lf_ma_stepToOther) ?_) (zc_up (L := lc_ma_stepToOther) ?_) (zz_up (L := lg_ma_stepToOther) ?_) (zi_al_up (L := li_ma_stepToOther) ?_) zr_z_ok (zm_fv_e (by decide))
  · exact List.forall_mem_cons.mpr ⟨lk_ma_15, List.forall_mem_cons.mpr ⟨lk_ma_89, List.forall_mem_cons.mpr ⟨lk_ma_93, List.forall_mem_cons.mpr ⟨lk_ma_97, List.forall_mem_cons.mpr ⟨lk_ma_9, zq_nil⟩⟩⟩⟩⟩
  · exact zq_nil
  · exact zq_nil
  · exact List.forall_mem_cons.mpr ⟨zj_al_i (zj_V (i := 65) zt_ok (kt_fr_take l) wd_626 wd_627 wd_628 wd_83 wd_629 rfl (by unfold zn_ok; decide +kernel) (by decide)), List.forall_mem_cons.mpr ⟨zj_al_i (zj_V (i := 48) zt_ok (kt_fr_push l) wd_624 wd_608 wd_609 wd_83 wd_610 rfl (by unfold zn_ok; decide +kernel) (by decide)), List.forall_mem_cons.mpr ⟨zj_al_i (zj_V (i := 68) zt_ok (kt_fr_peek l) wd_638 wd_631 wd_632 wd_83 wd_633 rfl (by unfold zn_ok; decide +kernel) (by decide)), List.forall_mem_cons.mpr ⟨zj_al_i (zj_V (i := 100) zt_ok (kt_fa_is l) wd_660 wd_661 wd_662 wd_78 wd_663 rfl (by unfold zn_ok; decide +kernel) (by decide)), zq_nil⟩⟩⟩⟩
theorem kt_mf_isOfKind (l : Launch) : zk_me zt_Ts zt_Y zt_cl zt_Zs l (1, 20) yn_mf_isOfKind prog_1_method_32_code 2 (some .boolean) zo_i fn_mf_isOfKind := by
  refine zk_run (X := lx_mf_isOfKind) (code := cd_mf_isOfKind) 1 zt_ok (by decide) en_mf_isOfKind (zf_up (L := lf_mf_isOfKind) ?_) (zc_up (L := lc_mf_isOfKind) ?_) (zz_up (L := lg_mf_isOfKind) ?_) (zi_al_up (L := li_mf_isOfKind) ?_) zr_z_ok (zm_fs_e (by decide))
  · exact zq_nil
  · exact zq_nil
  · exact zq_nil
  · exact List.forall_mem_cons.mpr ⟨zj_al_i (zj_S (i := 85) zt_ok (kt_mf_kindOf l) wd_489 wd_490 wd_77 wd_491 (by unfold zn_ok; decide +kernel) (by decide)), zq_nil⟩
theorem kt_fr_store (l : Launch) : zk_me zt_Ts zt_Y zt_cl zt_Zs l (1, 20) yn_fr_store prog_6_method_10_code 3 none zo_v fn_fr_store := by
  refine zk_run (X := lx_fr_store) (code := cd_fr_store) 1 zt_ok (by decide) en_fr_store (zf_up (L := lf_fr_store) ?_) (zc_up (L := lc_fr_store) ?_) (zz_up (L := lg_fr_store) ?_) (zi_al_up (L := li_fr_store) ?_) zr_v_ok (zm_fv_e (by decide))
  · exact List.forall_mem_cons.mpr ⟨lk_fr_9, zq_nil⟩
  · exact zq_nil
  · exact zq_nil
  · exact List.forall_mem_cons.mpr ⟨zj_al_i (zj_SN (i := 50) zt_ok (kt_mf_widthOf l) wd_611 wd_511 wd_77 wd_512 (by unfold zn_ok; decide +kernel) (by decide)), zq_nil⟩
theorem kt_ma_stepStore (l : Launch) : zk_me zt_Ts zt_Y zt_cl zt_Zs l (2, 42) yn_ma_stepStore prog_7_method_7_code 5 (some .boolean) zo_i fn_ma_stepStore := by
  refine zk_run (X := lx_ma_stepStore) (code := cd_ma_stepStore) 1 zt_ok (by decide) en_ma_stepStore (zf_up (L := lf_ma_stepStore) ?_) (zc_up (L := lc_ma_stepStore) ?_) (zz_up (L := lg_ma_stepStore) ?_) (zi_al_up (L := li_ma_stepStore) ?_) zr_z_ok (zm_fv_e (by decide))
  · exact zq_nil
  · exact zq_nil
  · exact zq_nil
  · exact List.forall_mem_cons.mpr ⟨zj_al_i (zj_V (i := 68) zt_ok (kt_fr_peek l) wd_638 wd_631 wd_632 wd_83 wd_633 rfl (by unfold zn_ok; decide +kernel) (by decide)), List.forall_mem_cons.mpr ⟨zj_al_i (zj_SN (i := 40) zt_ok (kt_mf_localKindOf l) wd_665 wd_506 wd_77 wd_507 (by unfold zn_ok; decide +kernel) (by decide)), List.forall_mem_cons.mpr ⟨zj_al_i (zj_SN (i := 44) zt_ok (kt_mf_isOfKind l) wd_666 wd_667 wd_77 wd_668 (by unfold zn_ok; decide +kernel) (by decide)), List.forall_mem_cons.mpr ⟨zj_al_v (zj_V (i := 74) zt_ok (kt_fr_drop l) wd_640 wd_635 wd_636 wd_83 wd_637 rfl (by unfold zn_ok; decide +kernel) (by decide)), List.forall_mem_cons.mpr ⟨zj_al_v (zj_V (i := 105) zt_ok (kt_fr_store l) wd_673 wd_674 wd_675 wd_83 wd_676 rfl (by unfold zn_ok; decide +kernel) (by decide)), zq_nil⟩⟩⟩⟩⟩
theorem kt_ma_stepJump (l : Launch) : zk_me zt_Ts zt_Y zt_cl zt_Zs l (3, 61) yn_ma_stepJump prog_7_method_8_code 3 (some .boolean) zo_i fn_ma_stepJump := by
  refine zk_run (X := lx_ma_stepJump) (code := cd_ma_stepJump) 1 zt_ok (by decide) en_ma_stepJump (zf_up (L := lf_ma_stepJump) ?_) (zc_up (L := lc_ma_stepJump) ?_) (zz_up (L := lg_ma_stepJump) ?_) (zi_al_up (L := li_ma_stepJump) ?_) zr_z_ok (zm_fv_e (by decide))
  · exact zq_nil
  · exact zq_nil
  · exact zq_nil
  · exact List.forall_mem_cons.mpr ⟨zj_al_i (zj_V (i := 65) zt_ok (kt_fr_take l) wd_626 wd_627 wd_628 wd_83 wd_629 rfl (by unfold zn_ok; decide +kernel) (by decide)), List.forall_mem_cons.mpr ⟨zj_al_i (zj_V (i := 68) zt_ok (kt_fr_peek l) wd_638 wd_631 wd_632 wd_83 wd_633 rfl (by unfold zn_ok; decide +kernel) (by decide)), List.forall_mem_cons.mpr ⟨zj_al_i (zj_SN (i := 109) zt_ok (kt_mf_isObjectOrNull l) wd_681 wd_580 wd_77 wd_581 (by unfold zn_ok; decide +kernel) (by decide)), List.forall_mem_cons.mpr ⟨zj_al_v (zj_V (i := 74) zt_ok (kt_fr_drop l) wd_640 wd_635 wd_636 wd_83 wd_637 rfl (by unfold zn_ok; decide +kernel) (by decide)), zq_nil⟩⟩⟩⟩
theorem kt_fa_isAbove (l : Launch) : zk_me zt_Ts zt_Y zt_cl zt_Zs l (0, 0) yn_fa_isAbove prog_4_method_3_code 3 (some .boolean) zo_i fn_fa_isAbove := by
  refine zk_run (X := lx_fa_isAbove) (code := cd_fa_isAbove) 1 zt_ok (by decide) en_fa_isAbove (zf_up (L := lf_fa_isAbove) ?_) (zc_up (L := lc_fa_isAbove) ?_) (zz_up (L := lg_fa_isAbove) ?_) (zi_al_up (L := li_fa_isAbove) ?_) zr_z_ok (zm_fv_e (by decide))
  · exact List.forall_mem_cons.mpr ⟨lk_fa_9, zq_nil⟩
  · exact zq_nil
  · exact zq_nil
  · exact zq_nil
theorem kt_fr_replaceAll (l : Launch) : zk_me zt_Ts zt_Y zt_cl zt_Zs l (0, 0) yn_fr_replaceAll prog_6_method_11_code 4 none zo_v fn_fr_replaceAll := by
  refine zk_run (X := lx_fr_replaceAll) (code := cd_fr_replaceAll) 1073741824 zt_ok (by decide) en_fr_replaceAll (zf_up (L := lf_fr_replaceAll) ?_) (zc_up (L := lc_fr_replaceAll) ?_) (zz_up (L := lg_fr_replaceAll) ?_) (zi_al_up (L := li_fr_replaceAll) ?_) zr_v_ok (zm_fv_e (by decide))
  · exact List.forall_mem_cons.mpr ⟨lk_fr_9, List.forall_mem_cons.mpr ⟨lk_fr_24, List.forall_mem_cons.mpr ⟨lk_fr_15, zq_nil⟩⟩⟩
  · exact zq_nil
  · exact zq_nil
  · exact zq_nil
theorem kt_pr_placeAt (l : Launch) : zk_me zt_Ts zt_Y zt_cl zt_Zs l (0, 0) yn_pr_placeAt prog_8_method_6_code 3 (some .int) zo_i fn_pr_placeAt := by
  refine zk_run (X := lx_pr_placeAt) (code := cd_pr_placeAt) 1073741824 zt_ok (by decide) en_pr_placeAt (zf_up (L := lf_pr_placeAt) ?_) (zc_up (L := lc_pr_placeAt) ?_) (zz_up (L := lg_pr_placeAt) ?_) (zi_al_up (L := li_pr_placeAt) ?_) zr_i_ok (zm_fv_e (by decide))
  · exact List.forall_mem_cons.mpr ⟨lk_pr_53, List.forall_mem_cons.mpr ⟨lk_pr_24, zq_nil⟩⟩
  · exact zq_nil
  · exact zq_nil
  · exact zq_nil
theorem lk_ma_125 : zf_e1 zt_Y zt_cl zt_Ts "MapForge$Machine" 125 1 0 := ⟨rn_pr, tn_pr, 15, rfl, by decide, cs_pr, Or.inl wd_125, ⟨ty_pr, ty_pr_ok⟩, nm_pr, fun _ => ⟨rfl, rfl⟩, fun h => absurd h (by decide)⟩
theorem lk_ma_19 : zf_e1 zt_Y zt_cl zt_Ts "MapForge$Machine" 19 1 5 := ⟨rn_pr, tn_pr, 15, rfl, by decide, cs_pr, Or.inl wd_135, ⟨ty_pr, ty_pr_ok⟩, nm_pr, fun h => absurd h (by decide), fun h => absurd h (by decide)⟩
theorem lk_ma_37 : zf_e1 zt_Y zt_cl zt_Ts "MapForge$Machine" 37 1 6 := ⟨rn_pr, tn_pr, 15, rfl, by decide, cs_pr, Or.inl wd_140, ⟨ty_pr, ty_pr_ok⟩, nm_pr, fun h => absurd h (by decide), fun h => absurd h (by decide)⟩
theorem kt_ma_stepInit (l : Launch) : zk_me zt_Ts zt_Y zt_cl zt_Zs l (2, 40) yn_ma_stepInit prog_7_method_10_code 5 (some .boolean) zo_i fn_ma_stepInit := by
  refine zk_run (X := lx_ma_stepInit) (code := cd_ma_stepInit) 1 zt_ok (by decide) en_ma_stepInit (zf_up (L := lf_ma_stepInit) ?_) (zc_up (L := lc_ma_stepInit) ?_) (zz_up (L := lg_ma_stepInit) ?_) (zi_al_up (L := li_ma_stepInit) ?_) zr_z_ok (zm_fv_e (by decide))
  · exact List.forall_mem_cons.mpr ⟨lk_ma_15, List.forall_mem_cons.mpr ⟨lk_ma_125, List.forall_mem_cons.mpr ⟨lk_ma_9, List.forall_mem_cons.mpr ⟨lk_ma_97, List.forall_mem_cons.mpr ⟨lk_ma_19, List.forall_mem_cons.mpr ⟨lk_ma_37, zq_nil⟩⟩⟩⟩⟩⟩
  · exact zq_nil
  · exact zq_nil
  · exact List.forall_mem_cons.mpr ⟨zj_al_i (zj_V (i := 128) zt_ok (kt_fa_isAbove l) wd_691 wd_692 wd_693 wd_78 wd_694 rfl (by unfold zn_ok; decide +kernel) (by decide)), List.forall_mem_cons.mpr ⟨zj_al_v (zj_V (i := 74) zt_ok (kt_fr_drop l) wd_640 wd_635 wd_636 wd_83 wd_637 rfl (by unfold zn_ok; decide +kernel) (by decide)), List.forall_mem_cons.mpr ⟨zj_al_i (zj_SN (i := 115) zt_ok (kt_mf_typeOf l) wd_686 wd_564 wd_77 wd_565 (by unfold zn_ok; decide +kernel) (by decide)), List.forall_mem_cons.mpr ⟨zj_al_v (zj_V (i := 131) zt_ok (kt_fr_replaceAll l) wd_695 wd_696 wd_697 wd_83 wd_698 rfl (by unfold zn_ok; decide +kernel) (by decide)), List.forall_mem_cons.mpr ⟨zj_al_i (zj_SN (i := 134) zt_ok (kt_mf_kindOf l) wd_699 wd_490 wd_77 wd_491 (by unfold zn_ok; decide +kernel) (by decide)), List.forall_mem_cons.mpr ⟨zj_al_i (zj_SN (i := 137) zt_ok (kt_mf_partOf l) wd_700 wd_493 wd_77 wd_494 (by unfold zn_ok; decide +kernel) (by decide)), List.forall_mem_cons.mpr ⟨zj_al_i (zj_V (i := 140) zt_ok (kt_pr_placeAt l) wd_701 wd_702 wd_703 wd_79 wd_704 rfl (by unfold zn_ok; decide +kernel) (by decide)), zq_nil⟩⟩⟩⟩⟩⟩⟩
theorem lk_ma_112 : zf_e1 zt_Y zt_cl zt_Ts "MapForge$Machine" 112 1 8 := ⟨rn_pr, tn_pr, 15, rfl, by decide, cs_pr, Or.inl wd_149, ⟨ty_pr, ty_pr_ok⟩, nm_pr, fun h => absurd h (by decide), fun h => absurd h (by decide)⟩
theorem lk_ma_122 : zf_e1 zt_Y zt_cl zt_Ts "MapForge$Machine" 122 1 7 := ⟨rn_pr, tn_pr, 15, rfl, by decide, cs_pr, Or.inl wd_145, ⟨ty_pr, ty_pr_ok⟩, nm_pr, fun h => absurd h (by decide), fun h => absurd h (by decide)⟩
theorem kt_ma_stepObject (l : Launch) : zk_me zt_Ts zt_Y zt_cl zt_Zs l (3, 64) yn_ma_stepObject prog_7_method_9_code 6 (some .boolean) zo_i fn_ma_stepObject := by
  refine zk_run (X := lx_ma_stepObject) (code := cd_ma_stepObject) 1 zt_ok (by decide) en_ma_stepObject (zf_up (L := lf_ma_stepObject) ?_) (zc_up (L := lc_ma_stepObject) ?_) (zz_up (L := lg_ma_stepObject) ?_) (zi_al_up (L := li_ma_stepObject) ?_) zr_z_ok (zm_fv_e (by decide))
  · exact List.forall_mem_cons.mpr ⟨lk_ma_15, List.forall_mem_cons.mpr ⟨lk_ma_19, List.forall_mem_cons.mpr ⟨lk_ma_37, List.forall_mem_cons.mpr ⟨lk_ma_112, List.forall_mem_cons.mpr ⟨lk_ma_9, List.forall_mem_cons.mpr ⟨lk_ma_122, zq_nil⟩⟩⟩⟩⟩⟩
  · exact zq_nil
  · exact zq_nil
  · exact List.forall_mem_cons.mpr ⟨zj_al_i (zj_SN (i := 115) zt_ok (kt_mf_typeOf l) wd_686 wd_564 wd_77 wd_565 (by unfold zn_ok; decide +kernel) (by decide)), List.forall_mem_cons.mpr ⟨zj_al_i (zj_V (i := 48) zt_ok (kt_fr_push l) wd_624 wd_608 wd_609 wd_83 wd_610 rfl (by unfold zn_ok; decide +kernel) (by decide)), List.forall_mem_cons.mpr ⟨zj_al_i (zj_V (i := 68) zt_ok (kt_fr_peek l) wd_638 wd_631 wd_632 wd_83 wd_633 rfl (by unfold zn_ok; decide +kernel) (by decide)), List.forall_mem_cons.mpr ⟨zj_al_i (zj_V (i := 119) zt_ok (kt_ma_stepInit l) wd_687 wd_689 wd_13 wd_81 wd_690 rfl (by unfold zn_ok; decide +kernel) (by decide)), List.forall_mem_cons.mpr ⟨zj_al_i (zj_V (i := 100) zt_ok (kt_fa_is l) wd_660 wd_661 wd_662 wd_78 wd_663 rfl (by unfold zn_ok; decide +kernel) (by decide)), List.forall_mem_cons.mpr ⟨zj_al_v (zj_V (i := 74) zt_ok (kt_fr_drop l) wd_640 wd_635 wd_636 wd_83 wd_637 rfl (by unfold zn_ok; decide +kernel) (by decide)), zq_nil⟩⟩⟩⟩⟩⟩
theorem lk_ma_32 : zf_e1 zt_Y zt_cl zt_Ts "MapForge$Machine" 32 4 0 := ⟨rn_fr, tn_fr, 5, rfl, by decide, cs_fr, Or.inl wd_244, ⟨ty_fr, ty_fr_ok⟩, nm_fr, fun h => absurd h (by decide), fun h => absurd h (by decide)⟩
theorem kt_ma_step (l : Launch) : zk_me zt_Ts zt_Y zt_cl zt_Zs l (4, 89) yn_ma_step prog_7_method_2_code 5 (some .boolean) zo_i fn_ma_step := by
  refine zk_run (X := lx_ma_step) (code := cd_ma_step) 1 zt_ok (by decide) en_ma_step (zf_up (L := lf_ma_step) ?_) (zc_up (L := lc_ma_step) ?_) (zz_up (L := lg_ma_step) ?_) (zi_al_up (L := li_ma_step) ?_) zr_z_ok (zm_fv_e (by decide))
  · exact List.forall_mem_cons.mpr ⟨lk_ma_15, List.forall_mem_cons.mpr ⟨lk_ma_19, List.forall_mem_cons.mpr ⟨lk_ma_32, List.forall_mem_cons.mpr ⟨lk_ma_37, zq_nil⟩⟩⟩⟩
  · exact zq_nil
  · exact zq_nil
  · exact List.forall_mem_cons.mpr ⟨zj_al_i (zj_V (i := 25) zt_ok (kt_ma_stepOnStack l) wd_620 wd_622 wd_6 wd_81 wd_623 rfl (by unfold zn_ok; decide +kernel) (by decide)), List.forall_mem_cons.mpr ⟨zj_al_i (zj_V (i := 29) zt_ok (kt_ma_stepToOther l) wd_656 wd_658 wd_9 wd_81 wd_659 rfl (by unfold zn_ok; decide +kernel) (by decide)), List.forall_mem_cons.mpr ⟨zj_al_i (zj_SN (i := 40) zt_ok (kt_mf_localKindOf l) wd_665 wd_506 wd_77 wd_507 (by unfold zn_ok; decide +kernel) (by decide)), List.forall_mem_cons.mpr ⟨zj_al_i (zj_SN (i := 44) zt_ok (kt_mf_isOfKind l) wd_666 wd_667 wd_77 wd_668 (by unfold zn_ok; decide +kernel) (by decide)), List.forall_mem_cons.mpr ⟨zj_al_i (zj_V (i := 48) zt_ok (kt_fr_push l) wd_624 wd_608 wd_609 wd_83 wd_610 rfl (by unfold zn_ok; decide +kernel) (by decide)), List.forall_mem_cons.mpr ⟨zj_al_i (zj_V (i := 52) zt_ok (kt_ma_stepStore l) wd_669 wd_671 wd_10 wd_81 wd_672 rfl (by unfold zn_ok; decide +kernel) (by decide)), List.forall_mem_cons.mpr ⟨zj_al_i (zj_V (i := 56) zt_ok (kt_ma_stepJump l) wd_677 wd_679 wd_11 wd_81 wd_680 rfl (by unfold zn_ok; decide +kernel) (by decide)), List.forall_mem_cons.mpr ⟨zj_al_i (zj_V (i := 59) zt_ok (kt_ma_stepObject l) wd_682 wd_684 wd_12 wd_81 wd_685 rfl (by unfold zn_ok; decide +kernel) (by decide)), zq_nil⟩⟩⟩⟩⟩⟩⟩⟩
theorem kt_mf_isEnd (l : Launch) : zk_me zt_Ts zt_Y zt_cl zt_Zs l (0, 0) yn_mf_isEnd prog_1_method_24_code 1 (some .boolean) zo_i fn_mf_isEnd := by
  refine zk_run (X := lx_mf_isEnd) (code := cd_mf_isEnd) 1 zt_ok (by decide) en_mf_isEnd (zf_up (L := lf_mf_isEnd) ?_) (zc_up (L := lc_mf_isEnd) ?_) (zz_up (L := lg_mf_isEnd) ?_) (zi_al_up (L := li_mf_isEnd) ?_) zr_z_ok (zm_fs_e (by decide))
  · exact zq_nil
  · exact zq_nil
  · exact zq_nil
  · exact zq_nil
theorem lk_fl_40 : zf_e1 zt_Y zt_cl zt_Ts "MapForge$Flow" 40 5 2 := ⟨rn_fl, tn_fl, 10, rfl, by decide, cs_fl, Or.inl wd_277, ⟨ty_fl, ty_fl_ok⟩, nm_fl, fun h => absurd h (by decide), fun h => absurd h (by decide)⟩
theorem lk_fl_106 : zf_e1 zt_Y zt_cl zt_Ts "MapForge$Flow" 106 1 5 := ⟨rn_pr, tn_pr, 15, rfl, by decide, cs_pr, Or.inl wd_137, ⟨ty_pr, ty_pr_ok⟩, nm_pr, fun h => absurd h (by decide), fun h => absurd h (by decide)⟩
theorem lk_fl_112 : zf_e1 zt_Y zt_cl zt_Ts "MapForge$Flow" 112 1 7 := ⟨rn_pr, tn_pr, 15, rfl, by decide, cs_pr, Or.inl wd_144, ⟨ty_pr, ty_pr_ok⟩, nm_pr, fun h => absurd h (by decide), fun h => absurd h (by decide)⟩
theorem kt_fl_leave (l : Launch) : zk_me zt_Ts zt_Y zt_cl zt_Zs l (5, 113) yn_fl_leave prog_5_method_5_code 3 (some .boolean) zo_i fn_fl_leave := by
  refine zk_run (X := lx_fl_leave) (code := cd_fl_leave) 1 zt_ok (by decide) en_fl_leave (zf_up (L := lf_fl_leave) ?_) (zc_up (L := lc_fl_leave) ?_) (zz_up (L := lg_fl_leave) ?_) (zi_al_up (L := li_fl_leave) ?_) zr_z_ok (zm_fv_e (by decide))
  · exact List.forall_mem_cons.mpr ⟨lk_fl_28, List.forall_mem_cons.mpr ⟨lk_fl_11, List.forall_mem_cons.mpr ⟨lk_fl_40, List.forall_mem_cons.mpr ⟨lk_fl_36, List.forall_mem_cons.mpr ⟨lk_fl_106, List.forall_mem_cons.mpr ⟨lk_fl_112, zq_nil⟩⟩⟩⟩⟩⟩
  · exact zq_nil
  · exact zq_nil
  · exact List.forall_mem_cons.mpr ⟨zj_al_v (zj_V (i := 98) zt_ok (kt_fr_takeOver l) wd_584 wd_585 wd_586 wd_83 wd_587 rfl (by unfold zn_ok; decide +kernel) (by decide)), List.forall_mem_cons.mpr ⟨zj_al_i (zj_V (i := 101) zt_ok (kt_ma_step l) wd_616 wd_617 wd_618 wd_81 wd_619 rfl (by unfold zn_ok; decide +kernel) (by decide)), List.forall_mem_cons.mpr ⟨zj_al_i (zj_SN (i := 109) zt_ok (kt_mf_isJump l) wd_705 wd_514 wd_77 wd_515 (by unfold zn_ok; decide +kernel) (by decide)), List.forall_mem_cons.mpr ⟨zj_al_i (zj_V (i := 76) zt_ok (kt_fl_arrive l) wd_567 wd_569 wd_2 wd_82 wd_570 rfl (by unfold zn_ok; decide +kernel) (by decide)), List.forall_mem_cons.mpr ⟨zj_al_i (zj_SN (i := 115) zt_ok (kt_mf_isEnd l) wd_706 wd_707 wd_77 wd_708 (by unfold zn_ok; decide +kernel) (by decide)), zq_nil⟩⟩⟩⟩⟩
theorem kt_pr_markRows (l : Launch) : zk_me zt_Ts zt_Y zt_cl zt_Zs l (1, 20) yn_pr_markRows prog_8_method_7_code 3 none zo_v fn_pr_markRows := by
  refine zk_run (X := lx_pr_markRows) (code := cd_pr_markRows) 1073741824 zt_ok (by decide) en_pr_markRows (zf_up (L := lf_pr_markRows) ?_) (zc_up (L := lc_pr_markRows) ?_) (zz_up (L := lg_pr_markRows) ?_) (zi_al_up (L := li_pr_markRows) ?_) zr_v_ok (zm_fv_e (by decide))
  · exact List.forall_mem_cons.mpr ⟨lk_pr_53, List.forall_mem_cons.mpr ⟨lk_pr_15, List.forall_mem_cons.mpr ⟨lk_pr_21, List.forall_mem_cons.mpr ⟨lk_pr_56, List.forall_mem_cons.mpr ⟨lk_pr_33, zq_nil⟩⟩⟩⟩⟩
  · exact zq_nil
  · exact zq_nil
  · exact List.forall_mem_cons.mpr ⟨zj_al_i (zj_SN (i := 70) zt_ok (kt_mf_isEnd l) wd_717 wd_707 wd_77 wd_708 (by unfold zn_ok; decide +kernel) (by decide)), List.forall_mem_cons.mpr ⟨zj_al_i (zj_SN (i := 63) zt_ok (kt_mf_isJump l) wd_524 wd_514 wd_77 wd_515 (by unfold zn_ok; decide +kernel) (by decide)), zq_nil⟩⟩
theorem kt_fr_hasRawThisInLocal (l : Launch) : zk_me zt_Ts zt_Y zt_cl zt_Zs l (0, 0) yn_fr_hasRawThisInLocal prog_6_method_12_code 2 (some .boolean) zo_i fn_fr_hasRawThisInLocal := by
  refine zk_run (X := lx_fr_hasRawThisInLocal) (code := cd_fr_hasRawThisInLocal) 1073741824 zt_ok (by decide) en_fr_hasRawThisInLocal (zf_up (L := lf_fr_hasRawThisInLocal) ?_) (zc_up (L := lc_fr_hasRawThisInLocal) ?_) (zz_up (L := lg_fr_hasRawThisInLocal) ?_) (zi_al_up (L := li_fr_hasRawThisInLocal) ?_) zr_z_ok (zm_fv_e (by decide))
  · exact List.forall_mem_cons.mpr ⟨lk_fr_9, zq_nil⟩
  · exact zq_nil
  · exact zq_nil
  · exact zq_nil
theorem lk_fl_17 : zf_e1 zt_Y zt_cl zt_Ts "MapForge$Flow" 17 5 4 := ⟨rn_fl, tn_fl, 10, rfl, by decide, cs_fl, Or.inl wd_281, ⟨ty_fl, ty_fl_ok⟩, nm_fl, fun h => absurd h (by decide), fun h => absurd h (by decide)⟩
theorem kt_fl_isWhole (l : Launch) : zk_me zt_Ts zt_Y zt_cl zt_Zs l (2, 42) yn_fl_isWhole prog_5_method_8_code 2 (some .boolean) zo_i fn_fl_isWhole := by
  refine zk_run (X := lx_fl_isWhole) (code := cd_fl_isWhole) 1073741824 zt_ok (by decide) en_fl_isWhole (zf_up (L := lf_fl_isWhole) ?_) (zc_up (L := lc_fl_isWhole) ?_) (zz_up (L := lg_fl_isWhole) ?_) (zi_al_up (L := li_fl_isWhole) ?_) zr_z_ok (zm_fv_e (by decide))
  · exact List.forall_mem_cons.mpr ⟨lk_fl_36, List.forall_mem_cons.mpr ⟨lk_fl_17, List.forall_mem_cons.mpr ⟨lk_fl_55, List.forall_mem_cons.mpr ⟨lk_fl_21, List.forall_mem_cons.mpr ⟨lk_fl_11, List.forall_mem_cons.mpr ⟨lk_fl_124, zq_nil⟩⟩⟩⟩⟩⟩
  · exact zq_nil
  · exact zq_nil
  · exact List.forall_mem_cons.mpr ⟨zj_al_v (zj_V (i := 139) zt_ok (kt_pr_markRows l) wd_713 wd_714 wd_715 wd_79 wd_716 rfl (by unfold zn_ok; decide +kernel) (by decide)), List.forall_mem_cons.mpr ⟨zj_al_i (zj_V (i := 143) zt_ok (kt_fr_hasRawThisInLocal l) wd_718 wd_719 wd_720 wd_83 wd_721 rfl (by unfold zn_ok; decide +kernel) (by decide)), zq_nil⟩⟩
theorem lk_fl_44 : zf_e1 zt_Y zt_cl zt_Ts "MapForge$Flow" 44 5 8 := ⟨rn_fl, tn_fl, 10, rfl, by decide, cs_fl, Or.inl wd_286, ⟨ty_fl, ty_fl_ok⟩, nm_fl, fun h => absurd h (by decide), fun _ => ⟨rfl, rfl⟩⟩
theorem lk_fl_48 : zf_e1 zt_Y zt_cl zt_Ts "MapForge$Flow" 48 5 9 := ⟨rn_fl, tn_fl, 10, rfl, by decide, cs_fl, Or.inl wd_288, ⟨ty_fl, ty_fl_ok⟩, nm_fl, fun h => absurd h (by decide), fun _ => ⟨rfl, rfl⟩⟩
theorem kt_fl_isRight (l : Launch) : zk_me zt_Ts zt_Y zt_cl zt_Zs l (6, 135) yn_fl_isRight prog_5_method_2_code 4 (some .boolean) zo_i fn_fl_isRight := by
  refine zk_run (X := lx_fl_isRight) (code := cd_fl_isRight) 1073741824 zt_ok (by decide) en_fl_isRight (zf_up (L := lf_fl_isRight) ?_) (zc_up (L := lc_fl_isRight) ?_) (zz_up (L := lg_fl_isRight) ?_) (zi_al_up (L := li_fl_isRight) ?_) zr_z_ok (zm_fv_e (by decide))
  · exact List.forall_mem_cons.mpr ⟨lk_fl_44, List.forall_mem_cons.mpr ⟨lk_fl_48, List.forall_mem_cons.mpr ⟨lk_fl_36, List.forall_mem_cons.mpr ⟨lk_fl_55, List.forall_mem_cons.mpr ⟨lk_fl_24, zq_nil⟩⟩⟩⟩⟩
  · exact List.forall_mem_cons.mpr ⟨wd_591, zq_nil⟩
  · exact zq_nil
  · exact List.forall_mem_cons.mpr ⟨zj_al_v (zj_V (i := 51) zt_ok (kt_fl_begin l) wd_548 wd_550 wd_1 wd_82 wd_551 rfl (by unfold zn_ok; decide +kernel) (by decide)), List.forall_mem_cons.mpr ⟨zj_al_i (zj_V (i := 61) zt_ok (kt_fl_leaveToHandlers l) wd_592 wd_594 wd_4 wd_82 wd_595 rfl (by unfold zn_ok; decide +kernel) (by decide)), List.forall_mem_cons.mpr ⟨zj_al_i (zj_V (i := 65) zt_ok (kt_fl_leave l) wd_612 wd_614 wd_5 wd_82 wd_615 rfl (by unfold zn_ok; decide +kernel) (by decide)), List.forall_mem_cons.mpr ⟨zj_al_i (zj_V (i := 68) zt_ok (kt_fl_isWhole l) wd_709 wd_711 wd_14 wd_82 wd_712 rfl (by unfold zn_ok; decide +kernel) (by decide)), zq_nil⟩⟩⟩⟩
theorem lk_tl_15 : zf_e1 zt_Y zt_cl zt_Ts "MapForge$TypeList" 15 6 1 := ⟨rn_tl, tn_tl, 3, rfl, by decide, cs_tl, Or.inl wd_326, ⟨ty_tl, ty_tl_ok⟩, nm_tl, fun _ => ⟨rfl, rfl⟩, fun h => absurd h (by decide)⟩
theorem lk_tl_19 : zf_e1 zt_Y zt_cl zt_Ts "MapForge$TypeList" 19 6 2 := ⟨rn_tl, tn_tl, 3, rfl, by decide, cs_tl, Or.inl wd_329, ⟨ty_tl, ty_tl_ok⟩, nm_tl, fun _ => ⟨rfl, rfl⟩, fun h => absurd h (by decide)⟩
theorem kt_tl_empty (l : Launch) : zk_me zt_Ts zt_Y zt_cl zt_Zs l (0, 0) yn_tl_empty prog_10_method_2_code 1 none zo_v fn_tl_empty := by
  refine zk_run (X := lx_tl_empty) (code := cd_tl_empty) 1 zt_ok (by decide) en_tl_empty (zf_up (L := lf_tl_empty) ?_) (zc_up (L := lc_tl_empty) ?_) (zz_up (L := lg_tl_empty) ?_) (zi_al_up (L := li_tl_empty) ?_) zr_v_ok (zm_fv_e (by decide))
  · exact List.forall_mem_cons.mpr ⟨lk_tl_15, List.forall_mem_cons.mpr ⟨lk_tl_19, zq_nil⟩⟩
  · exact zq_nil
  · exact zq_nil
  · exact zq_nil
theorem lk_tl_9 : zf_e1 zt_Y zt_cl zt_Ts "MapForge$TypeList" 9 6 0 := ⟨rn_tl, tn_tl, 3, rfl, by decide, cs_tl, Or.inl wd_324, ⟨ty_tl, ty_tl_ok⟩, nm_tl, fun h => absurd h (by decide), fun h => absurd h (by decide)⟩
theorem kt_tl_append (l : Launch) : zk_me zt_Ts zt_Y zt_cl zt_Zs l (1, 20) yn_tl_append prog_10_method_3_code 3 (some .boolean) zo_i fn_tl_append := by
  refine zk_run (X := lx_tl_append) (code := cd_tl_append) 1 zt_ok (by decide) en_tl_append (zf_up (L := lf_tl_append) ?_) (zc_up (L := lc_tl_append) ?_) (zz_up (L := lg_tl_append) ?_) (zi_al_up (L := li_tl_append) ?_) zr_z_ok (zm_fv_e (by decide))
  · exact List.forall_mem_cons.mpr ⟨lk_tl_19, List.forall_mem_cons.mpr ⟨lk_tl_9, List.forall_mem_cons.mpr ⟨lk_tl_15, zq_nil⟩⟩⟩
  · exact zq_nil
  · exact zq_nil
  · exact List.forall_mem_cons.mpr ⟨zj_al_i (zj_SN (i := 22) zt_ok (kt_mf_widthOf l) wd_739 wd_511 wd_77 wd_512 (by unfold zn_ok; decide +kernel) (by decide)), zq_nil⟩
theorem kt_tl_drop (l : Launch) : zk_me zt_Ts zt_Y zt_cl zt_Zs l (1, 20) yn_tl_drop prog_10_method_4_code 1 none zo_v fn_tl_drop := by
  refine zk_run (X := lx_tl_drop) (code := cd_tl_drop) 1 zt_ok (by decide) en_tl_drop (zf_up (L := lf_tl_drop) ?_) (zc_up (L := lc_tl_drop) ?_) (zz_up (L := lg_tl_drop) ?_) (zi_al_up (L := li_tl_drop) ?_) zr_v_ok (zm_fv_e (by decide))
  · exact List.forall_mem_cons.mpr ⟨lk_tl_15, List.forall_mem_cons.mpr ⟨lk_tl_19, List.forall_mem_cons.mpr ⟨lk_tl_9, zq_nil⟩⟩⟩
  · exact zq_nil
  · exact zq_nil
  · exact List.forall_mem_cons.mpr ⟨zj_al_i (zj_SN (i := 22) zt_ok (kt_mf_widthOf l) wd_739 wd_511 wd_77 wd_512 (by unfold zn_ok; decide +kernel) (by decide)), zq_nil⟩
theorem lk_tl_35 : zf_e1 zt_Y zt_cl zt_Ts "MapForge$TypeList" 35 4 0 := ⟨rn_fr, tn_fr, 5, rfl, by decide, cs_fr, Or.inl wd_245, ⟨ty_fr, ty_fr_ok⟩, nm_fr, fun h => absurd h (by decide), fun h => absurd h (by decide)⟩
theorem kt_tl_gather (l : Launch) : zk_me zt_Ts zt_Y zt_cl zt_Zs l (2, 42) yn_tl_gather prog_10_method_6_code 3 none zo_v fn_tl_gather := by
  refine zk_run (X := lx_tl_gather) (code := cd_tl_gather) 1073741824 zt_ok (by decide) en_tl_gather (zf_up (L := lf_tl_gather) ?_) (zc_up (L := lc_tl_gather) ?_) (zz_up (L := lg_tl_gather) ?_) (zi_al_up (L := li_tl_gather) ?_) zr_v_ok (zm_fv_e (by decide))
  · exact List.forall_mem_cons.mpr ⟨lk_tl_35, List.forall_mem_cons.mpr ⟨lk_tl_15, List.forall_mem_cons.mpr ⟨lk_tl_9, zq_nil⟩⟩⟩
  · exact zq_nil
  · exact zq_nil
  · exact List.forall_mem_cons.mpr ⟨zj_al_v (zj_V (i := 32) zt_ok (kt_tl_empty l) wd_731 wd_732 wd_733 wd_85 wd_734 rfl (by unfold zn_ok; decide +kernel) (by decide)), List.forall_mem_cons.mpr ⟨zj_al_i (zj_V (i := 40) zt_ok (kt_tl_append l) wd_735 wd_736 wd_737 wd_85 wd_738 rfl (by unfold zn_ok; decide +kernel) (by decide)), List.forall_mem_cons.mpr ⟨zj_al_i (zj_SN (i := 22) zt_ok (kt_mf_widthOf l) wd_739 wd_511 wd_77 wd_512 (by unfold zn_ok; decide +kernel) (by decide)), List.forall_mem_cons.mpr ⟨zj_al_v (zj_V (i := 44) zt_ok (kt_tl_drop l) wd_740 wd_741 wd_742 wd_85 wd_743 rfl (by unfold zn_ok; decide +kernel) (by decide)), zq_nil⟩⟩⟩⟩
theorem kt_tl_sharedStart (l : Launch) : zk_me zt_Ts zt_Y zt_cl zt_Zs l (0, 0) yn_tl_sharedStart prog_10_method_8_code 3 (some .int) zo_i fn_tl_sharedStart := by
  refine zk_run (X := lx_tl_sharedStart) (code := cd_tl_sharedStart) 1073741824 zt_ok (by decide) en_tl_sharedStart (zf_up (L := lf_tl_sharedStart) ?_) (zc_up (L := lc_tl_sharedStart) ?_) (zz_up (L := lg_tl_sharedStart) ?_) (zi_al_up (L := li_tl_sharedStart) ?_) zr_i_ok (zm_fv_e (by decide))
  · exact List.forall_mem_cons.mpr ⟨lk_tl_15, List.forall_mem_cons.mpr ⟨lk_tl_9, zq_nil⟩⟩
  · exact zq_nil
  · exact zq_nil
  · exact zq_nil
theorem lk_by_15 : zf_e1 zt_Y zt_cl zt_Ts "MapForge$Bytes" 15 2 1 := ⟨rn_by, tn_by, 2, rfl, by decide, cs_by, Or.inl wd_208, ⟨ty_by, ty_by_ok⟩, nm_by, fun _ => ⟨rfl, rfl⟩, fun h => absurd h (by decide)⟩
theorem lk_by_9 : zf_e1 zt_Y zt_cl zt_Ts "MapForge$Bytes" 9 2 0 := ⟨rn_by, tn_by, 2, rfl, by decide, cs_by, Or.inl wd_205, ⟨ty_by, ty_by_ok⟩, nm_by, fun h => absurd h (by decide), fun h => absurd h (by decide)⟩
theorem kt_by_put (l : Launch) : zk_me zt_Ts zt_Y zt_cl zt_Zs l (0, 0) yn_by_put prog_2_method_2_code 2 none zo_v fn_by_put := by
  refine zk_run (X := lx_by_put) (code := cd_by_put) 1 zt_ok (by decide) en_by_put (zf_up (L := lf_by_put) ?_) (zc_up (L := lc_by_put) ?_) (zz_up (L := lg_by_put) ?_) (zi_al_up (L := li_by_put) ?_) zr_v_ok (zm_fv_e (by decide))
  · exact List.forall_mem_cons.mpr ⟨lk_by_15, List.forall_mem_cons.mpr ⟨lk_by_9, zq_nil⟩⟩
  · exact zq_nil
  · exact zq_nil
  · exact zq_nil
theorem kt_by_putTwo (l : Launch) : zk_me zt_Ts zt_Y zt_cl zt_Zs l (1, 21) yn_by_putTwo prog_2_method_3_code 2 none zo_v fn_by_putTwo := by
  refine zk_run (X := lx_by_putTwo) (code := cd_by_putTwo) 1 zt_ok (by decide) en_by_putTwo (zf_up (L := lf_by_putTwo) ?_) (zc_up (L := lc_by_putTwo) ?_) (zz_up (L := lg_by_putTwo) ?_) (zi_al_up (L := li_by_putTwo) ?_) zr_v_ok (zm_fv_e (by decide))
  · exact zq_nil
  · exact zq_nil
  · exact zq_nil
  · exact List.forall_mem_cons.mpr ⟨zj_al_v (zj_V (i := 19) zt_ok (kt_by_put l) wd_770 wd_763 wd_764 wd_80 wd_765 rfl (by unfold zn_ok; decide +kernel) (by decide)), zq_nil⟩
theorem lk_wr_31 : zf_e1 zt_Y zt_cl zt_Ts "MapForge$Writer" 31 7 5 := ⟨rn_wr, tn_wr, 6, rfl, by decide, cs_wr, Or.inl wd_344, ⟨ty_wr, ty_wr_ok⟩, nm_wr, fun h => absurd h (by decide), fun h => absurd h (by decide)⟩
theorem kt_wr_writeHead (l : Launch) : zk_me zt_Ts zt_Y zt_cl zt_Zs l (2, 42) yn_wr_writeHead prog_11_method_4_code 4 none zo_v fn_wr_writeHead := by
  refine zk_run (X := lx_wr_writeHead) (code := cd_wr_writeHead) 1 zt_ok (by decide) en_wr_writeHead (zf_up (L := lf_wr_writeHead) ?_) (zc_up (L := lc_wr_writeHead) ?_) (zz_up (L := lg_wr_writeHead) ?_) (zi_al_up (L := li_wr_writeHead) ?_) zr_v_ok (zm_fv_e (by decide))
  · exact List.forall_mem_cons.mpr ⟨lk_wr_31, zq_nil⟩
  · exact zq_nil
  · exact zq_nil
  · exact List.forall_mem_cons.mpr ⟨zj_al_v (zj_V (i := 108) zt_ok (kt_by_put l) wd_762 wd_763 wd_764 wd_80 wd_765 rfl (by unfold zn_ok; decide +kernel) (by decide)), List.forall_mem_cons.mpr ⟨zj_al_v (zj_V (i := 111) zt_ok (kt_by_putTwo l) wd_766 wd_767 wd_768 wd_80 wd_769 rfl (by unfold zn_ok; decide +kernel) (by decide)), zq_nil⟩⟩
theorem kt_by_putType (l : Launch) : zk_me zt_Ts zt_Y zt_cl zt_Zs l (2, 42) yn_by_putType prog_2_method_4_code 3 none zo_v fn_by_putType := by
  refine zk_run (X := lx_by_putType) (code := cd_by_putType) 1 zt_ok (by decide) en_by_putType (zf_up (L := lf_by_putType) ?_) (zc_up (L := lc_by_putType) ?_) (zz_up (L := lg_by_putType) ?_) (zi_al_up (L := li_by_putType) ?_) zr_v_ok (zm_fv_e (by decide))
  · exact zq_nil
  · exact zq_nil
  · exact zq_nil
  · exact List.forall_mem_cons.mpr ⟨zj_al_i (zj_SN (i := 23) zt_ok (kt_mf_kindOf l) wd_775 wd_490 wd_77 wd_491 (by unfold zn_ok; decide +kernel) (by decide)), List.forall_mem_cons.mpr ⟨zj_al_v (zj_V (i := 19) zt_ok (kt_by_put l) wd_770 wd_763 wd_764 wd_80 wd_765 rfl (by unfold zn_ok; decide +kernel) (by decide)), List.forall_mem_cons.mpr ⟨zj_al_i (zj_SN (i := 27) zt_ok (kt_mf_partOf l) wd_776 wd_493 wd_77 wd_494 (by unfold zn_ok; decide +kernel) (by decide)), List.forall_mem_cons.mpr ⟨zj_al_v (zj_V (i := 30) zt_ok (kt_by_putTwo l) wd_777 wd_767 wd_768 wd_80 wd_769 rfl (by unfold zn_ok; decide +kernel) (by decide)), zq_nil⟩⟩⟩⟩
theorem kt_wr_writeTypes (l : Launch) : zk_me zt_Ts zt_Y zt_cl zt_Zs l (3, 64) yn_wr_writeTypes prog_11_method_6_code 5 none zo_v fn_wr_writeTypes := by
  refine zk_run (X := lx_wr_writeTypes) (code := cd_wr_writeTypes) 1073741824 zt_ok (by decide) en_wr_writeTypes (zf_up (L := lf_wr_writeTypes) ?_) (zc_up (L := lc_wr_writeTypes) ?_) (zz_up (L := lg_wr_writeTypes) ?_) (zi_al_up (L := li_wr_writeTypes) ?_) zr_v_ok (zm_fv_e (by decide))
  · exact List.forall_mem_cons.mpr ⟨lk_wr_31, zq_nil⟩
  · exact zq_nil
  · exact zq_nil
  · exact List.forall_mem_cons.mpr ⟨zj_al_v (zj_V (i := 104) zt_ok (kt_by_putType l) wd_771 wd_772 wd_773 wd_80 wd_774 rfl (by unfold zn_ok; decide +kernel) (by decide)), zq_nil⟩
theorem lk_wr_25 : zf_e1 zt_Y zt_cl zt_Ts "MapForge$Writer" 25 7 4 := ⟨rn_wr, tn_wr, 6, rfl, by decide, cs_wr, Or.inl wd_343, ⟨ty_wr, ty_wr_ok⟩, nm_wr, fun h => absurd h (by decide), fun h => absurd h (by decide)⟩
theorem lk_wr_83 : zf_e1 zt_Y zt_cl zt_Ts "MapForge$Writer" 83 6 1 := ⟨rn_tl, tn_tl, 3, rfl, by decide, cs_tl, Or.inl wd_327, ⟨ty_tl, ty_tl_ok⟩, nm_tl, fun _ => ⟨rfl, rfl⟩, fun h => absurd h (by decide)⟩
theorem lk_wr_114 : zf_e1 zt_Y zt_cl zt_Ts "MapForge$Writer" 114 6 0 := ⟨rn_tl, tn_tl, 3, rfl, by decide, cs_tl, Or.inl wd_325, ⟨ty_tl, ty_tl_ok⟩, nm_tl, fun h => absurd h (by decide), fun h => absurd h (by decide)⟩
theorem lk_wr_94 : zf_e1 zt_Y zt_cl zt_Ts "MapForge$Writer" 94 4 2 := ⟨rn_fr, tn_fr, 5, rfl, by decide, cs_fr, Or.inl wd_254, ⟨ty_fr, ty_fr_ok⟩, nm_fr, fun _ => ⟨rfl, rfl⟩, fun h => absurd h (by decide)⟩
theorem lk_wr_101 : zf_e1 zt_Y zt_cl zt_Ts "MapForge$Writer" 101 4 1 := ⟨rn_fr, tn_fr, 5, rfl, by decide, cs_fr, Or.inl wd_250, ⟨ty_fr, ty_fr_ok⟩, nm_fr, fun h => absurd h (by decide), fun h => absurd h (by decide)⟩
theorem kt_wr_writeWhole (l : Launch) : zk_me zt_Ts zt_Y zt_cl zt_Zs l (4, 88) yn_wr_writeWhole prog_11_method_5_code 3 none zo_v fn_wr_writeWhole := by
  refine zk_run (X := lx_wr_writeWhole) (code := cd_wr_writeWhole) 1 zt_ok (by decide) en_wr_writeWhole (zf_up (L := lf_wr_writeWhole) ?_) (zc_up (L := lc_wr_writeWhole) ?_) (zz_up (L := lg_wr_writeWhole) ?_) (zi_al_up (L := li_wr_writeWhole) ?_) zr_v_ok (zm_fv_e (by decide))
  · exact List.forall_mem_cons.mpr ⟨lk_wr_31, List.forall_mem_cons.mpr ⟨lk_wr_25, List.forall_mem_cons.mpr ⟨lk_wr_83, List.forall_mem_cons.mpr ⟨lk_wr_114, List.forall_mem_cons.mpr ⟨lk_wr_94, List.forall_mem_cons.mpr ⟨lk_wr_101, zq_nil⟩⟩⟩⟩⟩⟩
  · exact zq_nil
  · exact zq_nil
  · exact List.forall_mem_cons.mpr ⟨zj_al_v (zj_V (i := 108) zt_ok (kt_by_put l) wd_762 wd_763 wd_764 wd_80 wd_765 rfl (by unfold zn_ok; decide +kernel) (by decide)), List.forall_mem_cons.mpr ⟨zj_al_v (zj_V (i := 111) zt_ok (kt_by_putTwo l) wd_766 wd_767 wd_768 wd_80 wd_769 rfl (by unfold zn_ok; decide +kernel) (by decide)), List.forall_mem_cons.mpr ⟨zj_al_v (zj_V (i := 117) zt_ok (kt_wr_writeTypes l) wd_778 wd_780 wd_17 wd_84 wd_781 rfl (by unfold zn_ok; decide +kernel) (by decide)), zq_nil⟩⟩⟩
theorem lk_wr_21 : zf_e1 zt_Y zt_cl zt_Ts "MapForge$Writer" 21 7 3 := ⟨rn_wr, tn_wr, 6, rfl, by decide, cs_wr, Or.inl wd_342, ⟨ty_wr, ty_wr_ok⟩, nm_wr, fun h => absurd h (by decide), fun h => absurd h (by decide)⟩
theorem kt_wr_writeRow (l : Launch) : zk_me zt_Ts zt_Y zt_cl zt_Zs l (5, 110) yn_wr_writeRow prog_11_method_3_code 7 none zo_v fn_wr_writeRow := by
  refine zk_run (X := lx_wr_writeRow) (code := cd_wr_writeRow) 1 zt_ok (by decide) en_wr_writeRow (zf_up (L := lf_wr_writeRow) ?_) (zc_up (L := lc_wr_writeRow) ?_) (zz_up (L := lg_wr_writeRow) ?_) (zi_al_up (L := li_wr_writeRow) ?_) zr_v_ok (zm_fv_e (by decide))
  · exact List.forall_mem_cons.mpr ⟨lk_wr_25, List.forall_mem_cons.mpr ⟨lk_wr_21, List.forall_mem_cons.mpr ⟨lk_wr_83, List.forall_mem_cons.mpr ⟨lk_wr_94, List.forall_mem_cons.mpr ⟨lk_wr_31, List.forall_mem_cons.mpr ⟨lk_wr_101, List.forall_mem_cons.mpr ⟨lk_wr_114, zq_nil⟩⟩⟩⟩⟩⟩⟩
  · exact zq_nil
  · exact zq_nil
  · exact List.forall_mem_cons.mpr ⟨zj_al_i (zj_V (i := 79) zt_ok (kt_tl_sharedStart l) wd_748 wd_749 wd_750 wd_85 wd_751 rfl (by unfold zn_ok; decide +kernel) (by decide)), List.forall_mem_cons.mpr ⟨zj_al_i (zj_ab (i := 84) wd_752 wd_753 wd_91 (zt_m 754 (by decide +kernel) (by decide +kernel)) (by decide)), List.forall_mem_cons.mpr ⟨zj_al_i (zj_mn (i := 90) wd_755 wd_756 wd_91 (zt_m 757 (by decide +kernel) (by decide +kernel)) (by decide)), List.forall_mem_cons.mpr ⟨zj_al_v (zj_V (i := 97) zt_ok (kt_wr_writeHead l) wd_758 wd_760 wd_16 wd_84 wd_761 rfl (by unfold zn_ok; decide +kernel) (by decide)), List.forall_mem_cons.mpr ⟨zj_al_v (zj_V (i := 104) zt_ok (kt_by_putType l) wd_771 wd_772 wd_773 wd_80 wd_774 rfl (by unfold zn_ok; decide +kernel) (by decide)), List.forall_mem_cons.mpr ⟨zj_al_v (zj_V (i := 108) zt_ok (kt_by_put l) wd_762 wd_763 wd_764 wd_80 wd_765 rfl (by unfold zn_ok; decide +kernel) (by decide)), List.forall_mem_cons.mpr ⟨zj_al_v (zj_V (i := 111) zt_ok (kt_by_putTwo l) wd_766 wd_767 wd_768 wd_80 wd_769 rfl (by unfold zn_ok; decide +kernel) (by decide)), List.forall_mem_cons.mpr ⟨zj_al_v (zj_V (i := 117) zt_ok (kt_wr_writeTypes l) wd_778 wd_780 wd_17 wd_84 wd_781 rfl (by unfold zn_ok; decide +kernel) (by decide)), List.forall_mem_cons.mpr ⟨zj_al_v (zj_V (i := 121) zt_ok (kt_wr_writeWhole l) wd_782 wd_784 wd_18 wd_84 wd_785 rfl (by unfold zn_ok; decide +kernel) (by decide)), zq_nil⟩⟩⟩⟩⟩⟩⟩⟩⟩
theorem kt_tl_takeOver (l : Launch) : zk_me zt_Ts zt_Y zt_cl zt_Zs l (1, 26) yn_tl_takeOver prog_10_method_5_code 2 none zo_v fn_tl_takeOver := by
  refine zk_run (X := lx_tl_takeOver) (code := cd_tl_takeOver) 1 zt_ok (by decide) en_tl_takeOver (zf_up (L := lf_tl_takeOver) ?_) (zc_up (L := lc_tl_takeOver) ?_) (zz_up (L := lg_tl_takeOver) ?_) (zi_al_up (L := li_tl_takeOver) ?_) zr_v_ok (zm_fv_e (by decide))
  · exact List.forall_mem_cons.mpr ⟨lk_tl_9, List.forall_mem_cons.mpr ⟨lk_tl_15, List.forall_mem_cons.mpr ⟨lk_tl_19, zq_nil⟩⟩⟩
  · exact zq_nil
  · exact zq_nil
  · exact List.forall_mem_cons.mpr ⟨zj_al_v (zj_ac (i := 26) wd_790 wd_590 wd_589 wd_90 (by decide)), zq_nil⟩
theorem lk_wr_35 : zf_e1 zt_Y zt_cl zt_Ts "MapForge$Writer" 35 7 0 := ⟨rn_wr, tn_wr, 6, rfl, by decide, cs_wr, Or.inl wd_339, ⟨ty_wr, ty_wr_ok⟩, nm_wr, fun h => absurd h (by decide), fun h => absurd h (by decide)⟩
theorem lk_wr_12 : zf_e1 zt_Y zt_cl zt_Ts "MapForge$Writer" 12 7 2 := ⟨rn_wr, tn_wr, 6, rfl, by decide, cs_wr, Or.inl wd_341, ⟨ty_wr, ty_wr_ok⟩, nm_wr, fun h => absurd h (by decide), fun h => absurd h (by decide)⟩
theorem lk_wr_52 : zf_e1 zt_Y zt_cl zt_Ts "MapForge$Writer" 52 2 1 := ⟨rn_by, tn_by, 2, rfl, by decide, cs_by, Or.inl wd_209, ⟨ty_by, ty_by_ok⟩, nm_by, fun _ => ⟨rfl, rfl⟩, fun h => absurd h (by decide)⟩
theorem lk_wr_56 : zf_e1 zt_Y zt_cl zt_Ts "MapForge$Writer" 56 1 9 := ⟨rn_pr, tn_pr, 15, rfl, by decide, cs_pr, Or.inl wd_153, ⟨ty_pr, ty_pr_ok⟩, nm_pr, fun _ => ⟨rfl, rfl⟩, fun h => absurd h (by decide)⟩
theorem lk_wr_39 : zf_e1 zt_Y zt_cl zt_Ts "MapForge$Writer" 39 7 1 := ⟨rn_wr, tn_wr, 6, rfl, by decide, cs_wr, Or.inl wd_340, ⟨ty_wr, ty_wr_ok⟩, nm_wr, fun h => absurd h (by decide), fun h => absurd h (by decide)⟩
theorem lk_wr_57 : zf_e1 zt_Y zt_cl zt_Ts "MapForge$Writer" 57 5 4 := ⟨rn_fl, tn_fl, 10, rfl, by decide, cs_fl, Or.inl wd_282, ⟨ty_fl, ty_fl_ok⟩, nm_fl, fun h => absurd h (by decide), fun h => absurd h (by decide)⟩
theorem lk_wr_63 : zf_e1 zt_Y zt_cl zt_Ts "MapForge$Writer" 63 5 3 := ⟨rn_fl, tn_fl, 10, rfl, by decide, cs_fl, Or.inl wd_279, ⟨ty_fl, ty_fl_ok⟩, nm_fl, fun h => absurd h (by decide), fun h => absurd h (by decide)⟩
theorem lk_wr_67 : zf_e1 zt_Y zt_cl zt_Ts "MapForge$Writer" 67 1 8 := ⟨rn_pr, tn_pr, 15, rfl, by decide, cs_pr, Or.inl wd_148, ⟨ty_pr, ty_pr_ok⟩, nm_pr, fun h => absurd h (by decide), fun h => absurd h (by decide)⟩
theorem kt_wr_writeRows (l : Launch) : zk_me zt_Ts zt_Y zt_cl zt_Zs l (6, 136) yn_wr_writeRows prog_11_method_2_code 4 (some .int) zo_i fn_wr_writeRows := by
  refine zk_run (X := lx_wr_writeRows) (code := cd_wr_writeRows) 1073741824 zt_ok (by decide) en_wr_writeRows (zf_up (L := lf_wr_writeRows) ?_) (zc_up (L := lc_wr_writeRows) ?_) (zz_up (L := lg_wr_writeRows) ?_) (zi_al_up (L := li_wr_writeRows) ?_) zr_i_ok (zm_fv_e (by decide))
  · exact List.forall_mem_cons.mpr ⟨lk_wr_35, List.forall_mem_cons.mpr ⟨lk_wr_12, List.forall_mem_cons.mpr ⟨lk_wr_21, List.forall_mem_cons.mpr ⟨lk_wr_31, List.forall_mem_cons.mpr ⟨lk_wr_52, List.forall_mem_cons.mpr ⟨lk_wr_56, List.forall_mem_cons.mpr ⟨lk_wr_39, List.forall_mem_cons.mpr ⟨lk_wr_57, List.forall_mem_cons.mpr ⟨lk_wr_25, List.forall_mem_cons.mpr ⟨lk_wr_63, List.forall_mem_cons.mpr ⟨lk_wr_67, zq_nil⟩⟩⟩⟩⟩⟩⟩⟩⟩⟩⟩
  · exact zq_nil
  · exact zq_nil
  · exact List.forall_mem_cons.mpr ⟨zj_al_v (zj_V (i := 43) zt_ok (kt_pr_enter l) wd_726 wd_553 wd_554 wd_79 wd_555 rfl (by unfold zn_ok; decide +kernel) (by decide)), List.forall_mem_cons.mpr ⟨zj_al_v (zj_V (i := 49) zt_ok (kt_tl_gather l) wd_727 wd_728 wd_729 wd_85 wd_730 rfl (by unfold zn_ok; decide +kernel) (by decide)), List.forall_mem_cons.mpr ⟨zj_al_v (zj_V (i := 71) zt_ok (kt_wr_writeRow l) wd_744 wd_746 wd_15 wd_84 wd_747 rfl (by unfold zn_ok; decide +kernel) (by decide)), List.forall_mem_cons.mpr ⟨zj_al_v (zj_V (i := 75) zt_ok (kt_tl_takeOver l) wd_786 wd_787 wd_788 wd_85 wd_789 rfl (by unfold zn_ok; decide +kernel) (by decide)), zq_nil⟩⟩⟩⟩
theorem kt_by_takeOver (l : Launch) : zk_me zt_Ts zt_Y zt_cl zt_Zs l (1, 26) yn_by_takeOver prog_2_method_5_code 2 none zo_v fn_by_takeOver := by
  refine zk_run (X := lx_by_takeOver) (code := cd_by_takeOver) 1 zt_ok (by decide) en_by_takeOver (zf_up (L := lf_by_takeOver) ?_) (zc_up (L := lc_by_takeOver) ?_) (zz_up (L := lg_by_takeOver) ?_) (zi_al_up (L := li_by_takeOver) ?_) zr_v_ok (zm_fv_e (by decide))
  · exact List.forall_mem_cons.mpr ⟨lk_by_15, List.forall_mem_cons.mpr ⟨lk_by_9, zq_nil⟩⟩
  · exact zq_nil
  · exact zq_nil
  · exact List.forall_mem_cons.mpr ⟨zj_al_i (zj_mn (i := 33) wd_795 wd_756 wd_91 (zt_m 757 (by decide +kernel) (by decide +kernel)) (by decide)), List.forall_mem_cons.mpr ⟨zj_al_v (zj_ac (i := 39) wd_796 wd_590 wd_589 wd_90 (by decide)), zq_nil⟩⟩
theorem lk_mf_49 : zf_e1 zt_Y zt_cl zt_Ts "MapForge" 49 10 4 := ⟨rn_mf, tn_mf, 7, rfl, by decide, cs_mf, Or.inl wd_444, ⟨ty_mf, ty_mf_ok⟩, nm_mf, fun h => absurd h (by decide), fun h => absurd h (by decide)⟩
theorem lk_mf_128 : zf_e1 zt_Y zt_cl zt_Ts "MapForge" 128 7 5 := ⟨rn_wr, tn_wr, 6, rfl, by decide, cs_wr, Or.inl wd_345, ⟨ty_wr, ty_wr_ok⟩, nm_wr, fun h => absurd h (by decide), fun h => absurd h (by decide)⟩
theorem lk_mf_131 : zf_e1 zt_Y zt_cl zt_Ts "MapForge" 131 2 1 := ⟨rn_by, tn_by, 2, rfl, by decide, cs_by, Or.inl wd_211, ⟨ty_by, ty_by_ok⟩, nm_by, fun _ => ⟨rfl, rfl⟩, fun h => absurd h (by decide)⟩
theorem lk_mf_26 : zf_e1 zt_Y zt_cl zt_Ts "MapForge" 26 10 2 := ⟨rn_mf, tn_mf, 7, rfl, by decide, cs_mf, Or.inl wd_442, ⟨ty_mf, ty_mf_ok⟩, nm_mf, fun h => absurd h (by decide), fun h => absurd h (by decide)⟩
theorem kt_mf_make (l : Launch) : zk_me zt_Ts zt_Y zt_cl zt_Zs l (7, 159) yn_mf_make prog_1_method_8_code 2 (some .int) zo_i fn_mf_make := by
  refine zk_run (X := lx_mf_make) (code := cd_mf_make) 1 zt_ok (by decide) en_mf_make (zf_up (L := lf_mf_make) ?_) (zc_up (L := lc_mf_make) ?_) (zz_up (L := lg_mf_make) ?_) (zi_al_up (L := li_mf_make) ?_) zr_i_ok (zm_fv_e (by decide))
  · exact List.forall_mem_cons.mpr ⟨lk_mf_40, List.forall_mem_cons.mpr ⟨lk_mf_49, List.forall_mem_cons.mpr ⟨lk_mf_128, List.forall_mem_cons.mpr ⟨lk_mf_131, List.forall_mem_cons.mpr ⟨lk_mf_26, List.forall_mem_cons.mpr ⟨lk_mf_58, List.forall_mem_cons.mpr ⟨lk_mf_136, zq_nil⟩⟩⟩⟩⟩⟩⟩
  · exact zq_nil
  · exact zq_nil
  · exact List.forall_mem_cons.mpr ⟨zj_al_i (zj_V (i := 120) zt_ok (kt_fl_isRight l) wd_544 wd_545 wd_546 wd_82 wd_547 rfl (by unfold zn_ok; decide +kernel) (by decide)), List.forall_mem_cons.mpr ⟨zj_al_i (zj_V (i := 124) zt_ok (kt_wr_writeRows l) wd_722 wd_723 wd_724 wd_84 wd_725 rfl (by unfold zn_ok; decide +kernel) (by decide)), List.forall_mem_cons.mpr ⟨zj_al_v (zj_V (i := 132) zt_ok (kt_by_takeOver l) wd_791 wd_792 wd_793 wd_80 wd_794 rfl (by unfold zn_ok; decide +kernel) (by decide)), zq_nil⟩⟩⟩
theorem kt_mf_isQuestion (l : Launch) : zk_me zt_Ts zt_Y zt_cl zt_Zs l (0, 0) yn_mf_isQuestion prog_1_method_20_code 2 (some .boolean) zo_i fn_mf_isQuestion := by
  refine zk_run (X := lx_mf_isQuestion) (code := cd_mf_isQuestion) 1 zt_ok (by decide) en_mf_isQuestion (zf_up (L := lf_mf_isQuestion) ?_) (zc_up (L := lc_mf_isQuestion) ?_) (zz_up (L := lg_mf_isQuestion) ?_) (zi_al_up (L := li_mf_isQuestion) ?_) zr_z_ok (zm_fs_e (by decide))
  · exact zq_nil
  · exact zq_nil
  · exact zq_nil
  · exact zq_nil
theorem kt_fr_tell (l : Launch) : zk_me zt_Ts zt_Y zt_cl zt_Zs l (0, 0) yn_fr_tell prog_6_method_13_code 2 (some .int) zo_i fn_fr_tell := by
  refine zk_run (X := lx_fr_tell) (code := cd_fr_tell) 1 zt_ok (by decide) en_fr_tell (zf_up (L := lf_fr_tell) ?_) (zc_up (L := lc_fr_tell) ?_) (zz_up (L := lg_fr_tell) ?_) (zi_al_up (L := li_fr_tell) ?_) zr_i_ok (zm_fv_e (by decide))
  · exact List.forall_mem_cons.mpr ⟨lk_fr_9, List.forall_mem_cons.mpr ⟨lk_fr_24, List.forall_mem_cons.mpr ⟨lk_fr_15, List.forall_mem_cons.mpr ⟨lk_fr_31, zq_nil⟩⟩⟩⟩
  · exact zq_nil
  · exact zq_nil
  · exact zq_nil
theorem lk_mf_144 : zf_e1 zt_Y zt_cl zt_Ts "MapForge" 144 5 3 := ⟨rn_fl, tn_fl, 10, rfl, by decide, cs_fl, Or.inl wd_280, ⟨ty_fl, ty_fl_ok⟩, nm_fl, fun h => absurd h (by decide), fun h => absurd h (by decide)⟩
theorem kt_mf_flow (l : Launch) : zk_me zt_Ts zt_Y zt_cl zt_Zs l (7, 158) yn_mf_flow prog_1_method_9_code 3 (some .int) zo_i fn_mf_flow := by
  refine zk_run (X := lx_mf_flow) (code := cd_mf_flow) 1 zt_ok (by decide) en_mf_flow (zf_up (L := lf_mf_flow) ?_) (zc_up (L := lc_mf_flow) ?_) (zz_up (L := lg_mf_flow) ?_) (zi_al_up (L := li_mf_flow) ?_) zr_i_ok (zm_fv_e (by decide))
  · exact List.forall_mem_cons.mpr ⟨lk_mf_19, List.forall_mem_cons.mpr ⟨lk_mf_104, List.forall_mem_cons.mpr ⟨lk_mf_40, List.forall_mem_cons.mpr ⟨lk_mf_144, zq_nil⟩⟩⟩⟩
  · exact zq_nil
  · exact zq_nil
  · exact List.forall_mem_cons.mpr ⟨zj_al_i (zj_S (i := 140) zt_ok (kt_mf_isQuestion l) wd_801 wd_802 wd_77 wd_803 (by unfold zn_ok; decide +kernel) (by decide)), List.forall_mem_cons.mpr ⟨zj_al_i (zj_V (i := 120) zt_ok (kt_fl_isRight l) wd_544 wd_545 wd_546 wd_82 wd_547 rfl (by unfold zn_ok; decide +kernel) (by decide)), List.forall_mem_cons.mpr ⟨zj_al_i (zj_V (i := 148) zt_ok (kt_fr_tell l) wd_804 wd_805 wd_806 wd_83 wd_807 rfl (by unfold zn_ok; decide +kernel) (by decide)), zq_nil⟩⟩⟩
theorem lk_re_39 : zf_e1 zt_Y zt_cl zt_Ts "MapForge$Reader" 39 8 0 := ⟨rn_re, tn_re, 12, rfl, by decide, cs_re, Or.inl wd_369, ⟨ty_re, ty_re_ok⟩, nm_re, fun h => absurd h (by decide), fun h => absurd h (by decide)⟩
theorem lk_re_12 : zf_e1 zt_Y zt_cl zt_Ts "MapForge$Reader" 12 8 2 := ⟨rn_re, tn_re, 12, rfl, by decide, cs_re, Or.inl wd_371, ⟨ty_re, ty_re_ok⟩, nm_re, fun h => absurd h (by decide), fun h => absurd h (by decide)⟩
theorem lk_re_21 : zf_e1 zt_Y zt_cl zt_Ts "MapForge$Reader" 21 8 3 := ⟨rn_re, tn_re, 12, rfl, by decide, cs_re, Or.inl wd_372, ⟨ty_re, ty_re_ok⟩, nm_re, fun h => absurd h (by decide), fun h => absurd h (by decide)⟩
theorem lk_re_36 : zf_e1 zt_Y zt_cl zt_Ts "MapForge$Reader" 36 8 7 := ⟨rn_re, tn_re, 12, rfl, by decide, cs_re, Or.inl wd_380, ⟨ty_re, ty_re_ok⟩, nm_re, fun h => absurd h (by decide), fun h => absurd h (by decide)⟩
theorem lk_re_57 : zf_e1 zt_Y zt_cl zt_Ts "MapForge$Reader" 57 8 8 := ⟨rn_re, tn_re, 12, rfl, by decide, cs_re, Or.inl wd_382, ⟨ty_re, ty_re_ok⟩, nm_re, fun _ => ⟨rfl, rfl⟩, fun h => absurd h (by decide)⟩
theorem lk_re_61 : zf_e1 zt_Y zt_cl zt_Ts "MapForge$Reader" 61 8 11 := ⟨rn_re, tn_re, 12, rfl, by decide, cs_re, Or.inl wd_387, ⟨ty_re, ty_re_ok⟩, nm_re, fun _ => ⟨rfl, rfl⟩, fun h => absurd h (by decide)⟩
theorem kt_re_begin (l : Launch) : zk_me zt_Ts zt_Y zt_cl zt_Zs l (3, 64) yn_re_begin prog_9_method_3_code 1 none zo_v fn_re_begin := by
  refine zk_run (X := lx_re_begin) (code := cd_re_begin) 1 zt_ok (by decide) en_re_begin (zf_up (L := lf_re_begin) ?_) (zc_up (L := lc_re_begin) ?_) (zz_up (L := lg_re_begin) ?_) (zi_al_up (L := li_re_begin) ?_) zr_v_ok (zm_fv_e (by decide))
  · exact List.forall_mem_cons.mpr ⟨lk_re_39, List.forall_mem_cons.mpr ⟨lk_re_12, List.forall_mem_cons.mpr ⟨lk_re_21, List.forall_mem_cons.mpr ⟨lk_re_36, List.forall_mem_cons.mpr ⟨lk_re_57, List.forall_mem_cons.mpr ⟨lk_re_61, zq_nil⟩⟩⟩⟩⟩⟩
  · exact zq_nil
  · exact zq_nil
  · exact List.forall_mem_cons.mpr ⟨zj_al_v (zj_V (i := 79) zt_ok (kt_pr_enter l) wd_820 wd_553 wd_554 wd_79 wd_555 rfl (by unfold zn_ok; decide +kernel) (by decide)), List.forall_mem_cons.mpr ⟨zj_al_v (zj_V (i := 83) zt_ok (kt_tl_gather l) wd_821 wd_728 wd_729 wd_85 wd_730 rfl (by unfold zn_ok; decide +kernel) (by decide)), List.forall_mem_cons.mpr ⟨zj_al_v (zj_S (i := 86) zt_ok (kt_ja_fill l) wd_822 wd_557 wd_89 wd_558 (by unfold zn_ok; decide +kernel) (by decide)), zq_nil⟩⟩⟩
theorem lk_re_43 : zf_e1 zt_Y zt_cl zt_Ts "MapForge$Reader" 43 8 1 := ⟨rn_re, tn_re, 12, rfl, by decide, cs_re, Or.inl wd_370, ⟨ty_re, ty_re_ok⟩, nm_re, fun h => absurd h (by decide), fun h => absurd h (by decide)⟩
theorem lk_re_64 : zf_e1 zt_Y zt_cl zt_Ts "MapForge$Reader" 64 2 1 := ⟨rn_by, tn_by, 2, rfl, by decide, cs_by, Or.inl wd_210, ⟨ty_by, ty_by_ok⟩, nm_by, fun _ => ⟨rfl, rfl⟩, fun h => absurd h (by decide)⟩
theorem lk_re_150 : zf_e1 zt_Y zt_cl zt_Ts "MapForge$Reader" 150 2 0 := ⟨rn_by, tn_by, 2, rfl, by decide, cs_by, Or.inl wd_206, ⟨ty_by, ty_by_ok⟩, nm_by, fun h => absurd h (by decide), fun h => absurd h (by decide)⟩
theorem kt_re_readByte (l : Launch) : zk_me zt_Ts zt_Y zt_cl zt_Zs l (0, 0) yn_re_readByte prog_9_method_11_code 1 (some .int) zo_i fn_re_readByte := by
  refine zk_run (X := lx_re_readByte) (code := cd_re_readByte) 1 zt_ok (by decide) en_re_readByte (zf_up (L := lf_re_readByte) ?_) (zc_up (L := lc_re_readByte) ?_) (zz_up (L := lg_re_readByte) ?_) (zi_al_up (L := li_re_readByte) ?_) zr_i_ok (zm_fv_e (by decide))
  · exact List.forall_mem_cons.mpr ⟨lk_re_61, List.forall_mem_cons.mpr ⟨lk_re_43, List.forall_mem_cons.mpr ⟨lk_re_64, List.forall_mem_cons.mpr ⟨lk_re_150, zq_nil⟩⟩⟩⟩
  · exact zq_nil
  · exact zq_nil
  · exact zq_nil
theorem kt_re_readTwo (l : Launch) : zk_me zt_Ts zt_Y zt_cl zt_Zs l (1, 20) yn_re_readTwo prog_9_method_10_code 3 (some .int) zo_i fn_re_readTwo := by
  refine zk_run (X := lx_re_readTwo) (code := cd_re_readTwo) 1 zt_ok (by decide) en_re_readTwo (zf_up (L := lf_re_readTwo) ?_) (zc_up (L := lc_re_readTwo) ?_) (zz_up (L := lg_re_readTwo) ?_) (zi_al_up (L := li_re_readTwo) ?_) zr_i_ok (zm_fv_e (by decide))
  · exact zq_nil
  · exact zq_nil
  · exact zq_nil
  · exact List.forall_mem_cons.mpr ⟨zj_al_i (zj_V (i := 92) zt_ok (kt_re_readByte l) wd_827 wd_829 wd_21 wd_86 wd_830 rfl (by unfold zn_ok; decide +kernel) (by decide)), zq_nil⟩
theorem kt_re_readType (l : Launch) : zk_me zt_Ts zt_Y zt_cl zt_Zs l (2, 42) yn_re_readType prog_9_method_9_code 3 (some .int) zo_i fn_re_readType := by
  refine zk_run (X := lx_re_readType) (code := cd_re_readType) 1 zt_ok (by decide) en_re_readType (zf_up (L := lf_re_readType) ?_) (zc_up (L := lc_re_readType) ?_) (zz_up (L := lg_re_readType) ?_) (zi_al_up (L := li_re_readType) ?_) zr_i_ok (zm_fv_e (by decide))
  · exact zq_nil
  · exact zq_nil
  · exact zq_nil
  · exact List.forall_mem_cons.mpr ⟨zj_al_i (zj_V (i := 92) zt_ok (kt_re_readByte l) wd_827 wd_829 wd_21 wd_86 wd_830 rfl (by unfold zn_ok; decide +kernel) (by decide)), List.forall_mem_cons.mpr ⟨zj_al_i (zj_V (i := 103) zt_ok (kt_re_readTwo l) wd_840 wd_842 wd_24 wd_86 wd_843 rfl (by unfold zn_ok; decide +kernel) (by decide)), List.forall_mem_cons.mpr ⟨zj_al_i (zj_SN (i := 143) zt_ok (kt_mf_isClass l) wd_844 wd_479 wd_77 wd_480 (by unfold zn_ok; decide +kernel) (by decide)), List.forall_mem_cons.mpr ⟨zj_al_i (zj_SN (i := 146) zt_ok (kt_mf_typeOf l) wd_845 wd_564 wd_77 wd_565 (by unfold zn_ok; decide +kernel) (by decide)), zq_nil⟩⟩⟩⟩
theorem kt_re_readStack (l : Launch) : zk_me zt_Ts zt_Y zt_cl zt_Zs l (3, 64) yn_re_readStack prog_9_method_8_code 5 (some .boolean) zo_i fn_re_readStack := by
  refine zk_run (X := lx_re_readStack) (code := cd_re_readStack) 1073741824 zt_ok (by decide) en_re_readStack (zf_up (L := lf_re_readStack) ?_) (zc_up (L := lc_re_readStack) ?_) (zz_up (L := lg_re_readStack) ?_) (zi_al_up (L := li_re_readStack) ?_) zr_z_ok (zm_fv_e (by decide))
  · exact zq_nil
  · exact zq_nil
  · exact zq_nil
  · exact List.forall_mem_cons.mpr ⟨zj_al_i (zj_V (i := 134) zt_ok (kt_re_readType l) wd_836 wd_838 wd_23 wd_86 wd_839 rfl (by unfold zn_ok; decide +kernel) (by decide)), List.forall_mem_cons.mpr ⟨zj_al_i (zj_V (i := 140) zt_ok (kt_fr_push l) wd_846 wd_608 wd_609 wd_83 wd_610 rfl (by unfold zn_ok; decide +kernel) (by decide)), zq_nil⟩⟩
theorem kt_re_readList (l : Launch) : zk_me zt_Ts zt_Y zt_cl zt_Zs l (3, 64) yn_re_readList prog_9_method_7_code 4 (some .boolean) zo_i fn_re_readList := by
  refine zk_run (X := lx_re_readList) (code := cd_re_readList) 1073741824 zt_ok (by decide) en_re_readList (zf_up (L := lf_re_readList) ?_) (zc_up (L := lc_re_readList) ?_) (zz_up (L := lg_re_readList) ?_) (zi_al_up (L := li_re_readList) ?_) zr_z_ok (zm_fv_e (by decide))
  · exact List.forall_mem_cons.mpr ⟨lk_re_21, zq_nil⟩
  · exact zq_nil
  · exact zq_nil
  · exact List.forall_mem_cons.mpr ⟨zj_al_i (zj_V (i := 134) zt_ok (kt_re_readType l) wd_836 wd_838 wd_23 wd_86 wd_839 rfl (by unfold zn_ok; decide +kernel) (by decide)), List.forall_mem_cons.mpr ⟨zj_al_i (zj_V (i := 137) zt_ok (kt_tl_append l) wd_856 wd_736 wd_737 wd_85 wd_738 rfl (by unfold zn_ok; decide +kernel) (by decide)), zq_nil⟩⟩
theorem lk_re_130 : zf_e1 zt_Y zt_cl zt_Ts "MapForge$Reader" 130 6 1 := ⟨rn_tl, tn_tl, 3, rfl, by decide, cs_tl, Or.inl wd_328, ⟨ty_tl, ty_tl_ok⟩, nm_tl, fun _ => ⟨rfl, rfl⟩, fun h => absurd h (by decide)⟩
theorem kt_re_shorten (l : Launch) : zk_me zt_Ts zt_Y zt_cl zt_Zs l (2, 40) yn_re_shorten prog_9_method_6_code 3 (some .boolean) zo_i fn_re_shorten := by
  refine zk_run (X := lx_re_shorten) (code := cd_re_shorten) 1073741824 zt_ok (by decide) en_re_shorten (zf_up (L := lf_re_shorten) ?_) (zc_up (L := lc_re_shorten) ?_) (zz_up (L := lg_re_shorten) ?_) (zi_al_up (L := li_re_shorten) ?_) zr_z_ok (zm_fv_e (by decide))
  · exact List.forall_mem_cons.mpr ⟨lk_re_21, List.forall_mem_cons.mpr ⟨lk_re_130, zq_nil⟩⟩
  · exact zq_nil
  · exact zq_nil
  · exact List.forall_mem_cons.mpr ⟨zj_al_v (zj_V (i := 131) zt_ok (kt_tl_drop l) wd_861 wd_741 wd_742 wd_85 wd_743 rfl (by unfold zn_ok; decide +kernel) (by decide)), zq_nil⟩
theorem kt_re_readRest (l : Launch) : zk_me zt_Ts zt_Y zt_cl zt_Zs l (4, 88) yn_re_readRest prog_9_method_5_code 3 (some .boolean) zo_i fn_re_readRest := by
  refine zk_run (X := lx_re_readRest) (code := cd_re_readRest) 1 zt_ok (by decide) en_re_readRest (zf_up (L := lf_re_readRest) ?_) (zc_up (L := lc_re_readRest) ?_) (zz_up (L := lg_re_readRest) ?_) (zi_al_up (L := li_re_readRest) ?_) zr_z_ok (zm_fv_e (by decide))
  · exact List.forall_mem_cons.mpr ⟨lk_re_21, zq_nil⟩
  · exact zq_nil
  · exact zq_nil
  · exact List.forall_mem_cons.mpr ⟨zj_al_i (zj_V (i := 99) zt_ok (kt_re_readStack l) wd_832 wd_834 wd_22 wd_86 wd_835 rfl (by unfold zn_ok; decide +kernel) (by decide)), List.forall_mem_cons.mpr ⟨zj_al_v (zj_V (i := 120) zt_ok (kt_tl_empty l) wd_851 wd_732 wd_733 wd_85 wd_734 rfl (by unfold zn_ok; decide +kernel) (by decide)), List.forall_mem_cons.mpr ⟨zj_al_i (zj_V (i := 103) zt_ok (kt_re_readTwo l) wd_840 wd_842 wd_24 wd_86 wd_843 rfl (by unfold zn_ok; decide +kernel) (by decide)), List.forall_mem_cons.mpr ⟨zj_al_i (zj_V (i := 123) zt_ok (kt_re_readList l) wd_852 wd_854 wd_26 wd_86 wd_855 rfl (by unfold zn_ok; decide +kernel) (by decide)), List.forall_mem_cons.mpr ⟨zj_al_i (zj_V (i := 127) zt_ok (kt_re_shorten l) wd_857 wd_859 wd_27 wd_86 wd_860 rfl (by unfold zn_ok; decide +kernel) (by decide)), zq_nil⟩⟩⟩⟩⟩
theorem kt_tl_spread (l : Launch) : zk_me zt_Ts zt_Y zt_cl zt_Zs l (1, 23) yn_tl_spread prog_10_method_7_code 4 none zo_v fn_tl_spread := by
  refine zk_run (X := lx_tl_spread) (code := cd_tl_spread) 1073741824 zt_ok (by decide) en_tl_spread (zf_up (L := lf_tl_spread) ?_) (zc_up (L := lc_tl_spread) ?_) (zz_up (L := lg_tl_spread) ?_) (zi_al_up (L := li_tl_spread) ?_) zr_v_ok (zm_fv_e (by decide))
  · exact List.forall_mem_cons.mpr ⟨lk_tl_35, List.forall_mem_cons.mpr ⟨lk_tl_15, List.forall_mem_cons.mpr ⟨lk_tl_9, zq_nil⟩⟩⟩
  · exact zq_nil
  · exact zq_nil
  · exact List.forall_mem_cons.mpr ⟨zj_al_v (zj_S (i := 47) zt_ok (kt_ja_fill l) wd_866 wd_557 wd_89 wd_558 (by unfold zn_ok; decide +kernel) (by decide)), List.forall_mem_cons.mpr ⟨zj_al_i (zj_SN (i := 22) zt_ok (kt_mf_widthOf l) wd_739 wd_511 wd_77 wd_512 (by unfold zn_ok; decide +kernel) (by decide)), zq_nil⟩⟩
theorem lk_re_33 : zf_e1 zt_Y zt_cl zt_Ts "MapForge$Reader" 33 8 6 := ⟨rn_re, tn_re, 12, rfl, by decide, cs_re, Or.inl wd_378, ⟨ty_re, ty_re_ok⟩, nm_re, fun h => absurd h (by decide), fun h => absurd h (by decide)⟩
theorem lk_re_29 : zf_e1 zt_Y zt_cl zt_Ts "MapForge$Reader" 29 8 5 := ⟨rn_re, tn_re, 12, rfl, by decide, cs_re, Or.inl wd_376, ⟨ty_re, ty_re_ok⟩, nm_re, fun h => absurd h (by decide), fun h => absurd h (by decide)⟩
theorem lk_re_117 : zf_e1 zt_Y zt_cl zt_Ts "MapForge$Reader" 117 4 4 := ⟨rn_fr, tn_fr, 5, rfl, by decide, cs_fr, Or.inl wd_259, ⟨ty_fr, ty_fr_ok⟩, nm_fr, fun h => absurd h (by decide), fun _ => ⟨rfl, rfl⟩⟩
theorem kt_re_readRow (l : Launch) : zk_me zt_Ts zt_Y zt_cl zt_Zs l (5, 110) yn_re_readRow prog_9_method_4_code 4 (some .boolean) zo_i fn_re_readRow := by
  refine zk_run (X := lx_re_readRow) (code := cd_re_readRow) 1 zt_ok (by decide) en_re_readRow (zf_up (L := lf_re_readRow) ?_) (zc_up (L := lc_re_readRow) ?_) (zz_up (L := lg_re_readRow) ?_) (zi_al_up (L := li_re_readRow) ?_) zr_z_ok (zm_fv_e (by decide))
  · exact List.forall_mem_cons.mpr ⟨lk_re_33, List.forall_mem_cons.mpr ⟨lk_re_57, List.forall_mem_cons.mpr ⟨lk_re_29, List.forall_mem_cons.mpr ⟨lk_re_21, List.forall_mem_cons.mpr ⟨lk_re_117, zq_nil⟩⟩⟩⟩⟩
  · exact zq_nil
  · exact zq_nil
  · exact List.forall_mem_cons.mpr ⟨zj_al_i (zj_V (i := 92) zt_ok (kt_re_readByte l) wd_827 wd_829 wd_21 wd_86 wd_830 rfl (by unfold zn_ok; decide +kernel) (by decide)), List.forall_mem_cons.mpr ⟨zj_al_v (zj_V (i := 96) zt_ok (kt_fr_emptyStack l) wd_831 wd_560 wd_561 wd_83 wd_562 rfl (by unfold zn_ok; decide +kernel) (by decide)), List.forall_mem_cons.mpr ⟨zj_al_i (zj_V (i := 99) zt_ok (kt_re_readStack l) wd_832 wd_834 wd_22 wd_86 wd_835 rfl (by unfold zn_ok; decide +kernel) (by decide)), List.forall_mem_cons.mpr ⟨zj_al_i (zj_V (i := 103) zt_ok (kt_re_readTwo l) wd_840 wd_842 wd_24 wd_86 wd_843 rfl (by unfold zn_ok; decide +kernel) (by decide)), List.forall_mem_cons.mpr ⟨zj_al_i (zj_V (i := 106) zt_ok (kt_re_readRest l) wd_847 wd_849 wd_25 wd_86 wd_850 rfl (by unfold zn_ok; decide +kernel) (by decide)), List.forall_mem_cons.mpr ⟨zj_al_v (zj_V (i := 110) zt_ok (kt_tl_spread l) wd_862 wd_863 wd_864 wd_85 wd_865 rfl (by unfold zn_ok; decide +kernel) (by decide)), List.forall_mem_cons.mpr ⟨zj_al_i (zj_V (i := 113) zt_ok (kt_fr_hasRawThisInLocal l) wd_867 wd_719 wd_720 wd_83 wd_721 rfl (by unfold zn_ok; decide +kernel) (by decide)), zq_nil⟩⟩⟩⟩⟩⟩⟩
theorem lk_re_47 : zf_e1 zt_Y zt_cl zt_Ts "MapForge$Reader" 47 8 9 := ⟨rn_re, tn_re, 12, rfl, by decide, cs_re, Or.inl wd_384, ⟨ty_re, ty_re_ok⟩, nm_re, fun h => absurd h (by decide), fun _ => ⟨rfl, rfl⟩⟩
theorem lk_re_51 : zf_e1 zt_Y zt_cl zt_Ts "MapForge$Reader" 51 8 10 := ⟨rn_re, tn_re, 12, rfl, by decide, cs_re, Or.inl wd_386, ⟨ty_re, ty_re_ok⟩, nm_re, fun h => absurd h (by decide), fun _ => ⟨rfl, rfl⟩⟩
theorem lk_re_25 : zf_e1 zt_Y zt_cl zt_Ts "MapForge$Reader" 25 8 4 := ⟨rn_re, tn_re, 12, rfl, by decide, cs_re, Or.inl wd_373, ⟨ty_re, ty_re_ok⟩, nm_re, fun h => absurd h (by decide), fun h => absurd h (by decide)⟩
theorem kt_re_isSound (l : Launch) : zk_me zt_Ts zt_Y zt_cl zt_Zs l (6, 133) yn_re_isSound prog_9_method_2_code 3 (some .boolean) zo_i fn_re_isSound := by
  refine zk_run (X := lx_re_isSound) (code := cd_re_isSound) 1073741824 zt_ok (by decide) en_re_isSound (zf_up (L := lf_re_isSound) ?_) (zc_up (L := lc_re_isSound) ?_) (zz_up (L := lg_re_isSound) ?_) (zi_al_up (L := li_re_isSound) ?_) zr_z_ok (zm_fv_e (by decide))
  · exact List.forall_mem_cons.mpr ⟨lk_re_47, List.forall_mem_cons.mpr ⟨lk_re_51, List.forall_mem_cons.mpr ⟨lk_re_57, List.forall_mem_cons.mpr ⟨lk_re_61, List.forall_mem_cons.mpr ⟨lk_re_43, List.forall_mem_cons.mpr ⟨lk_re_64, List.forall_mem_cons.mpr ⟨lk_re_25, List.forall_mem_cons.mpr ⟨lk_re_29, List.forall_mem_cons.mpr ⟨lk_re_39, List.forall_mem_cons.mpr ⟨lk_re_36, zq_nil⟩⟩⟩⟩⟩⟩⟩⟩⟩⟩
  · exact zq_nil
  · exact zq_nil
  · exact List.forall_mem_cons.mpr ⟨zj_al_v (zj_V (i := 54) zt_ok (kt_re_begin l) wd_816 wd_818 wd_19 wd_86 wd_819 rfl (by unfold zn_ok; decide +kernel) (by decide)), List.forall_mem_cons.mpr ⟨zj_al_i (zj_V (i := 69) zt_ok (kt_re_readRow l) wd_823 wd_825 wd_20 wd_86 wd_826 rfl (by unfold zn_ok; decide +kernel) (by decide)), List.forall_mem_cons.mpr ⟨zj_al_i (zj_V (i := 73) zt_ok (kt_pr_placeAt l) wd_868 wd_702 wd_703 wd_79 wd_704 rfl (by unfold zn_ok; decide +kernel) (by decide)), zq_nil⟩⟩⟩
theorem lk_fa_37 : zf_e1 zt_Y zt_cl zt_Ts "MapForge$Family" 37 4 4 := ⟨rn_fr, tn_fr, 5, rfl, by decide, cs_fr, Or.inl wd_260, ⟨ty_fr, ty_fr_ok⟩, nm_fr, fun h => absurd h (by decide), fun _ => ⟨rfl, rfl⟩⟩
theorem lk_fa_43 : zf_e1 zt_Y zt_cl zt_Ts "MapForge$Family" 43 4 2 := ⟨rn_fr, tn_fr, 5, rfl, by decide, cs_fr, Or.inl wd_255, ⟨ty_fr, ty_fr_ok⟩, nm_fr, fun _ => ⟨rfl, rfl⟩, fun h => absurd h (by decide)⟩
theorem lk_fa_47 : zf_e1 zt_Y zt_cl zt_Ts "MapForge$Family" 47 4 0 := ⟨rn_fr, tn_fr, 5, rfl, by decide, cs_fr, Or.inl wd_246, ⟨ty_fr, ty_fr_ok⟩, nm_fr, fun h => absurd h (by decide), fun h => absurd h (by decide)⟩
theorem lk_fa_54 : zf_e1 zt_Y zt_cl zt_Ts "MapForge$Family" 54 4 1 := ⟨rn_fr, tn_fr, 5, rfl, by decide, cs_fr, Or.inl wd_251, ⟨ty_fr, ty_fr_ok⟩, nm_fr, fun h => absurd h (by decide), fun h => absurd h (by decide)⟩
theorem kt_fa_fits (l : Launch) : zk_me zt_Ts zt_Y zt_cl zt_Zs l (2, 43) yn_fa_fits prog_4_method_6_code 4 (some .boolean) zo_i fn_fa_fits := by
  refine zk_run (X := lx_fa_fits) (code := cd_fa_fits) 1073741824 zt_ok (by decide) en_fa_fits (zf_up (L := lf_fa_fits) ?_) (zc_up (L := lc_fa_fits) ?_) (zz_up (L := lg_fa_fits) ?_) (zi_al_up (L := li_fa_fits) ?_) zr_z_ok (zm_fv_e (by decide))
  · exact List.forall_mem_cons.mpr ⟨lk_fa_37, List.forall_mem_cons.mpr ⟨lk_fa_43, List.forall_mem_cons.mpr ⟨lk_fa_47, List.forall_mem_cons.mpr ⟨lk_fa_54, zq_nil⟩⟩⟩⟩
  · exact zq_nil
  · exact zq_nil
  · exact List.forall_mem_cons.mpr ⟨zj_al_i (zj_V (i := 50) zt_ok (kt_fa_is l) wd_882 wd_661 wd_662 wd_78 wd_663 rfl (by unfold zn_ok; decide +kernel) (by decide)), zq_nil⟩
theorem lk_ck_33 : zf_e1 zt_Y zt_cl zt_Ts "MapForge$Checker" 33 9 3 := ⟨rn_ck, tn_ck, 6, rfl, by decide, cs_ck, Or.inl wd_424, ⟨ty_ck, ty_ck_ok⟩, nm_ck, fun h => absurd h (by decide), fun h => absurd h (by decide)⟩
theorem lk_ck_71 : zf_e1 zt_Y zt_cl zt_Ts "MapForge$Checker" 71 8 7 := ⟨rn_re, tn_re, 12, rfl, by decide, cs_re, Or.inl wd_381, ⟨ty_re, ty_re_ok⟩, nm_re, fun h => absurd h (by decide), fun h => absurd h (by decide)⟩
theorem lk_ck_21 : zf_e1 zt_Y zt_cl zt_Ts "MapForge$Checker" 21 9 0 := ⟨rn_ck, tn_ck, 6, rfl, by decide, cs_ck, Or.inl wd_421, ⟨ty_ck, ty_ck_ok⟩, nm_ck, fun h => absurd h (by decide), fun h => absurd h (by decide)⟩
theorem lk_ck_12 : zf_e1 zt_Y zt_cl zt_Ts "MapForge$Checker" 12 9 4 := ⟨rn_ck, tn_ck, 6, rfl, by decide, cs_ck, Or.inl wd_425, ⟨ty_ck, ty_ck_ok⟩, nm_ck, fun h => absurd h (by decide), fun h => absurd h (by decide)⟩
theorem lk_ck_76 : zf_e1 zt_Y zt_cl zt_Ts "MapForge$Checker" 76 8 4 := ⟨rn_re, tn_re, 12, rfl, by decide, cs_re, Or.inl wd_374, ⟨ty_re, ty_re_ok⟩, nm_re, fun h => absurd h (by decide), fun h => absurd h (by decide)⟩
theorem kt_ck_begins (l : Launch) : zk_me zt_Ts zt_Y zt_cl zt_Zs l (3, 66) yn_ck_begins prog_3_method_3_code 4 (some .boolean) zo_i fn_ck_begins := by
  refine zk_run (X := lx_ck_begins) (code := cd_ck_begins) 1 zt_ok (by decide) en_ck_begins (zf_up (L := lf_ck_begins) ?_) (zc_up (L := lc_ck_begins) ?_) (zz_up (L := lg_ck_begins) ?_) (zi_al_up (L := li_ck_begins) ?_) zr_z_ok (zm_fv_e (by decide))
  · exact List.forall_mem_cons.mpr ⟨lk_ck_33, List.forall_mem_cons.mpr ⟨lk_ck_71, List.forall_mem_cons.mpr ⟨lk_ck_21, List.forall_mem_cons.mpr ⟨lk_ck_12, List.forall_mem_cons.mpr ⟨lk_ck_76, zq_nil⟩⟩⟩⟩⟩
  · exact zq_nil
  · exact zq_nil
  · exact List.forall_mem_cons.mpr ⟨zj_al_i (zj_V (i := 80) zt_ok (kt_fa_fits l) wd_878 wd_879 wd_880 wd_78 wd_881 rfl (by unfold zn_ok; decide +kernel) (by decide)), List.forall_mem_cons.mpr ⟨zj_al_v (zj_V (i := 86) zt_ok (kt_fr_takeOver l) wd_883 wd_585 wd_586 wd_83 wd_587 rfl (by unfold zn_ok; decide +kernel) (by decide)), zq_nil⟩⟩
theorem kt_ck_fitsAt (l : Launch) : zk_me zt_Ts zt_Y zt_cl zt_Zs l (3, 66) yn_ck_fitsAt prog_3_method_6_code 4 (some .boolean) zo_i fn_ck_fitsAt := by
  refine zk_run (X := lx_ck_fitsAt) (code := cd_ck_fitsAt) 1 zt_ok (by decide) en_ck_fitsAt (zf_up (L := lf_ck_fitsAt) ?_) (zc_up (L := lc_ck_fitsAt) ?_) (zz_up (L := lg_ck_fitsAt) ?_) (zi_al_up (L := li_ck_fitsAt) ?_) zr_z_ok (zm_fv_e (by decide))
  · exact List.forall_mem_cons.mpr ⟨lk_ck_33, List.forall_mem_cons.mpr ⟨lk_ck_71, List.forall_mem_cons.mpr ⟨lk_ck_21, List.forall_mem_cons.mpr ⟨lk_ck_76, zq_nil⟩⟩⟩⟩
  · exact zq_nil
  · exact zq_nil
  · exact List.forall_mem_cons.mpr ⟨zj_al_i (zj_V (i := 80) zt_ok (kt_fa_fits l) wd_878 wd_879 wd_880 wd_78 wd_881 rfl (by unfold zn_ok; decide +kernel) (by decide)), zq_nil⟩
theorem lk_ck_25 : zf_e1 zt_Y zt_cl zt_Ts "MapForge$Checker" 25 9 1 := ⟨rn_ck, tn_ck, 6, rfl, by decide, cs_ck, Or.inl wd_422, ⟨ty_ck, ty_ck_ok⟩, nm_ck, fun h => absurd h (by decide), fun h => absurd h (by decide)⟩
theorem lk_ck_89 : zf_e1 zt_Y zt_cl zt_Ts "MapForge$Checker" 89 1 14 := ⟨rn_pr, tn_pr, 15, rfl, by decide, cs_pr, Or.inl wd_166, ⟨ty_pr, ty_pr_ok⟩, nm_pr, fun _ => ⟨rfl, rfl⟩, fun h => absurd h (by decide)⟩
theorem lk_ck_18 : zf_e1 zt_Y zt_cl zt_Ts "MapForge$Checker" 18 9 5 := ⟨rn_ck, tn_ck, 6, rfl, by decide, cs_ck, Or.inl wd_426, ⟨ty_ck, ty_ck_ok⟩, nm_ck, fun h => absurd h (by decide), fun h => absurd h (by decide)⟩
theorem lk_ck_96 : zf_e1 zt_Y zt_cl zt_Ts "MapForge$Checker" 96 1 13 := ⟨rn_pr, tn_pr, 15, rfl, by decide, cs_pr, Or.inl wd_162, ⟨ty_pr, ty_pr_ok⟩, nm_pr, fun h => absurd h (by decide), fun h => absurd h (by decide)⟩
theorem lk_ck_103 : zf_e1 zt_Y zt_cl zt_Ts "MapForge$Checker" 103 1 12 := ⟨rn_pr, tn_pr, 15, rfl, by decide, cs_pr, Or.inl wd_159, ⟨ty_pr, ty_pr_ok⟩, nm_pr, fun h => absurd h (by decide), fun h => absurd h (by decide)⟩
theorem kt_ck_handlersFit (l : Launch) : zk_me zt_Ts zt_Y zt_cl zt_Zs l (4, 89) yn_ck_handlersFit prog_3_method_4_code 3 (some .boolean) zo_i fn_ck_handlersFit := by
  refine zk_run (X := lx_ck_handlersFit) (code := cd_ck_handlersFit) 1073741824 zt_ok (by decide) en_ck_handlersFit (zf_up (L := lf_ck_handlersFit) ?_) (zc_up (L := lc_ck_handlersFit) ?_) (zz_up (L := lg_ck_handlersFit) ?_) (zi_al_up (L := li_ck_handlersFit) ?_) zr_z_ok (zm_fv_e (by decide))
  · exact List.forall_mem_cons.mpr ⟨lk_ck_25, List.forall_mem_cons.mpr ⟨lk_ck_89, List.forall_mem_cons.mpr ⟨lk_ck_18, List.forall_mem_cons.mpr ⟨lk_ck_12, List.forall_mem_cons.mpr ⟨lk_ck_96, List.forall_mem_cons.mpr ⟨lk_ck_103, zq_nil⟩⟩⟩⟩⟩⟩
  · exact zq_nil
  · exact zq_nil
  · exact List.forall_mem_cons.mpr ⟨zj_al_i (zj_V (i := 92) zt_ok (kt_pr_isGuarded l) wd_888 wd_597 wd_598 wd_79 wd_599 rfl (by unfold zn_ok; decide +kernel) (by decide)), List.forall_mem_cons.mpr ⟨zj_al_v (zj_V (i := 99) zt_ok (kt_fr_takeOverForHandler l) wd_889 wd_601 wd_602 wd_83 wd_603 rfl (by unfold zn_ok; decide +kernel) (by decide)), List.forall_mem_cons.mpr ⟨zj_al_i (zj_V (i := 106) zt_ok (kt_ck_fitsAt l) wd_890 wd_892 wd_30 wd_87 wd_893 rfl (by unfold zn_ok; decide +kernel) (by decide)), zq_nil⟩⟩⟩
theorem lk_ck_64 : zf_e1 zt_Y zt_cl zt_Ts "MapForge$Checker" 64 1 5 := ⟨rn_pr, tn_pr, 15, rfl, by decide, cs_pr, Or.inl wd_136, ⟨ty_pr, ty_pr_ok⟩, nm_pr, fun h => absurd h (by decide), fun h => absurd h (by decide)⟩
theorem lk_ck_112 : zf_e1 zt_Y zt_cl zt_Ts "MapForge$Checker" 112 1 7 := ⟨rn_pr, tn_pr, 15, rfl, by decide, cs_pr, Or.inl wd_143, ⟨ty_pr, ty_pr_ok⟩, nm_pr, fun h => absurd h (by decide), fun h => absurd h (by decide)⟩
theorem kt_ck_jumpFits (l : Launch) : zk_me zt_Ts zt_Y zt_cl zt_Zs l (4, 89) yn_ck_jumpFits prog_3_method_5_code 2 (some .boolean) zo_i fn_ck_jumpFits := by
  refine zk_run (X := lx_ck_jumpFits) (code := cd_ck_jumpFits) 1 zt_ok (by decide) en_ck_jumpFits (zf_up (L := lf_ck_jumpFits) ?_) (zc_up (L := lc_ck_jumpFits) ?_) (zz_up (L := lg_ck_jumpFits) ?_) (zi_al_up (L := li_ck_jumpFits) ?_) zr_z_ok (zm_fv_e (by decide))
  · exact List.forall_mem_cons.mpr ⟨lk_ck_25, List.forall_mem_cons.mpr ⟨lk_ck_64, List.forall_mem_cons.mpr ⟨lk_ck_112, List.forall_mem_cons.mpr ⟨lk_ck_12, zq_nil⟩⟩⟩⟩
  · exact zq_nil
  · exact zq_nil
  · exact List.forall_mem_cons.mpr ⟨zj_al_i (zj_SN (i := 109) zt_ok (kt_mf_isJump l) wd_899 wd_514 wd_77 wd_515 (by unfold zn_ok; decide +kernel) (by decide)), List.forall_mem_cons.mpr ⟨zj_al_i (zj_V (i := 106) zt_ok (kt_ck_fitsAt l) wd_890 wd_892 wd_30 wd_87 wd_893 rfl (by unfold zn_ok; decide +kernel) (by decide)), zq_nil⟩⟩
theorem lk_ck_43 : zf_e1 zt_Y zt_cl zt_Ts "MapForge$Checker" 43 1 9 := ⟨rn_pr, tn_pr, 15, rfl, by decide, cs_pr, Or.inl wd_151, ⟨ty_pr, ty_pr_ok⟩, nm_pr, fun _ => ⟨rfl, rfl⟩, fun h => absurd h (by decide)⟩
theorem lk_ck_29 : zf_e1 zt_Y zt_cl zt_Ts "MapForge$Checker" 29 9 2 := ⟨rn_ck, tn_ck, 6, rfl, by decide, cs_ck, Or.inl wd_423, ⟨ty_ck, ty_ck_ok⟩, nm_ck, fun h => absurd h (by decide), fun h => absurd h (by decide)⟩
theorem kt_ck_firstBad (l : Launch) : zk_me zt_Ts zt_Y zt_cl zt_Zs l (5, 113) yn_ck_firstBad prog_3_method_2_code 3 (some .int) zo_i fn_ck_firstBad := by
  refine zk_run (X := lx_ck_firstBad) (code := cd_ck_firstBad) 1073741824 zt_ok (by decide) en_ck_firstBad (zf_up (L := lf_ck_firstBad) ?_) (zc_up (L := lc_ck_firstBad) ?_) (zz_up (L := lg_ck_firstBad) ?_) (zi_al_up (L := li_ck_firstBad) ?_) zr_i_ok (zm_fv_e (by decide))
  · exact List.forall_mem_cons.mpr ⟨lk_ck_25, List.forall_mem_cons.mpr ⟨lk_ck_12, List.forall_mem_cons.mpr ⟨lk_ck_43, List.forall_mem_cons.mpr ⟨lk_ck_29, List.forall_mem_cons.mpr ⟨lk_ck_64, zq_nil⟩⟩⟩⟩⟩
  · exact zq_nil
  · exact zq_nil
  · exact List.forall_mem_cons.mpr ⟨zj_al_v (zj_V (i := 37) zt_ok (kt_pr_enter l) wd_873 wd_553 wd_554 wd_79 wd_555 rfl (by unfold zn_ok; decide +kernel) (by decide)), List.forall_mem_cons.mpr ⟨zj_al_i (zj_V (i := 47) zt_ok (kt_ck_begins l) wd_874 wd_876 wd_28 wd_87 wd_877 rfl (by unfold zn_ok; decide +kernel) (by decide)), List.forall_mem_cons.mpr ⟨zj_al_i (zj_V (i := 51) zt_ok (kt_ck_handlersFit l) wd_884 wd_886 wd_29 wd_87 wd_887 rfl (by unfold zn_ok; decide +kernel) (by decide)), List.forall_mem_cons.mpr ⟨zj_al_i (zj_V (i := 55) zt_ok (kt_ma_step l) wd_894 wd_617 wd_618 wd_81 wd_619 rfl (by unfold zn_ok; decide +kernel) (by decide)), List.forall_mem_cons.mpr ⟨zj_al_i (zj_V (i := 61) zt_ok (kt_ck_jumpFits l) wd_895 wd_897 wd_31 wd_87 wd_898 rfl (by unfold zn_ok; decide +kernel) (by decide)), List.forall_mem_cons.mpr ⟨zj_al_i (zj_SN (i := 68) zt_ok (kt_mf_isEnd l) wd_900 wd_707 wd_77 wd_708 (by unfold zn_ok; decide +kernel) (by decide)), zq_nil⟩⟩⟩⟩⟩⟩
theorem lk_mf_67 : zf_e1 zt_Y zt_cl zt_Ts "MapForge" 67 10 6 := ⟨rn_mf, tn_mf, 7, rfl, by decide, cs_mf, Or.inl wd_446, ⟨ty_mf, ty_mf_ok⟩, nm_mf, fun h => absurd h (by decide), fun h => absurd h (by decide)⟩
theorem kt_mf_check (l : Launch) : zk_me zt_Ts zt_Y zt_cl zt_Zs l (7, 155) yn_mf_check prog_1_method_10_code 1 (some .int) zo_i fn_mf_check := by
  refine zk_run (X := lx_mf_check) (code := cd_mf_check) 1 zt_ok (by decide) en_mf_check (zf_up (L := lf_mf_check) ?_) (zc_up (L := lc_mf_check) ?_) (zz_up (L := lg_mf_check) ?_) (zi_al_up (L := li_mf_check) ?_) zr_i_ok (zm_fv_e (by decide))
  · exact List.forall_mem_cons.mpr ⟨lk_mf_19, List.forall_mem_cons.mpr ⟨lk_mf_104, List.forall_mem_cons.mpr ⟨lk_mf_58, List.forall_mem_cons.mpr ⟨lk_mf_67, zq_nil⟩⟩⟩⟩
  · exact zq_nil
  · exact zq_nil
  · exact List.forall_mem_cons.mpr ⟨zj_al_i (zj_V (i := 153) zt_ok (kt_re_isSound l) wd_812 wd_813 wd_814 wd_86 wd_815 rfl (by unfold zn_ok; decide +kernel) (by decide)), List.forall_mem_cons.mpr ⟨zj_al_i (zj_V (i := 156) zt_ok (kt_ck_firstBad l) wd_869 wd_870 wd_871 wd_87 wd_872 rfl (by unfold zn_ok; decide +kernel) (by decide)), zq_nil⟩⟩
theorem lk_mf_159 : zf_e1 zt_Y zt_cl zt_Ts "MapForge" 159 2 0 := ⟨rn_by, tn_by, 2, rfl, by decide, cs_by, Or.inl wd_207, ⟨ty_by, ty_by_ok⟩, nm_by, fun h => absurd h (by decide), fun h => absurd h (by decide)⟩
theorem kt_mf_map (l : Launch) : zk_me zt_Ts zt_Y zt_cl zt_Zs l (0, 0) yn_mf_map prog_1_method_11_code 2 (some .int) zo_i fn_mf_map := by
  refine zk_run (X := lx_mf_map) (code := cd_mf_map) 1 zt_ok (by decide) en_mf_map (zf_up (L := lf_mf_map) ?_) (zc_up (L := lc_mf_map) ?_) (zz_up (L := lg_mf_map) ?_) (zi_al_up (L := li_mf_map) ?_) zr_i_ok (zm_fv_e (by decide))
  · exact List.forall_mem_cons.mpr ⟨lk_mf_26, List.forall_mem_cons.mpr ⟨lk_mf_131, List.forall_mem_cons.mpr ⟨lk_mf_159, zq_nil⟩⟩⟩
  · exact zq_nil
  · exact zq_nil
  · exact zq_nil
theorem kt_mf_patch (l : Launch) : zk_me zt_Ts zt_Y zt_cl zt_Zs l (1, 21) yn_mf_patch prog_1_method_12_code 3 (some .boolean) zo_i fn_mf_patch := by
  refine zk_run (X := lx_mf_patch) (code := cd_mf_patch) 1 zt_ok (by decide) en_mf_patch (zf_up (L := lf_mf_patch) ?_) (zc_up (L := lc_mf_patch) ?_) (zz_up (L := lg_mf_patch) ?_) (zi_al_up (L := li_mf_patch) ?_) zr_z_ok (zm_fv_e (by decide))
  · exact List.forall_mem_cons.mpr ⟨lk_mf_26, List.forall_mem_cons.mpr ⟨lk_mf_131, List.forall_mem_cons.mpr ⟨lk_mf_159, List.forall_mem_cons.mpr ⟨lk_mf_58, List.forall_mem_cons.mpr ⟨lk_mf_136, zq_nil⟩⟩⟩⟩⟩
  · exact zq_nil
  · exact zq_nil
  · exact List.forall_mem_cons.mpr ⟨zj_al_i (zj_mx (i := 162) wd_909 wd_910 wd_91 (zt_m 911 (by decide +kernel) (by decide +kernel)) (by decide)), zq_nil⟩
theorem kt_mf_cut (l : Launch) : zk_me zt_Ts zt_Y zt_cl zt_Zs l (0, 0) yn_mf_cut prog_1_method_13_code 3 (some .int) zo_i fn_mf_cut := by
  refine zk_run (X := lx_mf_cut) (code := cd_mf_cut) 1 zt_ok (by decide) en_mf_cut (zf_up (L := lf_mf_cut) ?_) (zc_up (L := lc_mf_cut) ?_) (zz_up (L := lg_mf_cut) ?_) (zi_al_up (L := li_mf_cut) ?_) zr_i_ok (zm_fv_e (by decide))
  · exact List.forall_mem_cons.mpr ⟨lk_mf_26, List.forall_mem_cons.mpr ⟨lk_mf_131, List.forall_mem_cons.mpr ⟨lk_mf_58, List.forall_mem_cons.mpr ⟨lk_mf_136, zq_nil⟩⟩⟩⟩
  · exact zq_nil
  · exact zq_nil
  · exact zq_nil
theorem lk_mf_168 : zf_e1 zt_Y zt_cl zt_Ts "MapForge" 168 8 8 := ⟨rn_re, tn_re, 12, rfl, by decide, cs_re, Or.inl wd_383, ⟨ty_re, ty_re_ok⟩, nm_re, fun _ => ⟨rfl, rfl⟩, fun h => absurd h (by decide)⟩
theorem lk_mf_171 : zf_e1 zt_Y zt_cl zt_Ts "MapForge" 171 8 5 := ⟨rn_re, tn_re, 12, rfl, by decide, cs_re, Or.inl wd_377, ⟨ty_re, ty_re_ok⟩, nm_re, fun h => absurd h (by decide), fun h => absurd h (by decide)⟩
theorem lk_mf_174 : zf_e1 zt_Y zt_cl zt_Ts "MapForge" 174 8 6 := ⟨rn_re, tn_re, 12, rfl, by decide, cs_re, Or.inl wd_379, ⟨ty_re, ty_re_ok⟩, nm_re, fun h => absurd h (by decide), fun h => absurd h (by decide)⟩
theorem lk_mf_177 : zf_e1 zt_Y zt_cl zt_Ts "MapForge" 177 8 4 := ⟨rn_re, tn_re, 12, rfl, by decide, cs_re, Or.inl wd_375, ⟨ty_re, ty_re_ok⟩, nm_re, fun h => absurd h (by decide), fun h => absurd h (by decide)⟩
theorem kt_mf_row (l : Launch) : zk_me zt_Ts zt_Y zt_cl zt_Zs l (7, 155) yn_mf_row prog_1_method_14_code 3 (some .int) zo_i fn_mf_row := by
  refine zk_run (X := lx_mf_row) (code := cd_mf_row) 1 zt_ok (by decide) en_mf_row (zf_up (L := lf_mf_row) ?_) (zc_up (L := lc_mf_row) ?_) (zz_up (L := lg_mf_row) ?_) (zi_al_up (L := li_mf_row) ?_) zr_i_ok (zm_fv_e (by decide))
  · exact List.forall_mem_cons.mpr ⟨lk_mf_58, List.forall_mem_cons.mpr ⟨lk_mf_168, List.forall_mem_cons.mpr ⟨lk_mf_171, List.forall_mem_cons.mpr ⟨lk_mf_174, List.forall_mem_cons.mpr ⟨lk_mf_177, zq_nil⟩⟩⟩⟩⟩
  · exact zq_nil
  · exact zq_nil
  · exact List.forall_mem_cons.mpr ⟨zj_al_i (zj_S (i := 140) zt_ok (kt_mf_isQuestion l) wd_801 wd_802 wd_77 wd_803 (by unfold zn_ok; decide +kernel) (by decide)), List.forall_mem_cons.mpr ⟨zj_al_i (zj_V (i := 153) zt_ok (kt_re_isSound l) wd_812 wd_813 wd_814 wd_86 wd_815 rfl (by unfold zn_ok; decide +kernel) (by decide)), List.forall_mem_cons.mpr ⟨zj_al_i (zj_V (i := 148) zt_ok (kt_fr_tell l) wd_804 wd_805 wd_806 wd_83 wd_807 rfl (by unfold zn_ok; decide +kernel) (by decide)), zq_nil⟩⟩⟩
theorem lk_mf_178 : zf_e1 zt_Y zt_cl zt_Ts "MapForge" 178 1 5 := ⟨rn_pr, tn_pr, 15, rfl, by decide, cs_pr, Or.inl wd_138, ⟨ty_pr, ty_pr_ok⟩, nm_pr, fun h => absurd h (by decide), fun h => absurd h (by decide)⟩
theorem lk_mf_181 : zf_e1 zt_Y zt_cl zt_Ts "MapForge" 181 1 6 := ⟨rn_pr, tn_pr, 15, rfl, by decide, cs_pr, Or.inl wd_141, ⟨ty_pr, ty_pr_ok⟩, nm_pr, fun h => absurd h (by decide), fun h => absurd h (by decide)⟩
theorem lk_mf_184 : zf_e1 zt_Y zt_cl zt_Ts "MapForge" 184 1 7 := ⟨rn_pr, tn_pr, 15, rfl, by decide, cs_pr, Or.inl wd_146, ⟨ty_pr, ty_pr_ok⟩, nm_pr, fun h => absurd h (by decide), fun h => absurd h (by decide)⟩
theorem lk_mf_187 : zf_e1 zt_Y zt_cl zt_Ts "MapForge" 187 1 8 := ⟨rn_pr, tn_pr, 15, rfl, by decide, cs_pr, Or.inl wd_150, ⟨ty_pr, ty_pr_ok⟩, nm_pr, fun h => absurd h (by decide), fun h => absurd h (by decide)⟩
theorem kt_mf_code (l : Launch) : zk_me zt_Ts zt_Y zt_cl zt_Zs l (0, 0) yn_mf_code prog_1_method_15_code 3 (some .int) zo_i fn_mf_code := by
  refine zk_run (X := lx_mf_code) (code := cd_mf_code) 1 zt_ok (by decide) en_mf_code (zf_up (L := lf_mf_code) ?_) (zc_up (L := lc_mf_code) ?_) (zz_up (L := lg_mf_code) ?_) (zi_al_up (L := li_mf_code) ?_) zr_i_ok (zm_fv_e (by decide))
  · exact List.forall_mem_cons.mpr ⟨lk_mf_19, List.forall_mem_cons.mpr ⟨lk_mf_104, List.forall_mem_cons.mpr ⟨lk_mf_178, List.forall_mem_cons.mpr ⟨lk_mf_181, List.forall_mem_cons.mpr ⟨lk_mf_184, List.forall_mem_cons.mpr ⟨lk_mf_187, zq_nil⟩⟩⟩⟩⟩⟩
  · exact zq_nil
  · exact zq_nil
  · exact zq_nil
theorem kt_mf_count (l : Launch) : zk_me zt_Ts zt_Y zt_cl zt_Zs l (7, 155) yn_mf_count prog_1_method_16_code 2 (some .int) zo_i fn_mf_count := by
  refine zk_run (X := lx_mf_count) (code := cd_mf_count) 1 zt_ok (by decide) en_mf_count (zf_up (L := lf_mf_count) ?_) (zc_up (L := lc_mf_count) ?_) (zz_up (L := lg_mf_count) ?_) (zi_al_up (L := li_mf_count) ?_) zr_i_ok (zm_fv_e (by decide))
  · exact List.forall_mem_cons.mpr ⟨lk_mf_19, List.forall_mem_cons.mpr ⟨lk_mf_104, List.forall_mem_cons.mpr ⟨lk_mf_114, List.forall_mem_cons.mpr ⟨lk_mf_92, List.forall_mem_cons.mpr ⟨lk_mf_187, List.forall_mem_cons.mpr ⟨lk_mf_58, List.forall_mem_cons.mpr ⟨lk_mf_168, zq_nil⟩⟩⟩⟩⟩⟩⟩
  · exact zq_nil
  · exact zq_nil
  · exact List.forall_mem_cons.mpr ⟨zj_al_i (zj_V (i := 153) zt_ok (kt_re_isSound l) wd_812 wd_813 wd_814 wd_86 wd_815 rfl (by unfold zn_ok; decide +kernel) (by decide)), zq_nil⟩
theorem kt_mo_in (l : Launch) : zk_me zt_Ts zt_Y zt_cl zt_Zs l (0, 0) yn_mo_in prog_13_method_2_code 3 (some .boolean) zo_i fn_mo_in := by
  refine zk_run (X := lx_mo_in) (code := cd_mo_in) 1 zt_ok (by decide) en_mo_in (zf_up (L := lf_mo_in) ?_) (zc_up (L := lc_mo_in) ?_) (zz_up (L := lg_mo_in) ?_) (zi_al_up (L := li_mo_in) ?_) zr_z_ok (zm_fs_e (by decide))
  · exact zq_nil
  · exact zq_nil
  · exact zq_nil
  · exact zq_nil
theorem lk_mo_7 : zf_e1 zt_Y zt_cl zt_Ts "MapForgeModel" 7 11 0 := ⟨rn_mo, tn_mo, 43, rfl, by decide, cs_mo, Or.inl wd_934, ⟨ty_mo, ty_mo_ok⟩, nm_mo, fun h => absurd h (by decide), fun h => absurd h (by decide)⟩
theorem lk_mo_13 : zf_e1 zt_Y zt_cl zt_Ts "MapForgeModel" 13 11 1 := ⟨rn_mo, tn_mo, 43, rfl, by decide, cs_mo, Or.inl wd_935, ⟨ty_mo, ty_mo_ok⟩, nm_mo, fun h => absurd h (by decide), fun h => absurd h (by decide)⟩
theorem kt_mo_type (l : Launch) : zk_me zt_Ts zt_Y zt_cl zt_Zs l (1, 22) yn_mo_type prog_13_method_8_code 4 (some .boolean) zo_i fn_mo_type := by
  refine zk_run (X := lx_mo_type) (code := cd_mo_type) 1 zt_ok (by decide) en_mo_type (zf_up (L := lf_mo_type) ?_) (zc_up (L := lc_mo_type) ?_) (zz_up (L := lg_mo_type) ?_) (zi_al_up (L := li_mo_type) ?_) zr_z_ok (zm_fv_e (by decide))
  · exact List.forall_mem_cons.mpr ⟨lk_mo_7, List.forall_mem_cons.mpr ⟨lk_mo_13, zq_nil⟩⟩
  · exact zq_nil
  · exact zq_nil
  · exact List.forall_mem_cons.mpr ⟨zj_al_i (zj_S (i := 97) zt_ok (kt_mo_in l) wd_1068 wd_1069 wd_88 wd_1070 (by unfold zn_ok; decide +kernel) (by decide)), zq_nil⟩
theorem lk_mo_101 : zf_e1 zt_Y zt_cl zt_Ts "MapForgeModel" 101 11 2 := ⟨rn_mo, tn_mo, 43, rfl, by decide, cs_mo, Or.inl wd_936, ⟨ty_mo, ty_mo_ok⟩, nm_mo, fun _ => ⟨rfl, rfl⟩, fun h => absurd h (by decide)⟩
theorem lk_mo_105 : zf_e1 zt_Y zt_cl zt_Ts "MapForgeModel" 105 11 3 := ⟨rn_mo, tn_mo, 43, rfl, by decide, cs_mo, Or.inl wd_937, ⟨ty_mo, ty_mo_ok⟩, nm_mo, fun _ => ⟨rfl, rfl⟩, fun h => absurd h (by decide)⟩
theorem lk_mo_108 : zf_e1 zt_Y zt_cl zt_Ts "MapForgeModel" 108 11 8 := ⟨rn_mo, tn_mo, 43, rfl, by decide, cs_mo, Or.inl wd_942, ⟨ty_mo, ty_mo_ok⟩, nm_mo, fun h => absurd h (by decide), fun _ => ⟨rfl, rfl⟩⟩
theorem lk_mo_112 : zf_e1 zt_Y zt_cl zt_Ts "MapForgeModel" 112 11 4 := ⟨rn_mo, tn_mo, 43, rfl, by decide, cs_mo, Or.inl wd_938, ⟨ty_mo, ty_mo_ok⟩, nm_mo, fun _ => ⟨rfl, rfl⟩, fun h => absurd h (by decide)⟩
theorem lk_mo_115 : zf_e1 zt_Y zt_cl zt_Ts "MapForgeModel" 115 11 5 := ⟨rn_mo, tn_mo, 43, rfl, by decide, cs_mo, Or.inl wd_939, ⟨ty_mo, ty_mo_ok⟩, nm_mo, fun _ => ⟨rfl, rfl⟩, fun h => absurd h (by decide)⟩
theorem lk_mo_118 : zf_e1 zt_Y zt_cl zt_Ts "MapForgeModel" 118 11 6 := ⟨rn_mo, tn_mo, 43, rfl, by decide, cs_mo, Or.inl wd_940, ⟨ty_mo, ty_mo_ok⟩, nm_mo, fun _ => ⟨rfl, rfl⟩, fun h => absurd h (by decide)⟩
theorem kt_mo_method (l : Launch) : zk_me zt_Ts zt_Y zt_cl zt_Zs l (1, 22) yn_mo_method prog_13_method_9_code 4 (some .boolean) zo_i fn_mo_method := by
  refine zk_run (X := lx_mo_method) (code := cd_mo_method) 1 zt_ok (by decide) en_mo_method (zf_up (L := lf_mo_method) ?_) (zc_up (L := lc_mo_method) ?_) (zz_up (L := lg_mo_method) ?_) (zi_al_up (L := li_mo_method) ?_) zr_z_ok (zm_fv_e (by decide))
  · exact List.forall_mem_cons.mpr ⟨lk_mo_101, List.forall_mem_cons.mpr ⟨lk_mo_105, List.forall_mem_cons.mpr ⟨lk_mo_108, List.forall_mem_cons.mpr ⟨lk_mo_112, List.forall_mem_cons.mpr ⟨lk_mo_115, List.forall_mem_cons.mpr ⟨lk_mo_118, zq_nil⟩⟩⟩⟩⟩⟩
  · exact zq_nil
  · exact zq_nil
  · exact List.forall_mem_cons.mpr ⟨zj_al_i (zj_S (i := 97) zt_ok (kt_mo_in l) wd_1068 wd_1069 wd_88 wd_1070 (by unfold zn_ok; decide +kernel) (by decide)), zq_nil⟩
theorem kt_mo_kind (l : Launch) : zk_me zt_Ts zt_Y zt_cl zt_Zs l (0, 0) yn_mo_kind prog_13_method_3_code 1 (some .int) zo_i fn_mo_kind := by
  refine zk_run (X := lx_mo_kind) (code := cd_mo_kind) 1 zt_ok (by decide) en_mo_kind (zf_up (L := lf_mo_kind) ?_) (zc_up (L := lc_mo_kind) ?_) (zz_up (L := lg_mo_kind) ?_) (zi_al_up (L := li_mo_kind) ?_) zr_i_ok (zm_fs_e (by decide))
  · exact zq_nil
  · exact zq_nil
  · exact zq_nil
  · exact zq_nil
theorem lk_mo_17 : zf_e1 zt_Y zt_cl zt_Ts "MapForgeModel" 17 11 9 := ⟨rn_mo, tn_mo, 43, rfl, by decide, cs_mo, Or.inl wd_943, ⟨ty_mo, ty_mo_ok⟩, nm_mo, fun h => absurd h (by decide), fun h => absurd h (by decide)⟩
theorem kt_mo_argument (l : Launch) : zk_me zt_Ts zt_Y zt_cl zt_Zs l (1, 22) yn_mo_argument prog_13_method_10_code 2 (some .int) zo_i fn_mo_argument := by
  refine zk_run (X := lx_mo_argument) (code := cd_mo_argument) 1 zt_ok (by decide) en_mo_argument (zf_up (L := lf_mo_argument) ?_) (zc_up (L := lc_mo_argument) ?_) (zz_up (L := lg_mo_argument) ?_) (zi_al_up (L := li_mo_argument) ?_) zr_i_ok (zm_fv_e (by decide))
  · exact List.forall_mem_cons.mpr ⟨lk_mo_112, List.forall_mem_cons.mpr ⟨lk_mo_17, zq_nil⟩⟩
  · exact zq_nil
  · exact zq_nil
  · exact List.forall_mem_cons.mpr ⟨zj_al_i (zj_S (i := 97) zt_ok (kt_mo_in l) wd_1068 wd_1069 wd_88 wd_1070 (by unfold zn_ok; decide +kernel) (by decide)), List.forall_mem_cons.mpr ⟨zj_al_i (zj_S (i := 89) zt_ok (kt_mo_kind l) wd_1079 wd_1080 wd_88 wd_1081 (by unfold zn_ok; decide +kernel) (by decide)), zq_nil⟩⟩
theorem kt_mo_isWideLocal (l : Launch) : zk_me zt_Ts zt_Y zt_cl zt_Zs l (0, 0) yn_mo_isWideLocal prog_13_method_11_code 1 (some .boolean) zo_i fn_mo_isWideLocal := by
  refine zk_run (X := lx_mo_isWideLocal) (code := cd_mo_isWideLocal) 1 zt_ok (by decide) en_mo_isWideLocal (zf_up (L := lf_mo_isWideLocal) ?_) (zc_up (L := lc_mo_isWideLocal) ?_) (zz_up (L := lg_mo_isWideLocal) ?_) (zi_al_up (L := li_mo_isWideLocal) ?_) zr_z_ok (zm_fs_e (by decide))
  · exact zq_nil
  · exact zq_nil
  · exact zq_nil
  · exact zq_nil
theorem kt_mo_isGood (l : Launch) : zk_me zt_Ts zt_Y zt_cl zt_Zs l (1, 22) yn_mo_isGood prog_13_method_12_code 3 (some .boolean) zo_i fn_mo_isGood := by
  refine zk_run (X := lx_mo_isGood) (code := cd_mo_isGood) 1 zt_ok (by decide) en_mo_isGood (zf_up (L := lf_mo_isGood) ?_) (zc_up (L := lc_mo_isGood) ?_) (zz_up (L := lg_mo_isGood) ?_) (zi_al_up (L := li_mo_isGood) ?_) zr_z_ok (zm_fs_e (by decide))
  · exact zq_nil
  · exact zq_nil
  · exact zq_nil
  · exact List.forall_mem_cons.mpr ⟨zj_al_i (zj_S (i := 97) zt_ok (kt_mo_in l) wd_1068 wd_1069 wd_88 wd_1070 (by unfold zn_ok; decide +kernel) (by decide)), List.forall_mem_cons.mpr ⟨zj_al_i (zj_S (i := 121) zt_ok (kt_mo_isWideLocal l) wd_1089 wd_1090 wd_88 wd_1091 (by unfold zn_ok; decide +kernel) (by decide)), zq_nil⟩⟩
theorem lk_mo_20 : zf_e1 zt_Y zt_cl zt_Ts "MapForgeModel" 20 11 10 := ⟨rn_mo, tn_mo, 43, rfl, by decide, cs_mo, Or.inl wd_944, ⟨ty_mo, ty_mo_ok⟩, nm_mo, fun h => absurd h (by decide), fun h => absurd h (by decide)⟩
theorem lk_mo_23 : zf_e1 zt_Y zt_cl zt_Ts "MapForgeModel" 23 11 11 := ⟨rn_mo, tn_mo, 43, rfl, by decide, cs_mo, Or.inl wd_945, ⟨ty_mo, ty_mo_ok⟩, nm_mo, fun h => absurd h (by decide), fun h => absurd h (by decide)⟩
theorem lk_mo_26 : zf_e1 zt_Y zt_cl zt_Ts "MapForgeModel" 26 11 12 := ⟨rn_mo, tn_mo, 43, rfl, by decide, cs_mo, Or.inl wd_946, ⟨ty_mo, ty_mo_ok⟩, nm_mo, fun h => absurd h (by decide), fun h => absurd h (by decide)⟩
theorem kt_mo_set (l : Launch) : zk_me zt_Ts zt_Y zt_cl zt_Zs l (1, 22) yn_mo_set prog_13_method_13_code 5 none zo_v fn_mo_set := by
  refine zk_run (X := lx_mo_set) (code := cd_mo_set) 1 zt_ok (by decide) en_mo_set (zf_up (L := lf_mo_set) ?_) (zc_up (L := lc_mo_set) ?_) (zz_up (L := lg_mo_set) ?_) (zi_al_up (L := li_mo_set) ?_) zr_v_ok (zm_fv_e (by decide))
  · exact List.forall_mem_cons.mpr ⟨lk_mo_20, List.forall_mem_cons.mpr ⟨lk_mo_23, List.forall_mem_cons.mpr ⟨lk_mo_26, zq_nil⟩⟩⟩
  · exact zq_nil
  · exact zq_nil
  · exact List.forall_mem_cons.mpr ⟨zj_al_i (zj_S (i := 97) zt_ok (kt_mo_in l) wd_1068 wd_1069 wd_88 wd_1070 (by unfold zn_ok; decide +kernel) (by decide)), zq_nil⟩
theorem kt_mo_add (l : Launch) : zk_me zt_Ts zt_Y zt_cl zt_Zs l (2, 46) yn_mo_add prog_13_method_14_code 5 (some .int) zo_i fn_mo_add := by
  refine zk_run (X := lx_mo_add) (code := cd_mo_add) 1 zt_ok (by decide) en_mo_add (zf_up (L := lf_mo_add) ?_) (zc_up (L := lc_mo_add) ?_) (zz_up (L := lg_mo_add) ?_) (zi_al_up (L := li_mo_add) ?_) zr_i_ok (zm_fv_e (by decide))
  · exact List.forall_mem_cons.mpr ⟨lk_mo_115, zq_nil⟩
  · exact zq_nil
  · exact zq_nil
  · exact List.forall_mem_cons.mpr ⟨zj_al_i (zj_S (i := 125) zt_ok (kt_mo_isGood l) wd_1086 wd_1087 wd_88 wd_1088 (by unfold zn_ok; decide +kernel) (by decide)), List.forall_mem_cons.mpr ⟨zj_al_v (zj_V (i := 128) zt_ok (kt_mo_set l) wd_1092 wd_1094 wd_32 wd_88 wd_1095 rfl (by unfold zn_ok; decide +kernel) (by decide)), zq_nil⟩⟩
theorem kt_mo_change (l : Launch) : zk_me zt_Ts zt_Y zt_cl zt_Zs l (2, 46) yn_mo_change prog_13_method_15_code 6 (some .boolean) zo_i fn_mo_change := by
  refine zk_run (X := lx_mo_change) (code := cd_mo_change) 1 zt_ok (by decide) en_mo_change (zf_up (L := lf_mo_change) ?_) (zc_up (L := lc_mo_change) ?_) (zz_up (L := lg_mo_change) ?_) (zi_al_up (L := li_mo_change) ?_) zr_z_ok (zm_fv_e (by decide))
  · exact List.forall_mem_cons.mpr ⟨lk_mo_115, zq_nil⟩
  · exact zq_nil
  · exact zq_nil
  · exact List.forall_mem_cons.mpr ⟨zj_al_i (zj_S (i := 125) zt_ok (kt_mo_isGood l) wd_1086 wd_1087 wd_88 wd_1088 (by unfold zn_ok; decide +kernel) (by decide)), List.forall_mem_cons.mpr ⟨zj_al_i (zj_S (i := 97) zt_ok (kt_mo_in l) wd_1068 wd_1069 wd_88 wd_1070 (by unfold zn_ok; decide +kernel) (by decide)), List.forall_mem_cons.mpr ⟨zj_al_v (zj_V (i := 128) zt_ok (kt_mo_set l) wd_1092 wd_1094 wd_32 wd_88 wd_1095 rfl (by unfold zn_ok; decide +kernel) (by decide)), zq_nil⟩⟩⟩
theorem lk_mo_29 : zf_e1 zt_Y zt_cl zt_Ts "MapForgeModel" 29 11 13 := ⟨rn_mo, tn_mo, 43, rfl, by decide, cs_mo, Or.inl wd_947, ⟨ty_mo, ty_mo_ok⟩, nm_mo, fun h => absurd h (by decide), fun h => absurd h (by decide)⟩
theorem lk_mo_32 : zf_e1 zt_Y zt_cl zt_Ts "MapForgeModel" 32 11 14 := ⟨rn_mo, tn_mo, 43, rfl, by decide, cs_mo, Or.inl wd_948, ⟨ty_mo, ty_mo_ok⟩, nm_mo, fun h => absurd h (by decide), fun h => absurd h (by decide)⟩
theorem lk_mo_35 : zf_e1 zt_Y zt_cl zt_Ts "MapForgeModel" 35 11 15 := ⟨rn_mo, tn_mo, 43, rfl, by decide, cs_mo, Or.inl wd_949, ⟨ty_mo, ty_mo_ok⟩, nm_mo, fun h => absurd h (by decide), fun h => absurd h (by decide)⟩
theorem lk_mo_38 : zf_e1 zt_Y zt_cl zt_Ts "MapForgeModel" 38 11 16 := ⟨rn_mo, tn_mo, 43, rfl, by decide, cs_mo, Or.inl wd_950, ⟨ty_mo, ty_mo_ok⟩, nm_mo, fun h => absurd h (by decide), fun h => absurd h (by decide)⟩
theorem kt_mo_handle (l : Launch) : zk_me zt_Ts zt_Y zt_cl zt_Zs l (1, 22) yn_mo_handle prog_13_method_16_code 5 (some .int) zo_i fn_mo_handle := by
  refine zk_run (X := lx_mo_handle) (code := cd_mo_handle) 1 zt_ok (by decide) en_mo_handle (zf_up (L := lf_mo_handle) ?_) (zc_up (L := lc_mo_handle) ?_) (zz_up (L := lg_mo_handle) ?_) (zi_al_up (L := li_mo_handle) ?_) zr_i_ok (zm_fv_e (by decide))
  · exact List.forall_mem_cons.mpr ⟨lk_mo_118, List.forall_mem_cons.mpr ⟨lk_mo_29, List.forall_mem_cons.mpr ⟨lk_mo_32, List.forall_mem_cons.mpr ⟨lk_mo_35, List.forall_mem_cons.mpr ⟨lk_mo_38, zq_nil⟩⟩⟩⟩⟩
  · exact zq_nil
  · exact zq_nil
  · exact List.forall_mem_cons.mpr ⟨zj_al_i (zj_S (i := 97) zt_ok (kt_mo_in l) wd_1068 wd_1069 wd_88 wd_1070 (by unfold zn_ok; decide +kernel) (by decide)), zq_nil⟩
theorem kt_mo_isWide (l : Launch) : zk_me zt_Ts zt_Y zt_cl zt_Zs l (0, 0) yn_mo_isWide prog_13_method_4_code 1 (some .boolean) zo_i fn_mo_isWide := by
  refine zk_run (X := lx_mo_isWide) (code := cd_mo_isWide) 1 zt_ok (by decide) en_mo_isWide (zf_up (L := lf_mo_isWide) ?_) (zc_up (L := lc_mo_isWide) ?_) (zz_up (L := lg_mo_isWide) ?_) (zi_al_up (L := li_mo_isWide) ?_) zr_z_ok (zm_fs_e (by decide))
  · exact zq_nil
  · exact zq_nil
  · exact zq_nil
  · exact zq_nil
theorem lk_mo_44 : zf_e1 zt_Y zt_cl zt_Ts "MapForgeModel" 44 11 18 := ⟨rn_mo, tn_mo, 43, rfl, by decide, cs_mo, Or.inl wd_952, ⟨ty_mo, ty_mo_ok⟩, nm_mo, fun h => absurd h (by decide), fun h => absurd h (by decide)⟩
theorem lk_mo_138 : zf_e1 zt_Y zt_cl zt_Ts "MapForgeModel" 138 11 20 := ⟨rn_mo, tn_mo, 43, rfl, by decide, cs_mo, Or.inl wd_954, ⟨ty_mo, ty_mo_ok⟩, nm_mo, fun _ => ⟨rfl, rfl⟩, fun h => absurd h (by decide)⟩
theorem lk_mo_141 : zf_e1 zt_Y zt_cl zt_Ts "MapForgeModel" 141 11 21 := ⟨rn_mo, tn_mo, 43, rfl, by decide, cs_mo, Or.inl wd_955, ⟨ty_mo, ty_mo_ok⟩, nm_mo, fun h => absurd h (by decide), fun _ => ⟨rfl, rfl⟩⟩
theorem kt_mo_first (l : Launch) : zk_me zt_Ts zt_Y zt_cl zt_Zs l (1, 20) yn_mo_first prog_13_method_20_code 3 none zo_v fn_mo_first := by
  refine zk_run (X := lx_mo_first) (code := cd_mo_first) 1073741824 zt_ok (by decide) en_mo_first (zf_up (L := lf_mo_first) ?_) (zc_up (L := lc_mo_first) ?_) (zz_up (L := lg_mo_first) ?_) (zi_al_up (L := li_mo_first) ?_) zr_v_ok (zm_fv_e (by decide))
  · exact List.forall_mem_cons.mpr ⟨lk_mo_44, List.forall_mem_cons.mpr ⟨lk_mo_105, List.forall_mem_cons.mpr ⟨lk_mo_101, List.forall_mem_cons.mpr ⟨lk_mo_112, List.forall_mem_cons.mpr ⟨lk_mo_17, List.forall_mem_cons.mpr ⟨lk_mo_138, List.forall_mem_cons.mpr ⟨lk_mo_141, zq_nil⟩⟩⟩⟩⟩⟩⟩
  · exact zq_nil
  · exact zq_nil
  · exact List.forall_mem_cons.mpr ⟨zj_al_i (zj_S (i := 135) zt_ok (kt_mo_isWide l) wd_1116 wd_1117 wd_88 wd_1118 (by unfold zn_ok; decide +kernel) (by decide)), zq_nil⟩
theorem kt_mo_isInLine (l : Launch) : zk_me zt_Ts zt_Y zt_cl zt_Zs l (0, 0) yn_mo_isInLine prog_13_method_5_code 4 (some .boolean) zo_i fn_mo_isInLine := by
  refine zk_run (X := lx_mo_isInLine) (code := cd_mo_isInLine) 1073741824 zt_ok (by decide) en_mo_isInLine (zf_up (L := lf_mo_isInLine) ?_) (zc_up (L := lc_mo_isInLine) ?_) (zz_up (L := lg_mo_isInLine) ?_) (zi_al_up (L := li_mo_isInLine) ?_) zr_z_ok (zm_fv_e (by decide))
  · exact List.forall_mem_cons.mpr ⟨lk_mo_7, zq_nil⟩
  · exact zq_nil
  · exact zq_nil
  · exact zq_nil
theorem kt_mo_join (l : Launch) : zk_me zt_Ts zt_Y zt_cl zt_Zs l (1, 23) yn_mo_join prog_13_method_7_code 7 (some .int) zo_i fn_mo_join := by
  refine zk_run (X := lx_mo_join) (code := cd_mo_join) 1073741824 zt_ok (by decide) en_mo_join (zf_up (L := lf_mo_join) ?_) (zc_up (L := lc_mo_join) ?_) (zz_up (L := lg_mo_join) ?_) (zi_al_up (L := li_mo_join) ?_) zr_i_ok (zm_fv_e (by decide))
  · exact List.forall_mem_cons.mpr ⟨lk_mo_7, zq_nil⟩
  · exact zq_nil
  · exact zq_nil
  · exact List.forall_mem_cons.mpr ⟨zj_al_i (zj_S (i := 89) zt_ok (kt_mo_kind l) wd_1079 wd_1080 wd_88 wd_1081 (by unfold zn_ok; decide +kernel) (by decide)), List.forall_mem_cons.mpr ⟨zj_al_i (zj_V (i := 93) zt_ok (kt_mo_isInLine l) wd_1127 wd_1129 wd_37 wd_88 wd_1130 rfl (by unfold zn_ok; decide +kernel) (by decide)), zq_nil⟩⟩
theorem lk_mo_50 : zf_e1 zt_Y zt_cl zt_Ts "MapForgeModel" 50 11 22 := ⟨rn_mo, tn_mo, 43, rfl, by decide, cs_mo, Or.inl wd_956, ⟨ty_mo, ty_mo_ok⟩, nm_mo, fun h => absurd h (by decide), fun h => absurd h (by decide)⟩
theorem lk_mo_56 : zf_e1 zt_Y zt_cl zt_Ts "MapForgeModel" 56 11 24 := ⟨rn_mo, tn_mo, 43, rfl, by decide, cs_mo, Or.inl wd_958, ⟨ty_mo, ty_mo_ok⟩, nm_mo, fun h => absurd h (by decide), fun h => absurd h (by decide)⟩
theorem lk_mo_194 : zf_e1 zt_Y zt_cl zt_Ts "MapForgeModel" 194 11 27 := ⟨rn_mo, tn_mo, 43, rfl, by decide, cs_mo, Or.inl wd_961, ⟨ty_mo, ty_mo_ok⟩, nm_mo, fun h => absurd h (by decide), fun _ => ⟨rfl, rfl⟩⟩
theorem lk_mo_59 : zf_e1 zt_Y zt_cl zt_Ts "MapForgeModel" 59 11 25 := ⟨rn_mo, tn_mo, 43, rfl, by decide, cs_mo, Or.inl wd_959, ⟨ty_mo, ty_mo_ok⟩, nm_mo, fun h => absurd h (by decide), fun h => absurd h (by decide)⟩
theorem lk_mo_201 : zf_e1 zt_Y zt_cl zt_Ts "MapForgeModel" 201 11 28 := ⟨rn_mo, tn_mo, 43, rfl, by decide, cs_mo, Or.inl wd_962, ⟨ty_mo, ty_mo_ok⟩, nm_mo, fun h => absurd h (by decide), fun _ => ⟨rfl, rfl⟩⟩
theorem lk_mo_47 : zf_e1 zt_Y zt_cl zt_Ts "MapForgeModel" 47 11 19 := ⟨rn_mo, tn_mo, 43, rfl, by decide, cs_mo, Or.inl wd_953, ⟨ty_mo, ty_mo_ok⟩, nm_mo, fun h => absurd h (by decide), fun h => absurd h (by decide)⟩
theorem lk_mo_62 : zf_e1 zt_Y zt_cl zt_Ts "MapForgeModel" 62 11 26 := ⟨rn_mo, tn_mo, 43, rfl, by decide, cs_mo, Or.inl wd_960, ⟨ty_mo, ty_mo_ok⟩, nm_mo, fun h => absurd h (by decide), fun h => absurd h (by decide)⟩
theorem lk_mo_53 : zf_e1 zt_Y zt_cl zt_Ts "MapForgeModel" 53 11 23 := ⟨rn_mo, tn_mo, 43, rfl, by decide, cs_mo, Or.inl wd_957, ⟨ty_mo, ty_mo_ok⟩, nm_mo, fun h => absurd h (by decide), fun h => absurd h (by decide)⟩
theorem kt_mo_arrive (l : Launch) : zk_me zt_Ts zt_Y zt_cl zt_Zs l (2, 49) yn_mo_arrive prog_13_method_37_code 6 none zo_v fn_mo_arrive := by
  refine zk_run (X := lx_mo_arrive) (code := cd_mo_arrive) 1073741824 zt_ok (by decide) en_mo_arrive (zf_up (L := lf_mo_arrive) ?_) (zc_up (L := lc_mo_arrive) ?_) (zz_up (L := lg_mo_arrive) ?_) (zi_al_up (L := li_mo_arrive) ?_) zr_v_ok (zm_fv_e (by decide))
  · exact List.forall_mem_cons.mpr ⟨lk_mo_115, List.forall_mem_cons.mpr ⟨lk_mo_50, List.forall_mem_cons.mpr ⟨lk_mo_56, List.forall_mem_cons.mpr ⟨lk_mo_138, List.forall_mem_cons.mpr ⟨lk_mo_194, List.forall_mem_cons.mpr ⟨lk_mo_44, List.forall_mem_cons.mpr ⟨lk_mo_59, List.forall_mem_cons.mpr ⟨lk_mo_201, List.forall_mem_cons.mpr ⟨lk_mo_47, List.forall_mem_cons.mpr ⟨lk_mo_62, List.forall_mem_cons.mpr ⟨lk_mo_141, List.forall_mem_cons.mpr ⟨lk_mo_53, zq_nil⟩⟩⟩⟩⟩⟩⟩⟩⟩⟩⟩⟩
  · exact zq_nil
  · exact zq_nil
  · exact List.forall_mem_cons.mpr ⟨zj_al_i (zj_V (i := 197) zt_ok (kt_mo_join l) wd_1123 wd_1125 wd_36 wd_88 wd_1126 rfl (by unfold zn_ok; decide +kernel) (by decide)), zq_nil⟩
theorem kt_mo_fetch (l : Launch) : zk_me zt_Ts zt_Y zt_cl zt_Zs l (0, 0) yn_mo_fetch prog_13_method_36_code 3 none zo_v fn_mo_fetch := by
  refine zk_run (X := lx_mo_fetch) (code := cd_mo_fetch) 1073741824 zt_ok (by decide) en_mo_fetch (zf_up (L := lf_mo_fetch) ?_) (zc_up (L := lc_mo_fetch) ?_) (zz_up (L := lg_mo_fetch) ?_) (zi_al_up (L := li_mo_fetch) ?_) zr_v_ok (zm_fv_e (by decide))
  · exact List.forall_mem_cons.mpr ⟨lk_mo_56, List.forall_mem_cons.mpr ⟨lk_mo_138, List.forall_mem_cons.mpr ⟨lk_mo_53, List.forall_mem_cons.mpr ⟨lk_mo_141, List.forall_mem_cons.mpr ⟨lk_mo_44, List.forall_mem_cons.mpr ⟨lk_mo_59, List.forall_mem_cons.mpr ⟨lk_mo_47, List.forall_mem_cons.mpr ⟨lk_mo_62, zq_nil⟩⟩⟩⟩⟩⟩⟩⟩
  · exact zq_nil
  · exact zq_nil
  · exact zq_nil
theorem kt_mo_top (l : Launch) : zk_me zt_Ts zt_Y zt_cl zt_Zs l (0, 0) yn_mo_top prog_13_method_23_code 2 (some .int) zo_i fn_mo_top := by
  refine zk_run (X := lx_mo_top) (code := cd_mo_top) 1 zt_ok (by decide) en_mo_top (zf_up (L := lf_mo_top) ?_) (zc_up (L := lc_mo_top) ?_) (zz_up (L := lg_mo_top) ?_) (zi_al_up (L := li_mo_top) ?_) zr_i_ok (zm_fv_e (by decide))
  · exact List.forall_mem_cons.mpr ⟨lk_mo_138, List.forall_mem_cons.mpr ⟨lk_mo_47, zq_nil⟩⟩
  · exact zq_nil
  · exact zq_nil
  · exact zq_nil
theorem kt_mo_slots (l : Launch) : zk_me zt_Ts zt_Y zt_cl zt_Zs l (1, 20) yn_mo_slots prog_13_method_21_code 3 (some .int) zo_i fn_mo_slots := by
  refine zk_run (X := lx_mo_slots) (code := cd_mo_slots) 1073741824 zt_ok (by decide) en_mo_slots (zf_up (L := lf_mo_slots) ?_) (zc_up (L := lc_mo_slots) ?_) (zz_up (L := lg_mo_slots) ?_) (zi_al_up (L := li_mo_slots) ?_) zr_i_ok (zm_fv_e (by decide))
  · exact List.forall_mem_cons.mpr ⟨lk_mo_138, List.forall_mem_cons.mpr ⟨lk_mo_47, zq_nil⟩⟩
  · exact zq_nil
  · exact zq_nil
  · exact List.forall_mem_cons.mpr ⟨zj_al_i (zj_S (i := 135) zt_ok (kt_mo_isWide l) wd_1116 wd_1117 wd_88 wd_1118 (by unfold zn_ok; decide +kernel) (by decide)), zq_nil⟩
theorem kt_mo_push (l : Launch) : zk_me zt_Ts zt_Y zt_cl zt_Zs l (2, 42) yn_mo_push prog_13_method_22_code 2 (some .boolean) zo_i fn_mo_push := by
  refine zk_run (X := lx_mo_push) (code := cd_mo_push) 1 zt_ok (by decide) en_mo_push (zf_up (L := lf_mo_push) ?_) (zc_up (L := lc_mo_push) ?_) (zz_up (L := lg_mo_push) ?_) (zi_al_up (L := li_mo_push) ?_) zr_z_ok (zm_fv_e (by decide))
  · exact List.forall_mem_cons.mpr ⟨lk_mo_47, List.forall_mem_cons.mpr ⟨lk_mo_138, zq_nil⟩⟩
  · exact zq_nil
  · exact zq_nil
  · exact List.forall_mem_cons.mpr ⟨zj_al_i (zj_V (i := 144) zt_ok (kt_mo_slots l) wd_1151 wd_1153 wd_43 wd_88 wd_1154 rfl (by unfold zn_ok; decide +kernel) (by decide)), List.forall_mem_cons.mpr ⟨zj_al_i (zj_S (i := 135) zt_ok (kt_mo_isWide l) wd_1116 wd_1117 wd_88 wd_1118 (by unfold zn_ok; decide +kernel) (by decide)), zq_nil⟩⟩
theorem kt_mo_isSmall (l : Launch) : zk_me zt_Ts zt_Y zt_cl zt_Zs l (1, 20) yn_mo_isSmall prog_13_method_24_code 1 (some .boolean) zo_i fn_mo_isSmall := by
  refine zk_run (X := lx_mo_isSmall) (code := cd_mo_isSmall) 1 zt_ok (by decide) en_mo_isSmall (zf_up (L := lf_mo_isSmall) ?_) (zc_up (L := lc_mo_isSmall) ?_) (zz_up (L := lg_mo_isSmall) ?_) (zi_al_up (L := li_mo_isSmall) ?_) zr_z_ok (zm_fs_e (by decide))
  · exact zq_nil
  · exact zq_nil
  · exact zq_nil
  · exact List.forall_mem_cons.mpr ⟨zj_al_i (zj_S (i := 135) zt_ok (kt_mo_isWide l) wd_1116 wd_1117 wd_88 wd_1118 (by unfold zn_ok; decide +kernel) (by decide)), zq_nil⟩
theorem kt_mo_takes (l : Launch) : zk_me zt_Ts zt_Y zt_cl zt_Zs l (0, 0) yn_mo_takes prog_13_method_29_code 3 (some .boolean) zo_i fn_mo_takes := by
  refine zk_run (X := lx_mo_takes) (code := cd_mo_takes) 1 zt_ok (by decide) en_mo_takes (zf_up (L := lf_mo_takes) ?_) (zc_up (L := lc_mo_takes) ?_) (zz_up (L := lg_mo_takes) ?_) (zi_al_up (L := li_mo_takes) ?_) zr_z_ok (zm_fv_e (by decide))
  · exact List.forall_mem_cons.mpr ⟨lk_mo_138, zq_nil⟩
  · exact zq_nil
  · exact zq_nil
  · exact zq_nil
theorem kt_mo_sum (l : Launch) : zk_me zt_Ts zt_Y zt_cl zt_Zs l (1, 21) yn_mo_sum prog_13_method_28_code 2 (some .boolean) zo_i fn_mo_sum := by
  refine zk_run (X := lx_mo_sum) (code := cd_mo_sum) 1 zt_ok (by decide) en_mo_sum (zf_up (L := lf_mo_sum) ?_) (zc_up (L := lc_mo_sum) ?_) (zz_up (L := lg_mo_sum) ?_) (zi_al_up (L := li_mo_sum) ?_) zr_z_ok (zm_fv_e (by decide))
  · exact List.forall_mem_cons.mpr ⟨lk_mo_138, zq_nil⟩
  · exact zq_nil
  · exact zq_nil
  · exact List.forall_mem_cons.mpr ⟨zj_al_i (zj_V (i := 151) zt_ok (kt_mo_top l) wd_1139 wd_1141 wd_40 wd_88 wd_1142 rfl (by unfold zn_ok; decide +kernel) (by decide)), zq_nil⟩
theorem kt_mo_swap (l : Launch) : zk_me zt_Ts zt_Y zt_cl zt_Zs l (3, 63) yn_mo_swap prog_13_method_27_code 3 (some .boolean) zo_i fn_mo_swap := by
  refine zk_run (X := lx_mo_swap) (code := cd_mo_swap) 1 zt_ok (by decide) en_mo_swap (zf_up (L := lf_mo_swap) ?_) (zc_up (L := lc_mo_swap) ?_) (zz_up (L := lg_mo_swap) ?_) (zi_al_up (L := li_mo_swap) ?_) zr_z_ok (zm_fv_e (by decide))
  · exact List.forall_mem_cons.mpr ⟨lk_mo_138, zq_nil⟩
  · exact zq_nil
  · exact zq_nil
  · exact List.forall_mem_cons.mpr ⟨zj_al_i (zj_V (i := 151) zt_ok (kt_mo_top l) wd_1139 wd_1141 wd_40 wd_88 wd_1142 rfl (by unfold zn_ok; decide +kernel) (by decide)), List.forall_mem_cons.mpr ⟨zj_al_i (zj_V (i := 154) zt_ok (kt_mo_push l) wd_1147 wd_1149 wd_42 wd_88 wd_1150 rfl (by unfold zn_ok; decide +kernel) (by decide)), zq_nil⟩⟩
theorem kt_mo_is (l : Launch) : zk_me zt_Ts zt_Y zt_cl zt_Zs l (1, 23) yn_mo_is prog_13_method_6_code 3 (some .boolean) zo_i fn_mo_is := by
  refine zk_run (X := lx_mo_is) (code := cd_mo_is) 1 zt_ok (by decide) en_mo_is (zf_up (L := lf_mo_is) ?_) (zc_up (L := lc_mo_is) ?_) (zz_up (L := lg_mo_is) ?_) (zi_al_up (L := li_mo_is) ?_) zr_z_ok (zm_fv_e (by decide))
  · exact List.forall_mem_cons.mpr ⟨lk_mo_13, zq_nil⟩
  · exact zq_nil
  · exact zq_nil
  · exact List.forall_mem_cons.mpr ⟨zj_al_i (zj_S (i := 89) zt_ok (kt_mo_kind l) wd_1079 wd_1080 wd_88 wd_1081 (by unfold zn_ok; decide +kernel) (by decide)), List.forall_mem_cons.mpr ⟨zj_al_i (zj_V (i := 93) zt_ok (kt_mo_isInLine l) wd_1127 wd_1129 wd_37 wd_88 wd_1130 rfl (by unfold zn_ok; decide +kernel) (by decide)), zq_nil⟩⟩
theorem kt_mo_simple (l : Launch) : zk_me zt_Ts zt_Y zt_cl zt_Zs l (4, 85) yn_mo_simple prog_13_method_30_code 4 (some .boolean) zo_i fn_mo_simple := by
  refine zk_run (X := lx_mo_simple) (code := cd_mo_simple) 1 zt_ok (by decide) en_mo_simple (zf_up (L := lf_mo_simple) ?_) (zc_up (L := lc_mo_simple) ?_) (zz_up (L := lg_mo_simple) ?_) (zi_al_up (L := li_mo_simple) ?_) zr_z_ok (zm_fv_e (by decide))
  · exact List.forall_mem_cons.mpr ⟨lk_mo_47, List.forall_mem_cons.mpr ⟨lk_mo_138, List.forall_mem_cons.mpr ⟨lk_mo_108, List.forall_mem_cons.mpr ⟨lk_mo_105, List.forall_mem_cons.mpr ⟨lk_mo_141, zq_nil⟩⟩⟩⟩⟩
  · exact zq_nil
  · exact zq_nil
  · exact List.forall_mem_cons.mpr ⟨zj_al_i (zj_V (i := 151) zt_ok (kt_mo_top l) wd_1139 wd_1141 wd_40 wd_88 wd_1142 rfl (by unfold zn_ok; decide +kernel) (by decide)), List.forall_mem_cons.mpr ⟨zj_al_i (zj_V (i := 154) zt_ok (kt_mo_push l) wd_1147 wd_1149 wd_42 wd_88 wd_1150 rfl (by unfold zn_ok; decide +kernel) (by decide)), List.forall_mem_cons.mpr ⟨zj_al_i (zj_S (i := 157) zt_ok (kt_mo_isSmall l) wd_1155 wd_1156 wd_88 wd_1157 (by unfold zn_ok; decide +kernel) (by decide)), List.forall_mem_cons.mpr ⟨zj_al_i (zj_V (i := 160) zt_ok (kt_mo_takes l) wd_1158 wd_1160 wd_44 wd_88 wd_1161 rfl (by unfold zn_ok; decide +kernel) (by decide)), List.forall_mem_cons.mpr ⟨zj_al_i (zj_S (i := 135) zt_ok (kt_mo_isWide l) wd_1116 wd_1117 wd_88 wd_1118 (by unfold zn_ok; decide +kernel) (by decide)), List.forall_mem_cons.mpr ⟨zj_al_i (zj_V (i := 164) zt_ok (kt_mo_sum l) wd_1162 wd_1164 wd_45 wd_88 wd_1165 rfl (by unfold zn_ok; decide +kernel) (by decide)), List.forall_mem_cons.mpr ⟨zj_al_i (zj_V (i := 167) zt_ok (kt_mo_swap l) wd_1166 wd_1168 wd_46 wd_88 wd_1169 rfl (by unfold zn_ok; decide +kernel) (by decide)), List.forall_mem_cons.mpr ⟨zj_al_i (zj_V (i := 170) zt_ok (kt_mo_is l) wd_1170 wd_1172 wd_47 wd_88 wd_1173 rfl (by unfold zn_ok; decide +kernel) (by decide)), zq_nil⟩⟩⟩⟩⟩⟩⟩⟩
theorem kt_mo_typeFor (l : Launch) : zk_me zt_Ts zt_Y zt_cl zt_Zs l (0, 0) yn_mo_typeFor prog_13_method_31_code 1 (some .int) zo_i fn_mo_typeFor := by
  refine zk_run (X := lx_mo_typeFor) (code := cd_mo_typeFor) 1 zt_ok (by decide) en_mo_typeFor (zf_up (L := lf_mo_typeFor) ?_) (zc_up (L := lc_mo_typeFor) ?_) (zz_up (L := lg_mo_typeFor) ?_) (zi_al_up (L := li_mo_typeFor) ?_) zr_i_ok (zm_fs_e (by decide))
  · exact zq_nil
  · exact zq_nil
  · exact zq_nil
  · exact zq_nil
theorem kt_mo_isPointer (l : Launch) : zk_me zt_Ts zt_Y zt_cl zt_Zs l (1, 20) yn_mo_isPointer prog_13_method_25_code 1 (some .boolean) zo_i fn_mo_isPointer := by
  refine zk_run (X := lx_mo_isPointer) (code := cd_mo_isPointer) 1 zt_ok (by decide) en_mo_isPointer (zf_up (L := lf_mo_isPointer) ?_) (zc_up (L := lc_mo_isPointer) ?_) (zz_up (L := lg_mo_isPointer) ?_) (zi_al_up (L := li_mo_isPointer) ?_) zr_z_ok (zm_fs_e (by decide))
  · exact zq_nil
  · exact zq_nil
  · exact zq_nil
  · exact List.forall_mem_cons.mpr ⟨zj_al_i (zj_S (i := 89) zt_ok (kt_mo_kind l) wd_1079 wd_1080 wd_88 wd_1081 (by unfold zn_ok; decide +kernel) (by decide)), zq_nil⟩
theorem kt_mo_isReference (l : Launch) : zk_me zt_Ts zt_Y zt_cl zt_Zs l (2, 40) yn_mo_isReference prog_13_method_26_code 1 (some .boolean) zo_i fn_mo_isReference := by
  refine zk_run (X := lx_mo_isReference) (code := cd_mo_isReference) 1 zt_ok (by decide) en_mo_isReference (zf_up (L := lf_mo_isReference) ?_) (zc_up (L := lc_mo_isReference) ?_) (zz_up (L := lg_mo_isReference) ?_) (zi_al_up (L := li_mo_isReference) ?_) zr_z_ok (zm_fs_e (by decide))
  · exact zq_nil
  · exact zq_nil
  · exact zq_nil
  · exact List.forall_mem_cons.mpr ⟨zj_al_i (zj_S (i := 148) zt_ok (kt_mo_isPointer l) wd_1184 wd_1185 wd_88 wd_1186 (by unfold zn_ok; decide +kernel) (by decide)), List.forall_mem_cons.mpr ⟨zj_al_i (zj_S (i := 89) zt_ok (kt_mo_kind l) wd_1079 wd_1080 wd_88 wd_1081 (by unfold zn_ok; decide +kernel) (by decide)), zq_nil⟩⟩
theorem kt_mo_move (l : Launch) : zk_me zt_Ts zt_Y zt_cl zt_Zs l (3, 63) yn_mo_move prog_13_method_32_code 5 (some .boolean) zo_i fn_mo_move := by
  refine zk_run (X := lx_mo_move) (code := cd_mo_move) 1 zt_ok (by decide) en_mo_move (zf_up (L := lf_mo_move) ?_) (zc_up (L := lc_mo_move) ?_) (zz_up (L := lg_mo_move) ?_) (zi_al_up (L := li_mo_move) ?_) zr_z_ok (zm_fv_e (by decide))
  · exact List.forall_mem_cons.mpr ⟨lk_mo_44, List.forall_mem_cons.mpr ⟨lk_mo_138, zq_nil⟩⟩
  · exact zq_nil
  · exact zq_nil
  · exact List.forall_mem_cons.mpr ⟨zj_al_i (zj_S (i := 173) zt_ok (kt_mo_typeFor l) wd_1178 wd_1179 wd_88 wd_1180 (by unfold zn_ok; decide +kernel) (by decide)), List.forall_mem_cons.mpr ⟨zj_al_i (zj_S (i := 176) zt_ok (kt_mo_isReference l) wd_1181 wd_1182 wd_88 wd_1183 (by unfold zn_ok; decide +kernel) (by decide)), List.forall_mem_cons.mpr ⟨zj_al_i (zj_V (i := 154) zt_ok (kt_mo_push l) wd_1147 wd_1149 wd_42 wd_88 wd_1150 rfl (by unfold zn_ok; decide +kernel) (by decide)), List.forall_mem_cons.mpr ⟨zj_al_i (zj_V (i := 151) zt_ok (kt_mo_top l) wd_1139 wd_1141 wd_40 wd_88 wd_1142 rfl (by unfold zn_ok; decide +kernel) (by decide)), List.forall_mem_cons.mpr ⟨zj_al_i (zj_S (i := 135) zt_ok (kt_mo_isWide l) wd_1116 wd_1117 wd_88 wd_1118 (by unfold zn_ok; decide +kernel) (by decide)), zq_nil⟩⟩⟩⟩⟩
theorem kt_mo_sizeOf (l : Launch) : zk_me zt_Ts zt_Y zt_cl zt_Zs l (0, 0) yn_mo_sizeOf prog_13_method_17_code 1 (some .int) zo_i fn_mo_sizeOf := by
  refine zk_run (X := lx_mo_sizeOf) (code := cd_mo_sizeOf) 1 zt_ok (by decide) en_mo_sizeOf (zf_up (L := lf_mo_sizeOf) ?_) (zc_up (L := lc_mo_sizeOf) ?_) (zz_up (L := lg_mo_sizeOf) ?_) (zi_al_up (L := li_mo_sizeOf) ?_) zr_i_ok (zm_fs_e (by decide))
  · exact zq_nil
  · exact zq_nil
  · exact zq_nil
  · exact zq_nil
theorem kt_mo_offset (l : Launch) : zk_me zt_Ts zt_Y zt_cl zt_Zs l (1, 20) yn_mo_offset prog_13_method_18_code 4 (some .int) zo_i fn_mo_offset := by
  refine zk_run (X := lx_mo_offset) (code := cd_mo_offset) 1073741824 zt_ok (by decide) en_mo_offset (zf_up (L := lf_mo_offset) ?_) (zc_up (L := lc_mo_offset) ?_) (zz_up (L := lg_mo_offset) ?_) (zi_al_up (L := li_mo_offset) ?_) zr_i_ok (zm_fv_e (by decide))
  · exact List.forall_mem_cons.mpr ⟨lk_mo_20, zq_nil⟩
  · exact zq_nil
  · exact zq_nil
  · exact List.forall_mem_cons.mpr ⟨zj_al_i (zj_S (i := 132) zt_ok (kt_mo_sizeOf l) wd_1191 wd_1192 wd_88 wd_1193 (by unfold zn_ok; decide +kernel) (by decide)), zq_nil⟩
theorem kt_mo_placeAt (l : Launch) : zk_me zt_Ts zt_Y zt_cl zt_Zs l (1, 20) yn_mo_placeAt prog_13_method_19_code 4 (some .int) zo_i fn_mo_placeAt := by
  refine zk_run (X := lx_mo_placeAt) (code := cd_mo_placeAt) 1073741824 zt_ok (by decide) en_mo_placeAt (zf_up (L := lf_mo_placeAt) ?_) (zc_up (L := lc_mo_placeAt) ?_) (zz_up (L := lg_mo_placeAt) ?_) (zi_al_up (L := li_mo_placeAt) ?_) zr_i_ok (zm_fv_e (by decide))
  · exact List.forall_mem_cons.mpr ⟨lk_mo_115, List.forall_mem_cons.mpr ⟨lk_mo_20, zq_nil⟩⟩
  · exact zq_nil
  · exact zq_nil
  · exact List.forall_mem_cons.mpr ⟨zj_al_i (zj_S (i := 132) zt_ok (kt_mo_sizeOf l) wd_1191 wd_1192 wd_88 wd_1193 (by unfold zn_ok; decide +kernel) (by decide)), zq_nil⟩
theorem kt_mo_init (l : Launch) : zk_me zt_Ts zt_Y zt_cl zt_Zs l (2, 43) yn_mo_init prog_13_method_33_code 6 (some .boolean) zo_i fn_mo_init := by
  refine zk_run (X := lx_mo_init) (code := cd_mo_init) 1073741824 zt_ok (by decide) en_mo_init (zf_up (L := lf_mo_init) ?_) (zc_up (L := lc_mo_init) ?_) (zz_up (L := lg_mo_init) ?_) (zi_al_up (L := li_mo_init) ?_) zr_z_ok (zm_fv_e (by decide))
  · exact List.forall_mem_cons.mpr ⟨lk_mo_101, List.forall_mem_cons.mpr ⟨lk_mo_7, List.forall_mem_cons.mpr ⟨lk_mo_20, List.forall_mem_cons.mpr ⟨lk_mo_23, List.forall_mem_cons.mpr ⟨lk_mo_138, List.forall_mem_cons.mpr ⟨lk_mo_47, List.forall_mem_cons.mpr ⟨lk_mo_44, List.forall_mem_cons.mpr ⟨lk_mo_141, zq_nil⟩⟩⟩⟩⟩⟩⟩⟩
  · exact zq_nil
  · exact zq_nil
  · exact List.forall_mem_cons.mpr ⟨zj_al_i (zj_V (i := 151) zt_ok (kt_mo_top l) wd_1139 wd_1141 wd_40 wd_88 wd_1142 rfl (by unfold zn_ok; decide +kernel) (by decide)), List.forall_mem_cons.mpr ⟨zj_al_i (zj_S (i := 89) zt_ok (kt_mo_kind l) wd_1079 wd_1080 wd_88 wd_1081 (by unfold zn_ok; decide +kernel) (by decide)), List.forall_mem_cons.mpr ⟨zj_al_i (zj_V (i := 179) zt_ok (kt_mo_placeAt l) wd_1198 wd_1200 wd_51 wd_88 wd_1201 rfl (by unfold zn_ok; decide +kernel) (by decide)), zq_nil⟩⟩⟩
theorem kt_mo_leave (l : Launch) : zk_me zt_Ts zt_Y zt_cl zt_Zs l (5, 108) yn_mo_leave prog_13_method_34_code 6 (some .boolean) zo_i fn_mo_leave := by
  refine zk_run (X := lx_mo_leave) (code := cd_mo_leave) 1 zt_ok (by decide) en_mo_leave (zf_up (L := lf_mo_leave) ?_) (zc_up (L := lc_mo_leave) ?_) (zz_up (L := lg_mo_leave) ?_) (zi_al_up (L := li_mo_leave) ?_) zr_z_ok (zm_fv_e (by decide))
  · exact List.forall_mem_cons.mpr ⟨lk_mo_20, List.forall_mem_cons.mpr ⟨lk_mo_23, List.forall_mem_cons.mpr ⟨lk_mo_138, List.forall_mem_cons.mpr ⟨lk_mo_26, zq_nil⟩⟩⟩⟩
  · exact zq_nil
  · exact zq_nil
  · exact List.forall_mem_cons.mpr ⟨zj_al_i (zj_V (i := 151) zt_ok (kt_mo_top l) wd_1139 wd_1141 wd_40 wd_88 wd_1142 rfl (by unfold zn_ok; decide +kernel) (by decide)), List.forall_mem_cons.mpr ⟨zj_al_i (zj_V (i := 182) zt_ok (kt_mo_simple l) wd_1143 wd_1145 wd_41 wd_88 wd_1146 rfl (by unfold zn_ok; decide +kernel) (by decide)), List.forall_mem_cons.mpr ⟨zj_al_i (zj_V (i := 185) zt_ok (kt_mo_move l) wd_1174 wd_1176 wd_48 wd_88 wd_1177 rfl (by unfold zn_ok; decide +kernel) (by decide)), List.forall_mem_cons.mpr ⟨zj_al_i (zj_V (i := 160) zt_ok (kt_mo_takes l) wd_1158 wd_1160 wd_44 wd_88 wd_1161 rfl (by unfold zn_ok; decide +kernel) (by decide)), List.forall_mem_cons.mpr ⟨zj_al_i (zj_S (i := 148) zt_ok (kt_mo_isPointer l) wd_1184 wd_1185 wd_88 wd_1186 (by unfold zn_ok; decide +kernel) (by decide)), List.forall_mem_cons.mpr ⟨zj_al_i (zj_V (i := 188) zt_ok (kt_mo_offset l) wd_1187 wd_1189 wd_49 wd_88 wd_1190 rfl (by unfold zn_ok; decide +kernel) (by decide)), List.forall_mem_cons.mpr ⟨zj_al_i (zj_V (i := 154) zt_ok (kt_mo_push l) wd_1147 wd_1149 wd_42 wd_88 wd_1150 rfl (by unfold zn_ok; decide +kernel) (by decide)), List.forall_mem_cons.mpr ⟨zj_al_i (zj_V (i := 191) zt_ok (kt_mo_init l) wd_1194 wd_1196 wd_50 wd_88 wd_1197 rfl (by unfold zn_ok; decide +kernel) (by decide)), List.forall_mem_cons.mpr ⟨zj_al_i (zj_V (i := 170) zt_ok (kt_mo_is l) wd_1170 wd_1172 wd_47 wd_88 wd_1173 rfl (by unfold zn_ok; decide +kernel) (by decide)), zq_nil⟩⟩⟩⟩⟩⟩⟩⟩⟩
theorem kt_mo_isEnd (l : Launch) : zk_me zt_Ts zt_Y zt_cl zt_Zs l (1, 22) yn_mo_isEnd prog_13_method_35_code 1 (some .boolean) zo_i fn_mo_isEnd := by
  refine zk_run (X := lx_mo_isEnd) (code := cd_mo_isEnd) 1 zt_ok (by decide) en_mo_isEnd (zf_up (L := lf_mo_isEnd) ?_) (zc_up (L := lc_mo_isEnd) ?_) (zz_up (L := lg_mo_isEnd) ?_) (zi_al_up (L := li_mo_isEnd) ?_) zr_z_ok (zm_fs_e (by decide))
  · exact zq_nil
  · exact zq_nil
  · exact zq_nil
  · exact List.forall_mem_cons.mpr ⟨zj_al_i (zj_S (i := 97) zt_ok (kt_mo_in l) wd_1068 wd_1069 wd_88 wd_1070 (by unfold zn_ok; decide +kernel) (by decide)), zq_nil⟩
theorem kt_mo_goHandled (l : Launch) : zk_me zt_Ts zt_Y zt_cl zt_Zs l (3, 74) yn_mo_goHandled prog_13_method_40_code 3 none zo_v fn_mo_goHandled := by
  refine zk_run (X := lx_mo_goHandled) (code := cd_mo_goHandled) 1073741824 zt_ok (by decide) en_mo_goHandled (zf_up (L := lf_mo_goHandled) ?_) (zc_up (L := lc_mo_goHandled) ?_) (zz_up (L := lg_mo_goHandled) ?_) (zi_al_up (L := li_mo_goHandled) ?_) zr_v_ok (zm_fv_e (by decide))
  · exact List.forall_mem_cons.mpr ⟨lk_mo_118, List.forall_mem_cons.mpr ⟨lk_mo_194, List.forall_mem_cons.mpr ⟨lk_mo_29, List.forall_mem_cons.mpr ⟨lk_mo_32, List.forall_mem_cons.mpr ⟨lk_mo_138, List.forall_mem_cons.mpr ⟨lk_mo_47, List.forall_mem_cons.mpr ⟨lk_mo_38, List.forall_mem_cons.mpr ⟨lk_mo_35, zq_nil⟩⟩⟩⟩⟩⟩⟩⟩
  · exact zq_nil
  · exact zq_nil
  · exact List.forall_mem_cons.mpr ⟨zj_al_v (zj_V (i := 207) zt_ok (kt_mo_fetch l) wd_1131 wd_1133 wd_38 wd_88 wd_1134 rfl (by unfold zn_ok; decide +kernel) (by decide)), List.forall_mem_cons.mpr ⟨zj_al_v (zj_V (i := 211) zt_ok (kt_mo_arrive l) wd_1119 wd_1121 wd_35 wd_88 wd_1122 rfl (by unfold zn_ok; decide +kernel) (by decide)), zq_nil⟩⟩
theorem kt_mo_hasRow (l : Launch) : zk_me zt_Ts zt_Y zt_cl zt_Zs l (2, 42) yn_mo_hasRow prog_13_method_38_code 3 (some .boolean) zo_i fn_mo_hasRow := by
  refine zk_run (X := lx_mo_hasRow) (code := cd_mo_hasRow) 1073741824 zt_ok (by decide) en_mo_hasRow (zf_up (L := lf_mo_hasRow) ?_) (zc_up (L := lc_mo_hasRow) ?_) (zz_up (L := lg_mo_hasRow) ?_) (zi_al_up (L := li_mo_hasRow) ?_) zr_z_ok (zm_fv_e (by decide))
  · exact List.forall_mem_cons.mpr ⟨lk_mo_20, List.forall_mem_cons.mpr ⟨lk_mo_115, List.forall_mem_cons.mpr ⟨lk_mo_26, List.forall_mem_cons.mpr ⟨lk_mo_118, List.forall_mem_cons.mpr ⟨lk_mo_35, zq_nil⟩⟩⟩⟩⟩
  · exact zq_nil
  · exact zq_nil
  · exact List.forall_mem_cons.mpr ⟨zj_al_i (zj_S (i := 204) zt_ok (kt_mo_isEnd l) wd_1202 wd_1203 wd_88 wd_1204 (by unfold zn_ok; decide +kernel) (by decide)), List.forall_mem_cons.mpr ⟨zj_al_i (zj_S (i := 97) zt_ok (kt_mo_in l) wd_1068 wd_1069 wd_88 wd_1070 (by unfold zn_ok; decide +kernel) (by decide)), zq_nil⟩⟩
theorem kt_mo_hasThis (l : Launch) : zk_me zt_Ts zt_Y zt_cl zt_Zs l (0, 0) yn_mo_hasThis prog_13_method_39_code 3 (some .boolean) zo_i fn_mo_hasThis := by
  refine zk_run (X := lx_mo_hasThis) (code := cd_mo_hasThis) 1073741824 zt_ok (by decide) en_mo_hasThis (zf_up (L := lf_mo_hasThis) ?_) (zc_up (L := lc_mo_hasThis) ?_) (zz_up (L := lg_mo_hasThis) ?_) (zi_al_up (L := li_mo_hasThis) ?_) zr_z_ok (zm_fv_e (by decide))
  · exact List.forall_mem_cons.mpr ⟨lk_mo_59, zq_nil⟩
  · exact zq_nil
  · exact zq_nil
  · exact zq_nil
theorem kt_mo_isRight (l : Launch) : zk_me zt_Ts zt_Y zt_cl zt_Zs l (6, 133) yn_mo_isRight prog_13_method_41_code 2 (some .boolean) zo_i fn_mo_isRight := by
  refine zk_run (X := lx_mo_isRight) (code := cd_mo_isRight) 1073741824 zt_ok (by decide) en_mo_isRight (zf_up (L := lf_mo_isRight) ?_) (zc_up (L := lc_mo_isRight) ?_) (zz_up (L := lg_mo_isRight) ?_) (zi_al_up (L := li_mo_isRight) ?_) zr_z_ok (zm_fv_e (by decide))
  · exact List.forall_mem_cons.mpr ⟨lk_mo_115, List.forall_mem_cons.mpr ⟨lk_mo_194, List.forall_mem_cons.mpr ⟨lk_mo_50, List.forall_mem_cons.mpr ⟨lk_mo_201, List.forall_mem_cons.mpr ⟨lk_mo_20, List.forall_mem_cons.mpr ⟨lk_mo_26, List.forall_mem_cons.mpr ⟨lk_mo_53, zq_nil⟩⟩⟩⟩⟩⟩⟩
  · exact zq_nil
  · exact zq_nil
  · exact List.forall_mem_cons.mpr ⟨zj_al_v (zj_V (i := 214) zt_ok (kt_mo_first l) wd_1112 wd_1114 wd_34 wd_88 wd_1115 rfl (by unfold zn_ok; decide +kernel) (by decide)), List.forall_mem_cons.mpr ⟨zj_al_v (zj_V (i := 211) zt_ok (kt_mo_arrive l) wd_1119 wd_1121 wd_35 wd_88 wd_1122 rfl (by unfold zn_ok; decide +kernel) (by decide)), List.forall_mem_cons.mpr ⟨zj_al_v (zj_V (i := 207) zt_ok (kt_mo_fetch l) wd_1131 wd_1133 wd_38 wd_88 wd_1134 rfl (by unfold zn_ok; decide +kernel) (by decide)), List.forall_mem_cons.mpr ⟨zj_al_i (zj_V (i := 217) zt_ok (kt_mo_leave l) wd_1135 wd_1137 wd_39 wd_88 wd_1138 rfl (by unfold zn_ok; decide +kernel) (by decide)), List.forall_mem_cons.mpr ⟨zj_al_i (zj_S (i := 97) zt_ok (kt_mo_in l) wd_1068 wd_1069 wd_88 wd_1070 (by unfold zn_ok; decide +kernel) (by decide)), List.forall_mem_cons.mpr ⟨zj_al_i (zj_S (i := 204) zt_ok (kt_mo_isEnd l) wd_1202 wd_1203 wd_88 wd_1204 (by unfold zn_ok; decide +kernel) (by decide)), List.forall_mem_cons.mpr ⟨zj_al_v (zj_V (i := 220) zt_ok (kt_mo_goHandled l) wd_1205 wd_1207 wd_52 wd_88 wd_1208 rfl (by unfold zn_ok; decide +kernel) (by decide)), List.forall_mem_cons.mpr ⟨zj_al_i (zj_V (i := 223) zt_ok (kt_mo_hasRow l) wd_1209 wd_1211 wd_53 wd_88 wd_1212 rfl (by unfold zn_ok; decide +kernel) (by decide)), List.forall_mem_cons.mpr ⟨zj_al_i (zj_V (i := 226) zt_ok (kt_mo_hasThis l) wd_1213 wd_1215 wd_54 wd_88 wd_1216 rfl (by unfold zn_ok; decide +kernel) (by decide)), zq_nil⟩⟩⟩⟩⟩⟩⟩⟩⟩
theorem lk_mo_233 : zf_e1 zt_Y zt_cl zt_Ts "MapForgeModel" 233 11 37 := ⟨rn_mo, tn_mo, 43, rfl, by decide, cs_mo, Or.inl wd_971, ⟨ty_mo, ty_mo_ok⟩, nm_mo, fun _ => ⟨rfl, rfl⟩, fun h => absurd h (by decide)⟩
theorem lk_mo_80 : zf_e1 zt_Y zt_cl zt_Ts "MapForgeModel" 80 11 35 := ⟨rn_mo, tn_mo, 43, rfl, by decide, cs_mo, Or.inl wd_969, ⟨ty_mo, ty_mo_ok⟩, nm_mo, fun h => absurd h (by decide), fun h => absurd h (by decide)⟩
theorem kt_mo_enlist (l : Launch) : zk_me zt_Ts zt_Y zt_cl zt_Zs l (1, 20) yn_mo_enlist prog_13_method_43_code 2 none zo_v fn_mo_enlist := by
  refine zk_run (X := lx_mo_enlist) (code := cd_mo_enlist) 1073741824 zt_ok (by decide) en_mo_enlist (zf_up (L := lf_mo_enlist) ?_) (zc_up (L := lc_mo_enlist) ?_) (zz_up (L := lg_mo_enlist) ?_) (zi_al_up (L := li_mo_enlist) ?_) zr_v_ok (zm_fv_e (by decide))
  · exact List.forall_mem_cons.mpr ⟨lk_mo_233, List.forall_mem_cons.mpr ⟨lk_mo_80, List.forall_mem_cons.mpr ⟨lk_mo_44, zq_nil⟩⟩⟩
  · exact zq_nil
  · exact zq_nil
  · exact List.forall_mem_cons.mpr ⟨zj_al_i (zj_S (i := 135) zt_ok (kt_mo_isWide l) wd_1116 wd_1117 wd_88 wd_1118 (by unfold zn_ok; decide +kernel) (by decide)), zq_nil⟩
theorem lk_mo_83 : zf_e1 zt_Y zt_cl zt_Ts "MapForgeModel" 83 11 36 := ⟨rn_mo, tn_mo, 43, rfl, by decide, cs_mo, Or.inl wd_970, ⟨ty_mo, ty_mo_ok⟩, nm_mo, fun h => absurd h (by decide), fun h => absurd h (by decide)⟩
theorem lk_mo_236 : zf_e1 zt_Y zt_cl zt_Ts "MapForgeModel" 236 11 38 := ⟨rn_mo, tn_mo, 43, rfl, by decide, cs_mo, Or.inl wd_972, ⟨ty_mo, ty_mo_ok⟩, nm_mo, fun _ => ⟨rfl, rfl⟩, fun h => absurd h (by decide)⟩
theorem kt_mo_keep (l : Launch) : zk_me zt_Ts zt_Y zt_cl zt_Zs l (0, 0) yn_mo_keep prog_13_method_44_code 2 none zo_v fn_mo_keep := by
  refine zk_run (X := lx_mo_keep) (code := cd_mo_keep) 1073741824 zt_ok (by decide) en_mo_keep (zf_up (L := lf_mo_keep) ?_) (zc_up (L := lc_mo_keep) ?_) (zz_up (L := lg_mo_keep) ?_) (zi_al_up (L := li_mo_keep) ?_) zr_v_ok (zm_fv_e (by decide))
  · exact List.forall_mem_cons.mpr ⟨lk_mo_233, List.forall_mem_cons.mpr ⟨lk_mo_83, List.forall_mem_cons.mpr ⟨lk_mo_80, List.forall_mem_cons.mpr ⟨lk_mo_236, zq_nil⟩⟩⟩⟩
  · exact zq_nil
  · exact zq_nil
  · exact zq_nil
theorem kt_mo_begins (l : Launch) : zk_me zt_Ts zt_Y zt_cl zt_Zs l (0, 0) yn_mo_begins prog_13_method_48_code 3 (some .boolean) zo_i fn_mo_begins := by
  refine zk_run (X := lx_mo_begins) (code := cd_mo_begins) 1073741824 zt_ok (by decide) en_mo_begins (zf_up (L := lf_mo_begins) ?_) (zc_up (L := lc_mo_begins) ?_) (zz_up (L := lg_mo_begins) ?_) (zi_al_up (L := li_mo_begins) ?_) zr_z_ok (zm_fv_e (by decide))
  · exact List.forall_mem_cons.mpr ⟨lk_mo_233, List.forall_mem_cons.mpr ⟨lk_mo_236, List.forall_mem_cons.mpr ⟨lk_mo_80, List.forall_mem_cons.mpr ⟨lk_mo_83, zq_nil⟩⟩⟩⟩
  · exact zq_nil
  · exact zq_nil
  · exact zq_nil
theorem lk_mo_86 : zf_e1 zt_Y zt_cl zt_Ts "MapForgeModel" 86 11 39 := ⟨rn_mo, tn_mo, 43, rfl, by decide, cs_mo, Or.inl wd_973, ⟨ty_mo, ty_mo_ok⟩, nm_mo, fun h => absurd h (by decide), fun h => absurd h (by decide)⟩
theorem lk_mo_239 : zf_e1 zt_Y zt_cl zt_Ts "MapForgeModel" 239 11 40 := ⟨rn_mo, tn_mo, 43, rfl, by decide, cs_mo, Or.inl wd_974, ⟨ty_mo, ty_mo_ok⟩, nm_mo, fun _ => ⟨rfl, rfl⟩, fun h => absurd h (by decide)⟩
theorem kt_mo_write (l : Launch) : zk_me zt_Ts zt_Y zt_cl zt_Zs l (0, 0) yn_mo_write prog_13_method_45_code 2 none zo_v fn_mo_write := by
  refine zk_run (X := lx_mo_write) (code := cd_mo_write) 1 zt_ok (by decide) en_mo_write (zf_up (L := lf_mo_write) ?_) (zc_up (L := lc_mo_write) ?_) (zz_up (L := lg_mo_write) ?_) (zi_al_up (L := li_mo_write) ?_) zr_v_ok (zm_fv_e (by decide))
  · exact List.forall_mem_cons.mpr ⟨lk_mo_86, List.forall_mem_cons.mpr ⟨lk_mo_239, zq_nil⟩⟩
  · exact zq_nil
  · exact zq_nil
  · exact zq_nil
theorem kt_mo_writeTwo (l : Launch) : zk_me zt_Ts zt_Y zt_cl zt_Zs l (1, 21) yn_mo_writeTwo prog_13_method_46_code 2 none zo_v fn_mo_writeTwo := by
  refine zk_run (X := lx_mo_writeTwo) (code := cd_mo_writeTwo) 1 zt_ok (by decide) en_mo_writeTwo (zf_up (L := lf_mo_writeTwo) ?_) (zc_up (L := lc_mo_writeTwo) ?_) (zz_up (L := lg_mo_writeTwo) ?_) (zi_al_up (L := li_mo_writeTwo) ?_) zr_v_ok (zm_fv_e (by decide))
  · exact zq_nil
  · exact zq_nil
  · exact zq_nil
  · exact List.forall_mem_cons.mpr ⟨zj_al_v (zj_V (i := 242) zt_ok (kt_mo_write l) wd_1237 wd_1239 wd_59 wd_88 wd_1240 rfl (by unfold zn_ok; decide +kernel) (by decide)), zq_nil⟩
theorem kt_mo_writeType (l : Launch) : zk_me zt_Ts zt_Y zt_cl zt_Zs l (2, 42) yn_mo_writeType prog_13_method_47_code 2 none zo_v fn_mo_writeType := by
  refine zk_run (X := lx_mo_writeType) (code := cd_mo_writeType) 1 zt_ok (by decide) en_mo_writeType (zf_up (L := lf_mo_writeType) ?_) (zc_up (L := lc_mo_writeType) ?_) (zz_up (L := lg_mo_writeType) ?_) (zi_al_up (L := li_mo_writeType) ?_) zr_v_ok (zm_fv_e (by decide))
  · exact zq_nil
  · exact zq_nil
  · exact zq_nil
  · exact List.forall_mem_cons.mpr ⟨zj_al_i (zj_S (i := 89) zt_ok (kt_mo_kind l) wd_1079 wd_1080 wd_88 wd_1081 (by unfold zn_ok; decide +kernel) (by decide)), List.forall_mem_cons.mpr ⟨zj_al_v (zj_V (i := 242) zt_ok (kt_mo_write l) wd_1237 wd_1239 wd_59 wd_88 wd_1240 rfl (by unfold zn_ok; decide +kernel) (by decide)), List.forall_mem_cons.mpr ⟨zj_al_v (zj_V (i := 245) zt_ok (kt_mo_writeTwo l) wd_1241 wd_1243 wd_60 wd_88 wd_1244 rfl (by unfold zn_ok; decide +kernel) (by decide)), zq_nil⟩⟩⟩
theorem kt_mo_writeRow (l : Launch) : zk_me zt_Ts zt_Y zt_cl zt_Zs l (3, 63) yn_mo_writeRow prog_13_method_49_code 5 none zo_v fn_mo_writeRow := by
  refine zk_run (X := lx_mo_writeRow) (code := cd_mo_writeRow) 1073741824 zt_ok (by decide) en_mo_writeRow (zf_up (L := lf_mo_writeRow) ?_) (zc_up (L := lc_mo_writeRow) ?_) (zz_up (L := lg_mo_writeRow) ?_) (zi_al_up (L := li_mo_writeRow) ?_) zr_v_ok (zm_fv_e (by decide))
  · exact List.forall_mem_cons.mpr ⟨lk_mo_233, List.forall_mem_cons.mpr ⟨lk_mo_236, List.forall_mem_cons.mpr ⟨lk_mo_138, List.forall_mem_cons.mpr ⟨lk_mo_47, List.forall_mem_cons.mpr ⟨lk_mo_80, zq_nil⟩⟩⟩⟩⟩
  · exact zq_nil
  · exact zq_nil
  · exact List.forall_mem_cons.mpr ⟨zj_al_i (zj_V (i := 248) zt_ok (kt_mo_begins l) wd_1233 wd_1235 wd_58 wd_88 wd_1236 rfl (by unfold zn_ok; decide +kernel) (by decide)), List.forall_mem_cons.mpr ⟨zj_al_v (zj_V (i := 242) zt_ok (kt_mo_write l) wd_1237 wd_1239 wd_59 wd_88 wd_1240 rfl (by unfold zn_ok; decide +kernel) (by decide)), List.forall_mem_cons.mpr ⟨zj_al_v (zj_V (i := 245) zt_ok (kt_mo_writeTwo l) wd_1241 wd_1243 wd_60 wd_88 wd_1244 rfl (by unfold zn_ok; decide +kernel) (by decide)), List.forall_mem_cons.mpr ⟨zj_al_v (zj_V (i := 251) zt_ok (kt_mo_writeType l) wd_1245 wd_1247 wd_61 wd_88 wd_1248 rfl (by unfold zn_ok; decide +kernel) (by decide)), List.forall_mem_cons.mpr ⟨zj_al_i (zj_S (i := 97) zt_ok (kt_mo_in l) wd_1068 wd_1069 wd_88 wd_1070 (by unfold zn_ok; decide +kernel) (by decide)), zq_nil⟩⟩⟩⟩⟩
theorem lk_mo_41 : zf_e1 zt_Y zt_cl zt_Ts "MapForgeModel" 41 11 17 := ⟨rn_mo, tn_mo, 43, rfl, by decide, cs_mo, Or.inl wd_951, ⟨ty_mo, ty_mo_ok⟩, nm_mo, fun h => absurd h (by decide), fun h => absurd h (by decide)⟩
theorem lk_mo_263 : zf_e1 zt_Y zt_cl zt_Ts "MapForgeModel" 263 11 7 := ⟨rn_mo, tn_mo, 43, rfl, by decide, cs_mo, Or.inl wd_941, ⟨ty_mo, ty_mo_ok⟩, nm_mo, fun _ => ⟨rfl, rfl⟩, fun h => absurd h (by decide)⟩
theorem kt_mo_make (l : Launch) : zk_me zt_Ts zt_Y zt_cl zt_Zs l (7, 154) yn_mo_make prog_13_method_50_code 7 (some .int) zo_i fn_mo_make := by
  refine zk_run (X := lx_mo_make) (code := cd_mo_make) 1073741824 zt_ok (by decide) en_mo_make (zf_up (L := lf_mo_make) ?_) (zc_up (L := lc_mo_make) ?_) (zz_up (L := lg_mo_make) ?_) (zi_al_up (L := li_mo_make) ?_) zr_i_ok (zm_fv_e (by decide))
  · exact List.forall_mem_cons.mpr ⟨lk_mo_239, List.forall_mem_cons.mpr ⟨lk_mo_115, List.forall_mem_cons.mpr ⟨lk_mo_41, List.forall_mem_cons.mpr ⟨lk_mo_86, List.forall_mem_cons.mpr ⟨lk_mo_263, zq_nil⟩⟩⟩⟩⟩
  · exact zq_nil
  · exact zq_nil
  · exact List.forall_mem_cons.mpr ⟨zj_al_i (zj_V (i := 229) zt_ok (kt_mo_isRight l) wd_1108 wd_1110 wd_33 wd_88 wd_1111 rfl (by unfold zn_ok; decide +kernel) (by decide)), List.forall_mem_cons.mpr ⟨zj_al_v (zj_V (i := 214) zt_ok (kt_mo_first l) wd_1112 wd_1114 wd_34 wd_88 wd_1115 rfl (by unfold zn_ok; decide +kernel) (by decide)), List.forall_mem_cons.mpr ⟨zj_al_v (zj_V (i := 254) zt_ok (kt_mo_enlist l) wd_1221 wd_1223 wd_55 wd_88 wd_1224 rfl (by unfold zn_ok; decide +kernel) (by decide)), List.forall_mem_cons.mpr ⟨zj_al_v (zj_V (i := 257) zt_ok (kt_mo_keep l) wd_1225 wd_1227 wd_56 wd_88 wd_1228 rfl (by unfold zn_ok; decide +kernel) (by decide)), List.forall_mem_cons.mpr ⟨zj_al_i (zj_V (i := 223) zt_ok (kt_mo_hasRow l) wd_1209 wd_1211 wd_53 wd_88 wd_1212 rfl (by unfold zn_ok; decide +kernel) (by decide)), List.forall_mem_cons.mpr ⟨zj_al_i (zj_V (i := 188) zt_ok (kt_mo_offset l) wd_1187 wd_1189 wd_49 wd_88 wd_1190 rfl (by unfold zn_ok; decide +kernel) (by decide)), List.forall_mem_cons.mpr ⟨zj_al_v (zj_V (i := 207) zt_ok (kt_mo_fetch l) wd_1131 wd_1133 wd_38 wd_88 wd_1134 rfl (by unfold zn_ok; decide +kernel) (by decide)), List.forall_mem_cons.mpr ⟨zj_al_v (zj_V (i := 260) zt_ok (kt_mo_writeRow l) wd_1229 wd_1231 wd_57 wd_88 wd_1232 rfl (by unfold zn_ok; decide +kernel) (by decide)), zq_nil⟩⟩⟩⟩⟩⟩⟩⟩
theorem kt_mo_flow (l : Launch) : zk_me zt_Ts zt_Y zt_cl zt_Zs l (7, 154) yn_mo_flow prog_13_method_42_code 4 (some .int) zo_i fn_mo_flow := by
  refine zk_run (X := lx_mo_flow) (code := cd_mo_flow) 1 zt_ok (by decide) en_mo_flow (zf_up (L := lf_mo_flow) ?_) (zc_up (L := lc_mo_flow) ?_) (zz_up (L := lg_mo_flow) ?_) (zi_al_up (L := li_mo_flow) ?_) zr_i_ok (zm_fv_e (by decide))
  · exact List.forall_mem_cons.mpr ⟨lk_mo_115, List.forall_mem_cons.mpr ⟨lk_mo_59, List.forall_mem_cons.mpr ⟨lk_mo_56, List.forall_mem_cons.mpr ⟨lk_mo_62, List.forall_mem_cons.mpr ⟨lk_mo_53, zq_nil⟩⟩⟩⟩⟩
  · exact zq_nil
  · exact zq_nil
  · exact List.forall_mem_cons.mpr ⟨zj_al_i (zj_S (i := 97) zt_ok (kt_mo_in l) wd_1068 wd_1069 wd_88 wd_1070 (by unfold zn_ok; decide +kernel) (by decide)), List.forall_mem_cons.mpr ⟨zj_al_i (zj_V (i := 229) zt_ok (kt_mo_isRight l) wd_1108 wd_1110 wd_33 wd_88 wd_1111 rfl (by unfold zn_ok; decide +kernel) (by decide)), zq_nil⟩⟩
theorem lk_mo_266 : zf_e1 zt_Y zt_cl zt_Ts "MapForgeModel" 266 11 41 := ⟨rn_mo, tn_mo, 43, rfl, by decide, cs_mo, Or.inl wd_975, ⟨ty_mo, ty_mo_ok⟩, nm_mo, fun _ => ⟨rfl, rfl⟩, fun h => absurd h (by decide)⟩
theorem lk_mo_269 : zf_e1 zt_Y zt_cl zt_Ts "MapForgeModel" 269 11 42 := ⟨rn_mo, tn_mo, 43, rfl, by decide, cs_mo, Or.inl wd_976, ⟨ty_mo, ty_mo_ok⟩, nm_mo, fun h => absurd h (by decide), fun _ => ⟨rfl, rfl⟩⟩
theorem kt_mo_byteNext (l : Launch) : zk_me zt_Ts zt_Y zt_cl zt_Zs l (0, 0) yn_mo_byteNext prog_13_method_51_code 1 (some .int) zo_i fn_mo_byteNext := by
  refine zk_run (X := lx_mo_byteNext) (code := cd_mo_byteNext) 1 zt_ok (by decide) en_mo_byteNext (zf_up (L := lf_mo_byteNext) ?_) (zc_up (L := lc_mo_byteNext) ?_) (zz_up (L := lg_mo_byteNext) ?_) (zi_al_up (L := li_mo_byteNext) ?_) zr_i_ok (zm_fv_e (by decide))
  · exact List.forall_mem_cons.mpr ⟨lk_mo_266, List.forall_mem_cons.mpr ⟨lk_mo_263, List.forall_mem_cons.mpr ⟨lk_mo_269, List.forall_mem_cons.mpr ⟨lk_mo_41, zq_nil⟩⟩⟩⟩
  · exact zq_nil
  · exact zq_nil
  · exact zq_nil
theorem kt_mo_twoNext (l : Launch) : zk_me zt_Ts zt_Y zt_cl zt_Zs l (1, 20) yn_mo_twoNext prog_13_method_52_code 2 (some .int) zo_i fn_mo_twoNext := by
  refine zk_run (X := lx_mo_twoNext) (code := cd_mo_twoNext) 1 zt_ok (by decide) en_mo_twoNext (zf_up (L := lf_mo_twoNext) ?_) (zc_up (L := lc_mo_twoNext) ?_) (zz_up (L := lg_mo_twoNext) ?_) (zi_al_up (L := li_mo_twoNext) ?_) zr_i_ok (zm_fv_e (by decide))
  · exact zq_nil
  · exact zq_nil
  · exact zq_nil
  · exact List.forall_mem_cons.mpr ⟨zj_al_i (zj_V (i := 272) zt_ok (kt_mo_byteNext l) wd_1257 wd_1259 wd_63 wd_88 wd_1260 rfl (by unfold zn_ok; decide +kernel) (by decide)), zq_nil⟩
theorem kt_mo_typeNext (l : Launch) : zk_me zt_Ts zt_Y zt_cl zt_Zs l (2, 41) yn_mo_typeNext prog_13_method_53_code 3 (some .int) zo_i fn_mo_typeNext := by
  refine zk_run (X := lx_mo_typeNext) (code := cd_mo_typeNext) 1 zt_ok (by decide) en_mo_typeNext (zf_up (L := lf_mo_typeNext) ?_) (zc_up (L := lc_mo_typeNext) ?_) (zz_up (L := lg_mo_typeNext) ?_) (zi_al_up (L := li_mo_typeNext) ?_) zr_i_ok (zm_fv_e (by decide))
  · exact List.forall_mem_cons.mpr ⟨lk_mo_269, zq_nil⟩
  · exact zq_nil
  · exact zq_nil
  · exact List.forall_mem_cons.mpr ⟨zj_al_i (zj_V (i := 272) zt_ok (kt_mo_byteNext l) wd_1257 wd_1259 wd_63 wd_88 wd_1260 rfl (by unfold zn_ok; decide +kernel) (by decide)), List.forall_mem_cons.mpr ⟨zj_al_i (zj_V (i := 275) zt_ok (kt_mo_twoNext l) wd_1265 wd_1267 wd_65 wd_88 wd_1268 rfl (by unfold zn_ok; decide +kernel) (by decide)), zq_nil⟩⟩
theorem kt_mo_stackNext (l : Launch) : zk_me zt_Ts zt_Y zt_cl zt_Zs l (3, 63) yn_mo_stackNext prog_13_method_55_code 3 none zo_v fn_mo_stackNext := by
  refine zk_run (X := lx_mo_stackNext) (code := cd_mo_stackNext) 1 zt_ok (by decide) en_mo_stackNext (zf_up (L := lf_mo_stackNext) ?_) (zc_up (L := lc_mo_stackNext) ?_) (zz_up (L := lg_mo_stackNext) ?_) (zi_al_up (L := li_mo_stackNext) ?_) zr_v_ok (zm_fv_e (by decide))
  · exact List.forall_mem_cons.mpr ⟨lk_mo_269, zq_nil⟩
  · exact zq_nil
  · exact zq_nil
  · exact List.forall_mem_cons.mpr ⟨zj_al_i (zj_V (i := 278) zt_ok (kt_mo_typeNext l) wd_1273 wd_1275 wd_67 wd_88 wd_1276 rfl (by unfold zn_ok; decide +kernel) (by decide)), List.forall_mem_cons.mpr ⟨zj_al_i (zj_V (i := 154) zt_ok (kt_mo_push l) wd_1147 wd_1149 wd_42 wd_88 wd_1150 rfl (by unfold zn_ok; decide +kernel) (by decide)), zq_nil⟩⟩
theorem kt_mo_enter (l : Launch) : zk_me zt_Ts zt_Y zt_cl zt_Zs l (1, 20) yn_mo_enter prog_13_method_54_code 4 none zo_v fn_mo_enter := by
  refine zk_run (X := lx_mo_enter) (code := cd_mo_enter) 1073741824 zt_ok (by decide) en_mo_enter (zf_up (L := lf_mo_enter) ?_) (zc_up (L := lc_mo_enter) ?_) (zz_up (L := lg_mo_enter) ?_) (zi_al_up (L := li_mo_enter) ?_) zr_v_ok (zm_fv_e (by decide))
  · exact List.forall_mem_cons.mpr ⟨lk_mo_233, List.forall_mem_cons.mpr ⟨lk_mo_80, List.forall_mem_cons.mpr ⟨lk_mo_269, zq_nil⟩⟩⟩
  · exact zq_nil
  · exact zq_nil
  · exact List.forall_mem_cons.mpr ⟨zj_al_i (zj_S (i := 135) zt_ok (kt_mo_isWide l) wd_1116 wd_1117 wd_88 wd_1118 (by unfold zn_ok; decide +kernel) (by decide)), zq_nil⟩
theorem kt_mo_readFull (l : Launch) : zk_me zt_Ts zt_Y zt_cl zt_Zs l (4, 85) yn_mo_readFull prog_13_method_57_code 4 none zo_v fn_mo_readFull := by
  refine zk_run (X := lx_mo_readFull) (code := cd_mo_readFull) 1073741824 zt_ok (by decide) en_mo_readFull (zf_up (L := lf_mo_readFull) ?_) (zc_up (L := lc_mo_readFull) ?_) (zz_up (L := lg_mo_readFull) ?_) (zi_al_up (L := li_mo_readFull) ?_) zr_v_ok (zm_fv_e (by decide))
  · exact List.forall_mem_cons.mpr ⟨lk_mo_233, List.forall_mem_cons.mpr ⟨lk_mo_269, zq_nil⟩⟩
  · exact zq_nil
  · exact zq_nil
  · exact List.forall_mem_cons.mpr ⟨zj_al_i (zj_V (i := 275) zt_ok (kt_mo_twoNext l) wd_1265 wd_1267 wd_65 wd_88 wd_1268 rfl (by unfold zn_ok; decide +kernel) (by decide)), List.forall_mem_cons.mpr ⟨zj_al_i (zj_V (i := 278) zt_ok (kt_mo_typeNext l) wd_1273 wd_1275 wd_67 wd_88 wd_1276 rfl (by unfold zn_ok; decide +kernel) (by decide)), List.forall_mem_cons.mpr ⟨zj_al_v (zj_V (i := 284) zt_ok (kt_mo_enter l) wd_1277 wd_1279 wd_68 wd_88 wd_1280 rfl (by unfold zn_ok; decide +kernel) (by decide)), List.forall_mem_cons.mpr ⟨zj_al_v (zj_V (i := 281) zt_ok (kt_mo_stackNext l) wd_1269 wd_1271 wd_66 wd_88 wd_1272 rfl (by unfold zn_ok; decide +kernel) (by decide)), zq_nil⟩⟩⟩⟩
theorem kt_mo_readForm (l : Launch) : zk_me zt_Ts zt_Y zt_cl zt_Zs l (5, 108) yn_mo_readForm prog_13_method_56_code 5 (some .int) zo_i fn_mo_readForm := by
  refine zk_run (X := lx_mo_readForm) (code := cd_mo_readForm) 1073741824 zt_ok (by decide) en_mo_readForm (zf_up (L := lf_mo_readForm) ?_) (zc_up (L := lc_mo_readForm) ?_) (zz_up (L := lg_mo_readForm) ?_) (zi_al_up (L := li_mo_readForm) ?_) zr_i_ok (zm_fv_e (by decide))
  · exact List.forall_mem_cons.mpr ⟨lk_mo_269, List.forall_mem_cons.mpr ⟨lk_mo_233, zq_nil⟩⟩
  · exact zq_nil
  · exact zq_nil
  · exact List.forall_mem_cons.mpr ⟨zj_al_i (zj_S (i := 97) zt_ok (kt_mo_in l) wd_1068 wd_1069 wd_88 wd_1070 (by unfold zn_ok; decide +kernel) (by decide)), List.forall_mem_cons.mpr ⟨zj_al_i (zj_V (i := 275) zt_ok (kt_mo_twoNext l) wd_1265 wd_1267 wd_65 wd_88 wd_1268 rfl (by unfold zn_ok; decide +kernel) (by decide)), List.forall_mem_cons.mpr ⟨zj_al_v (zj_V (i := 281) zt_ok (kt_mo_stackNext l) wd_1269 wd_1271 wd_66 wd_88 wd_1272 rfl (by unfold zn_ok; decide +kernel) (by decide)), List.forall_mem_cons.mpr ⟨zj_al_i (zj_V (i := 278) zt_ok (kt_mo_typeNext l) wd_1273 wd_1275 wd_67 wd_88 wd_1276 rfl (by unfold zn_ok; decide +kernel) (by decide)), List.forall_mem_cons.mpr ⟨zj_al_v (zj_V (i := 284) zt_ok (kt_mo_enter l) wd_1277 wd_1279 wd_68 wd_88 wd_1280 rfl (by unfold zn_ok; decide +kernel) (by decide)), List.forall_mem_cons.mpr ⟨zj_al_v (zj_V (i := 287) zt_ok (kt_mo_readFull l) wd_1281 wd_1283 wd_69 wd_88 wd_1284 rfl (by unfold zn_ok; decide +kernel) (by decide)), zq_nil⟩⟩⟩⟩⟩⟩
theorem lk_mo_290 : zf_e1 zt_Y zt_cl zt_Ts "MapForgeModel" 290 11 34 := ⟨rn_mo, tn_mo, 43, rfl, by decide, cs_mo, Or.inl wd_968, ⟨ty_mo, ty_mo_ok⟩, nm_mo, fun _ => ⟨rfl, rfl⟩, fun h => absurd h (by decide)⟩
theorem lk_mo_65 : zf_e1 zt_Y zt_cl zt_Ts "MapForgeModel" 65 11 29 := ⟨rn_mo, tn_mo, 43, rfl, by decide, cs_mo, Or.inl wd_963, ⟨ty_mo, ty_mo_ok⟩, nm_mo, fun h => absurd h (by decide), fun h => absurd h (by decide)⟩
theorem lk_mo_68 : zf_e1 zt_Y zt_cl zt_Ts "MapForgeModel" 68 11 30 := ⟨rn_mo, tn_mo, 43, rfl, by decide, cs_mo, Or.inl wd_964, ⟨ty_mo, ty_mo_ok⟩, nm_mo, fun h => absurd h (by decide), fun h => absurd h (by decide)⟩
theorem lk_mo_71 : zf_e1 zt_Y zt_cl zt_Ts "MapForgeModel" 71 11 31 := ⟨rn_mo, tn_mo, 43, rfl, by decide, cs_mo, Or.inl wd_965, ⟨ty_mo, ty_mo_ok⟩, nm_mo, fun h => absurd h (by decide), fun h => absurd h (by decide)⟩
theorem lk_mo_77 : zf_e1 zt_Y zt_cl zt_Ts "MapForgeModel" 77 11 33 := ⟨rn_mo, tn_mo, 43, rfl, by decide, cs_mo, Or.inl wd_967, ⟨ty_mo, ty_mo_ok⟩, nm_mo, fun h => absurd h (by decide), fun h => absurd h (by decide)⟩
theorem lk_mo_74 : zf_e1 zt_Y zt_cl zt_Ts "MapForgeModel" 74 11 32 := ⟨rn_mo, tn_mo, 43, rfl, by decide, cs_mo, Or.inl wd_966, ⟨ty_mo, ty_mo_ok⟩, nm_mo, fun h => absurd h (by decide), fun h => absurd h (by decide)⟩
theorem kt_mo_readRows (l : Launch) : zk_me zt_Ts zt_Y zt_cl zt_Zs l (6, 132) yn_mo_readRows prog_13_method_58_code 7 (some .boolean) zo_i fn_mo_readRows := by
  refine zk_run (X := lx_mo_readRows) (code := cd_mo_readRows) 1073741824 zt_ok (by decide) en_mo_readRows (zf_up (L := lf_mo_readRows) ?_) (zc_up (L := lc_mo_readRows) ?_) (zz_up (L := lg_mo_readRows) ?_) (zi_al_up (L := li_mo_readRows) ?_) zr_z_ok (zm_fv_e (by decide))
  · exact List.forall_mem_cons.mpr ⟨lk_mo_290, List.forall_mem_cons.mpr ⟨lk_mo_266, List.forall_mem_cons.mpr ⟨lk_mo_269, List.forall_mem_cons.mpr ⟨lk_mo_263, List.forall_mem_cons.mpr ⟨lk_mo_138, List.forall_mem_cons.mpr ⟨lk_mo_65, List.forall_mem_cons.mpr ⟨lk_mo_68, List.forall_mem_cons.mpr ⟨lk_mo_71, List.forall_mem_cons.mpr ⟨lk_mo_77, List.forall_mem_cons.mpr ⟨lk_mo_47, List.forall_mem_cons.mpr ⟨lk_mo_74, List.forall_mem_cons.mpr ⟨lk_mo_233, List.forall_mem_cons.mpr ⟨lk_mo_80, zq_nil⟩⟩⟩⟩⟩⟩⟩⟩⟩⟩⟩⟩⟩
  · exact zq_nil
  · exact zq_nil
  · exact List.forall_mem_cons.mpr ⟨zj_al_v (zj_V (i := 214) zt_ok (kt_mo_first l) wd_1112 wd_1114 wd_34 wd_88 wd_1115 rfl (by unfold zn_ok; decide +kernel) (by decide)), List.forall_mem_cons.mpr ⟨zj_al_v (zj_V (i := 254) zt_ok (kt_mo_enlist l) wd_1221 wd_1223 wd_55 wd_88 wd_1224 rfl (by unfold zn_ok; decide +kernel) (by decide)), List.forall_mem_cons.mpr ⟨zj_al_i (zj_V (i := 272) zt_ok (kt_mo_byteNext l) wd_1257 wd_1259 wd_63 wd_88 wd_1260 rfl (by unfold zn_ok; decide +kernel) (by decide)), List.forall_mem_cons.mpr ⟨zj_al_i (zj_V (i := 293) zt_ok (kt_mo_readForm l) wd_1261 wd_1263 wd_64 wd_88 wd_1264 rfl (by unfold zn_ok; decide +kernel) (by decide)), List.forall_mem_cons.mpr ⟨zj_al_i (zj_V (i := 179) zt_ok (kt_mo_placeAt l) wd_1198 wd_1200 wd_51 wd_88 wd_1201 rfl (by unfold zn_ok; decide +kernel) (by decide)), List.forall_mem_cons.mpr ⟨zj_al_i (zj_S (i := 135) zt_ok (kt_mo_isWide l) wd_1116 wd_1117 wd_88 wd_1118 (by unfold zn_ok; decide +kernel) (by decide)), zq_nil⟩⟩⟩⟩⟩⟩
theorem kt_mo_rowAt (l : Launch) : zk_me zt_Ts zt_Y zt_cl zt_Zs l (0, 0) yn_mo_rowAt prog_13_method_59_code 3 (some .int) zo_i fn_mo_rowAt := by
  refine zk_run (X := lx_mo_rowAt) (code := cd_mo_rowAt) 1073741824 zt_ok (by decide) en_mo_rowAt (zf_up (L := lf_mo_rowAt) ?_) (zc_up (L := lc_mo_rowAt) ?_) (zz_up (L := lg_mo_rowAt) ?_) (zi_al_up (L := li_mo_rowAt) ?_) zr_i_ok (zm_fv_e (by decide))
  · exact List.forall_mem_cons.mpr ⟨lk_mo_290, List.forall_mem_cons.mpr ⟨lk_mo_65, zq_nil⟩⟩
  · exact zq_nil
  · exact zq_nil
  · exact zq_nil
theorem kt_mo_rowIsRaw (l : Launch) : zk_me zt_Ts zt_Y zt_cl zt_Zs l (0, 0) yn_mo_rowIsRaw prog_13_method_60_code 3 (some .boolean) zo_i fn_mo_rowIsRaw := by
  refine zk_run (X := lx_mo_rowIsRaw) (code := cd_mo_rowIsRaw) 1073741824 zt_ok (by decide) en_mo_rowIsRaw (zf_up (L := lf_mo_rowIsRaw) ?_) (zc_up (L := lc_mo_rowIsRaw) ?_) (zz_up (L := lg_mo_rowIsRaw) ?_) (zi_al_up (L := li_mo_rowIsRaw) ?_) zr_z_ok (zm_fv_e (by decide))
  · exact List.forall_mem_cons.mpr ⟨lk_mo_74, zq_nil⟩
  · exact zq_nil
  · exact zq_nil
  · exact zq_nil
theorem kt_mo_fits (l : Launch) : zk_me zt_Ts zt_Y zt_cl zt_Zs l (2, 45) yn_mo_fits prog_13_method_61_code 4 (some .boolean) zo_i fn_mo_fits := by
  refine zk_run (X := lx_mo_fits) (code := cd_mo_fits) 1073741824 zt_ok (by decide) en_mo_fits (zf_up (L := lf_mo_fits) ?_) (zc_up (L := lc_mo_fits) ?_) (zz_up (L := lg_mo_fits) ?_) (zi_al_up (L := li_mo_fits) ?_) zr_z_ok (zm_fv_e (by decide))
  · exact List.forall_mem_cons.mpr ⟨lk_mo_138, List.forall_mem_cons.mpr ⟨lk_mo_71, List.forall_mem_cons.mpr ⟨lk_mo_141, List.forall_mem_cons.mpr ⟨lk_mo_44, List.forall_mem_cons.mpr ⟨lk_mo_74, List.forall_mem_cons.mpr ⟨lk_mo_47, List.forall_mem_cons.mpr ⟨lk_mo_77, zq_nil⟩⟩⟩⟩⟩⟩⟩
  · exact zq_nil
  · exact zq_nil
  · exact List.forall_mem_cons.mpr ⟨zj_al_i (zj_V (i := 296) zt_ok (kt_mo_rowIsRaw l) wd_1293 wd_1295 wd_72 wd_88 wd_1296 rfl (by unfold zn_ok; decide +kernel) (by decide)), List.forall_mem_cons.mpr ⟨zj_al_i (zj_V (i := 170) zt_ok (kt_mo_is l) wd_1170 wd_1172 wd_47 wd_88 wd_1173 rfl (by unfold zn_ok; decide +kernel) (by decide)), zq_nil⟩⟩
theorem kt_mo_take (l : Launch) : zk_me zt_Ts zt_Y zt_cl zt_Zs l (1, 22) yn_mo_take prog_13_method_63_code 3 none zo_v fn_mo_take := by
  refine zk_run (X := lx_mo_take) (code := cd_mo_take) 1073741824 zt_ok (by decide) en_mo_take (zf_up (L := lf_mo_take) ?_) (zc_up (L := lc_mo_take) ?_) (zz_up (L := lg_mo_take) ?_) (zi_al_up (L := li_mo_take) ?_) zr_v_ok (zm_fv_e (by decide))
  · exact List.forall_mem_cons.mpr ⟨lk_mo_71, List.forall_mem_cons.mpr ⟨lk_mo_138, List.forall_mem_cons.mpr ⟨lk_mo_141, List.forall_mem_cons.mpr ⟨lk_mo_44, List.forall_mem_cons.mpr ⟨lk_mo_74, List.forall_mem_cons.mpr ⟨lk_mo_47, List.forall_mem_cons.mpr ⟨lk_mo_77, zq_nil⟩⟩⟩⟩⟩⟩⟩
  · exact zq_nil
  · exact zq_nil
  · exact List.forall_mem_cons.mpr ⟨zj_al_i (zj_V (i := 296) zt_ok (kt_mo_rowIsRaw l) wd_1293 wd_1295 wd_72 wd_88 wd_1296 rfl (by unfold zn_ok; decide +kernel) (by decide)), zq_nil⟩
theorem kt_mo_fitsAt (l : Launch) : zk_me zt_Ts zt_Y zt_cl zt_Zs l (3, 68) yn_mo_fitsAt prog_13_method_62_code 3 (some .boolean) zo_i fn_mo_fitsAt := by
  refine zk_run (X := lx_mo_fitsAt) (code := cd_mo_fitsAt) 1 zt_ok (by decide) en_mo_fitsAt (zf_up (L := lf_mo_fitsAt) ?_) (zc_up (L := lc_mo_fitsAt) ?_) (zz_up (L := lg_mo_fitsAt) ?_) (zi_al_up (L := li_mo_fitsAt) ?_) zr_z_ok (zm_fv_e (by decide))
  · exact List.forall_mem_cons.mpr ⟨lk_mo_115, zq_nil⟩
  · exact zq_nil
  · exact zq_nil
  · exact List.forall_mem_cons.mpr ⟨zj_al_i (zj_V (i := 188) zt_ok (kt_mo_offset l) wd_1187 wd_1189 wd_49 wd_88 wd_1190 rfl (by unfold zn_ok; decide +kernel) (by decide)), List.forall_mem_cons.mpr ⟨zj_al_i (zj_V (i := 299) zt_ok (kt_mo_rowAt l) wd_1285 wd_1287 wd_70 wd_88 wd_1288 rfl (by unfold zn_ok; decide +kernel) (by decide)), List.forall_mem_cons.mpr ⟨zj_al_i (zj_V (i := 302) zt_ok (kt_mo_fits l) wd_1289 wd_1291 wd_71 wd_88 wd_1292 rfl (by unfold zn_ok; decide +kernel) (by decide)), zq_nil⟩⟩⟩
theorem kt_mo_handled (l : Launch) : zk_me zt_Ts zt_Y zt_cl zt_Zs l (4, 90) yn_mo_handled prog_13_method_64_code 6 (some .boolean) zo_i fn_mo_handled := by
  refine zk_run (X := lx_mo_handled) (code := cd_mo_handled) 1073741824 zt_ok (by decide) en_mo_handled (zf_up (L := lf_mo_handled) ?_) (zc_up (L := lc_mo_handled) ?_) (zz_up (L := lg_mo_handled) ?_) (zi_al_up (L := li_mo_handled) ?_) zr_z_ok (zm_fv_e (by decide))
  · exact List.forall_mem_cons.mpr ⟨lk_mo_118, List.forall_mem_cons.mpr ⟨lk_mo_29, List.forall_mem_cons.mpr ⟨lk_mo_32, List.forall_mem_cons.mpr ⟨lk_mo_138, List.forall_mem_cons.mpr ⟨lk_mo_47, List.forall_mem_cons.mpr ⟨lk_mo_38, List.forall_mem_cons.mpr ⟨lk_mo_35, zq_nil⟩⟩⟩⟩⟩⟩⟩
  · exact zq_nil
  · exact zq_nil
  · exact List.forall_mem_cons.mpr ⟨zj_al_i (zj_V (i := 305) zt_ok (kt_mo_fitsAt l) wd_1305 wd_1307 wd_75 wd_88 wd_1308 rfl (by unfold zn_ok; decide +kernel) (by decide)), zq_nil⟩
theorem kt_mo_check (l : Launch) : zk_me zt_Ts zt_Y zt_cl zt_Zs l (7, 158) yn_mo_check prog_13_method_65_code 6 (some .int) zo_i fn_mo_check := by
  refine zk_run (X := lx_mo_check) (code := cd_mo_check) 1073741824 zt_ok (by decide) en_mo_check (zf_up (L := lf_mo_check) ?_) (zc_up (L := lc_mo_check) ?_) (zz_up (L := lg_mo_check) ?_) (zi_al_up (L := li_mo_check) ?_) zr_i_ok (zm_fv_e (by decide))
  · exact List.forall_mem_cons.mpr ⟨lk_mo_115, List.forall_mem_cons.mpr ⟨lk_mo_20, List.forall_mem_cons.mpr ⟨lk_mo_26, zq_nil⟩⟩⟩
  · exact zq_nil
  · exact zq_nil
  · exact List.forall_mem_cons.mpr ⟨zj_al_i (zj_V (i := 308) zt_ok (kt_mo_readRows l) wd_1253 wd_1255 wd_62 wd_88 wd_1256 rfl (by unfold zn_ok; decide +kernel) (by decide)), List.forall_mem_cons.mpr ⟨zj_al_v (zj_V (i := 214) zt_ok (kt_mo_first l) wd_1112 wd_1114 wd_34 wd_88 wd_1115 rfl (by unfold zn_ok; decide +kernel) (by decide)), List.forall_mem_cons.mpr ⟨zj_al_i (zj_V (i := 188) zt_ok (kt_mo_offset l) wd_1187 wd_1189 wd_49 wd_88 wd_1190 rfl (by unfold zn_ok; decide +kernel) (by decide)), List.forall_mem_cons.mpr ⟨zj_al_i (zj_V (i := 299) zt_ok (kt_mo_rowAt l) wd_1285 wd_1287 wd_70 wd_88 wd_1288 rfl (by unfold zn_ok; decide +kernel) (by decide)), List.forall_mem_cons.mpr ⟨zj_al_i (zj_V (i := 302) zt_ok (kt_mo_fits l) wd_1289 wd_1291 wd_71 wd_88 wd_1292 rfl (by unfold zn_ok; decide +kernel) (by decide)), List.forall_mem_cons.mpr ⟨zj_al_v (zj_V (i := 311) zt_ok (kt_mo_take l) wd_1297 wd_1299 wd_73 wd_88 wd_1300 rfl (by unfold zn_ok; decide +kernel) (by decide)), List.forall_mem_cons.mpr ⟨zj_al_i (zj_V (i := 314) zt_ok (kt_mo_handled l) wd_1301 wd_1303 wd_74 wd_88 wd_1304 rfl (by unfold zn_ok; decide +kernel) (by decide)), List.forall_mem_cons.mpr ⟨zj_al_i (zj_V (i := 217) zt_ok (kt_mo_leave l) wd_1135 wd_1137 wd_39 wd_88 wd_1138 rfl (by unfold zn_ok; decide +kernel) (by decide)), List.forall_mem_cons.mpr ⟨zj_al_i (zj_S (i := 97) zt_ok (kt_mo_in l) wd_1068 wd_1069 wd_88 wd_1070 (by unfold zn_ok; decide +kernel) (by decide)), List.forall_mem_cons.mpr ⟨zj_al_i (zj_V (i := 305) zt_ok (kt_mo_fitsAt l) wd_1305 wd_1307 wd_75 wd_88 wd_1308 rfl (by unfold zn_ok; decide +kernel) (by decide)), List.forall_mem_cons.mpr ⟨zj_al_i (zj_S (i := 204) zt_ok (kt_mo_isEnd l) wd_1202 wd_1203 wd_88 wd_1204 (by unfold zn_ok; decide +kernel) (by decide)), zq_nil⟩⟩⟩⟩⟩⟩⟩⟩⟩⟩⟩
theorem kt_mo_map (l : Launch) : zk_me zt_Ts zt_Y zt_cl zt_Zs l (1, 22) yn_mo_map prog_13_method_66_code 2 (some .int) zo_i fn_mo_map := by
  refine zk_run (X := lx_mo_map) (code := cd_mo_map) 1 zt_ok (by decide) en_mo_map (zf_up (L := lf_mo_map) ?_) (zc_up (L := lc_mo_map) ?_) (zz_up (L := lg_mo_map) ?_) (zi_al_up (L := li_mo_map) ?_) zr_i_ok (zm_fv_e (by decide))
  · exact List.forall_mem_cons.mpr ⟨lk_mo_263, List.forall_mem_cons.mpr ⟨lk_mo_41, zq_nil⟩⟩
  · exact zq_nil
  · exact zq_nil
  · exact List.forall_mem_cons.mpr ⟨zj_al_i (zj_S (i := 97) zt_ok (kt_mo_in l) wd_1068 wd_1069 wd_88 wd_1070 (by unfold zn_ok; decide +kernel) (by decide)), zq_nil⟩
theorem kt_mo_patch (l : Launch) : zk_me zt_Ts zt_Y zt_cl zt_Zs l (1, 22) yn_mo_patch prog_13_method_67_code 3 (some .boolean) zo_i fn_mo_patch := by
  refine zk_run (X := lx_mo_patch) (code := cd_mo_patch) 1 zt_ok (by decide) en_mo_patch (zf_up (L := lf_mo_patch) ?_) (zc_up (L := lc_mo_patch) ?_) (zz_up (L := lg_mo_patch) ?_) (zi_al_up (L := li_mo_patch) ?_) zr_z_ok (zm_fv_e (by decide))
  · exact List.forall_mem_cons.mpr ⟨lk_mo_263, List.forall_mem_cons.mpr ⟨lk_mo_41, zq_nil⟩⟩
  · exact zq_nil
  · exact zq_nil
  · exact List.forall_mem_cons.mpr ⟨zj_al_i (zj_S (i := 97) zt_ok (kt_mo_in l) wd_1068 wd_1069 wd_88 wd_1070 (by unfold zn_ok; decide +kernel) (by decide)), zq_nil⟩
theorem kt_mo_cut (l : Launch) : zk_me zt_Ts zt_Y zt_cl zt_Zs l (1, 22) yn_mo_cut prog_13_method_68_code 3 (some .int) zo_i fn_mo_cut := by
  refine zk_run (X := lx_mo_cut) (code := cd_mo_cut) 1 zt_ok (by decide) en_mo_cut (zf_up (L := lf_mo_cut) ?_) (zc_up (L := lc_mo_cut) ?_) (zz_up (L := lg_mo_cut) ?_) (zi_al_up (L := li_mo_cut) ?_) zr_i_ok (zm_fv_e (by decide))
  · exact List.forall_mem_cons.mpr ⟨lk_mo_263, zq_nil⟩
  · exact zq_nil
  · exact zq_nil
  · exact List.forall_mem_cons.mpr ⟨zj_al_i (zj_S (i := 97) zt_ok (kt_mo_in l) wd_1068 wd_1069 wd_88 wd_1070 (by unfold zn_ok; decide +kernel) (by decide)), zq_nil⟩
theorem kt_mo_row (l : Launch) : zk_me zt_Ts zt_Y zt_cl zt_Zs l (7, 158) yn_mo_row prog_13_method_69_code 4 (some .int) zo_i fn_mo_row := by
  refine zk_run (X := lx_mo_row) (code := cd_mo_row) 1 zt_ok (by decide) en_mo_row (zf_up (L := lf_mo_row) ?_) (zc_up (L := lc_mo_row) ?_) (zz_up (L := lg_mo_row) ?_) (zi_al_up (L := li_mo_row) ?_) zr_i_ok (zm_fv_e (by decide))
  · exact List.forall_mem_cons.mpr ⟨lk_mo_290, List.forall_mem_cons.mpr ⟨lk_mo_74, List.forall_mem_cons.mpr ⟨lk_mo_71, List.forall_mem_cons.mpr ⟨lk_mo_77, List.forall_mem_cons.mpr ⟨lk_mo_65, List.forall_mem_cons.mpr ⟨lk_mo_68, zq_nil⟩⟩⟩⟩⟩⟩
  · exact zq_nil
  · exact zq_nil
  · exact List.forall_mem_cons.mpr ⟨zj_al_i (zj_S (i := 97) zt_ok (kt_mo_in l) wd_1068 wd_1069 wd_88 wd_1070 (by unfold zn_ok; decide +kernel) (by decide)), List.forall_mem_cons.mpr ⟨zj_al_i (zj_V (i := 308) zt_ok (kt_mo_readRows l) wd_1253 wd_1255 wd_62 wd_88 wd_1256 rfl (by unfold zn_ok; decide +kernel) (by decide)), zq_nil⟩⟩
theorem kt_mo_code (l : Launch) : zk_me zt_Ts zt_Y zt_cl zt_Zs l (2, 43) yn_mo_code prog_13_method_70_code 3 (some .int) zo_i fn_mo_code := by
  refine zk_run (X := lx_mo_code) (code := cd_mo_code) 1 zt_ok (by decide) en_mo_code (zf_up (L := lf_mo_code) ?_) (zc_up (L := lc_mo_code) ?_) (zz_up (L := lg_mo_code) ?_) (zi_al_up (L := li_mo_code) ?_) zr_i_ok (zm_fv_e (by decide))
  · exact List.forall_mem_cons.mpr ⟨lk_mo_115, List.forall_mem_cons.mpr ⟨lk_mo_20, List.forall_mem_cons.mpr ⟨lk_mo_23, List.forall_mem_cons.mpr ⟨lk_mo_26, zq_nil⟩⟩⟩⟩
  · exact zq_nil
  · exact zq_nil
  · exact List.forall_mem_cons.mpr ⟨zj_al_i (zj_S (i := 97) zt_ok (kt_mo_in l) wd_1068 wd_1069 wd_88 wd_1070 (by unfold zn_ok; decide +kernel) (by decide)), List.forall_mem_cons.mpr ⟨zj_al_i (zj_V (i := 188) zt_ok (kt_mo_offset l) wd_1187 wd_1189 wd_49 wd_88 wd_1190 rfl (by unfold zn_ok; decide +kernel) (by decide)), zq_nil⟩⟩
theorem kt_mo_count (l : Launch) : zk_me zt_Ts zt_Y zt_cl zt_Zs l (7, 158) yn_mo_count prog_13_method_71_code 3 (some .int) zo_i fn_mo_count := by
  refine zk_run (X := lx_mo_count) (code := cd_mo_count) 1 zt_ok (by decide) en_mo_count (zf_up (L := lf_mo_count) ?_) (zc_up (L := lc_mo_count) ?_) (zz_up (L := lg_mo_count) ?_) (zi_al_up (L := li_mo_count) ?_) zr_i_ok (zm_fv_e (by decide))
  · exact List.forall_mem_cons.mpr ⟨lk_mo_290, List.forall_mem_cons.mpr ⟨lk_mo_115, List.forall_mem_cons.mpr ⟨lk_mo_118, List.forall_mem_cons.mpr ⟨lk_mo_112, zq_nil⟩⟩⟩⟩
  · exact zq_nil
  · exact zq_nil
  · exact List.forall_mem_cons.mpr ⟨zj_al_i (zj_V (i := 308) zt_ok (kt_mo_readRows l) wd_1253 wd_1255 wd_62 wd_88 wd_1256 rfl (by unfold zn_ok; decide +kernel) (by decide)), List.forall_mem_cons.mpr ⟨zj_al_i (zj_V (i := 188) zt_ok (kt_mo_offset l) wd_1187 wd_1189 wd_49 wd_88 wd_1190 rfl (by unfold zn_ok; decide +kernel) (by decide)), zq_nil⟩⟩
