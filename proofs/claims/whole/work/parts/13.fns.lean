def lf_fa_describe : List (Nat × (Nat × Nat)) := [(9, (0, 0)), (15, (0, 1)), (19, (0, 2))]
def lc_fa_describe : List (Nat × Int32) := []
def lg_fa_describe : List (Nat × (Nat × Nat)) := []
def li_fa_describe : List (Nat × zm_F) := []
def lx_fa_describe : zm_X := (zl_up lf_fa_describe, zl_up lc_fa_describe, zl_up lg_fa_describe, zl_up li_fa_describe)
def fn_fa_describe : List zm_V → zm_M → Option zm_M := zm_fv zt_Y 0 3 (fun av M => zm_rn zt_Y lx_fa_describe zr_v cd_fa_describe 1073741824 0 (zm_lo av 5) [] M)
def lf_mf_forgetFindings : List (Nat × (Nat × Nat)) := [(40, (10, 3)), (188, (5, 8)), (58, (10, 5)), (136, (8, 9))]
def lc_mf_forgetFindings : List (Nat × Int32) := []
def lg_mf_forgetFindings : List (Nat × (Nat × Nat)) := []
def li_mf_forgetFindings : List (Nat × zm_F) := []
def lx_mf_forgetFindings : zm_X := (zl_up lf_mf_forgetFindings, zl_up lc_mf_forgetFindings, zl_up lg_mf_forgetFindings, zl_up li_mf_forgetFindings)
def fn_mf_forgetFindings : List zm_V → zm_M → Option zm_M := zm_fv zt_Y 10 0 (fun av M => zm_rn zt_Y lx_mf_forgetFindings zr_v cd_mf_forgetFindings 1 0 (zm_lo av 1) [] M)
def lf_mf_type : List (Nat × (Nat × Nat)) := [(12, (10, 0))]
def lc_mf_type : List (Nat × Int32) := []
def lg_mf_type : List (Nat × (Nat × Nat)) := []
def li_mf_type : List (Nat × zm_F) := [(143, (4, .inr (.inl fn_fa_describe))), (151, (1, .inr (.inl fn_mf_forgetFindings)))]
def lx_mf_type : zm_X := (zl_up lf_mf_type, zl_up lc_mf_type, zl_up lg_mf_type, zl_up li_mf_type)
def fn_mf_type : List zm_V → zm_M → Option (Int32 × zm_M) := zm_fv zt_Y 10 3 (fun av M => zm_rn zt_Y lx_mf_type zr_z cd_mf_type 1 0 (zm_lo av 4) [] M)
def lf_mf_isClass : List (Nat × (Nat × Nat)) := []
def lc_mf_isClass : List (Nat × Int32) := []
def lg_mf_isClass : List (Nat × (Nat × Nat)) := []
def li_mf_isClass : List (Nat × zm_F) := []
def lx_mf_isClass : zm_X := (zl_up lf_mf_isClass, zl_up lc_mf_isClass, zl_up lg_mf_isClass, zl_up li_mf_isClass)
def fn_mf_isClass : List zm_V → zm_M → Option (Int32 × zm_M) := zm_fs 1 (fun av M => zm_rn zt_Y lx_mf_isClass zr_z cd_mf_isClass 1 0 (zm_lo av 1) [] M)
def lf_pr_begin : List (Nat × (Nat × Nat)) := [(39, (1, 0)), (43, (1, 1)), (46, (1, 2)), (50, (1, 4)), (53, (1, 9)), (56, (1, 14))]
def lc_pr_begin : List (Nat × Int32) := []
def lg_pr_begin : List (Nat × (Nat × Nat)) := []
def li_pr_begin : List (Nat × zm_F) := []
def lx_pr_begin : zm_X := (zl_up lf_pr_begin, zl_up lc_pr_begin, zl_up lg_pr_begin, zl_up li_pr_begin)
def fn_pr_begin : List zm_V → zm_M → Option zm_M := zm_fv zt_Y 1 3 (fun av M => zm_rn zt_Y lx_pr_begin zr_v cd_pr_begin 1 0 (zm_lo av 4) [] M)
def lf_mf_method : List (Nat × (Nat × Nat)) := [(19, (10, 1))]
def lc_mf_method : List (Nat × Int32) := []
def lg_mf_method : List (Nat × (Nat × Nat)) := []
def li_mf_method : List (Nat × zm_F) := [(156, (1, .inl fn_mf_isClass)), (165, (4, .inr (.inl fn_pr_begin))), (151, (1, .inr (.inl fn_mf_forgetFindings)))]
def lx_mf_method : zm_X := (zl_up lf_mf_method, zl_up lc_mf_method, zl_up lg_mf_method, zl_up li_mf_method)
def fn_mf_method : List zm_V → zm_M → Option (Int32 × zm_M) := zm_fv zt_Y 10 3 (fun av M => zm_rn zt_Y lx_mf_method zr_z cd_mf_method 1 0 (zm_lo av 4) [] M)
def lf_mf_kindOf : List (Nat × (Nat × Nat)) := []
def lc_mf_kindOf : List (Nat × Int32) := []
def lg_mf_kindOf : List (Nat × (Nat × Nat)) := []
def li_mf_kindOf : List (Nat × zm_F) := []
def lx_mf_kindOf : zm_X := (zl_up lf_mf_kindOf, zl_up lc_mf_kindOf, zl_up lg_mf_kindOf, zl_up li_mf_kindOf)
def fn_mf_kindOf : List zm_V → zm_M → Option (Int32 × zm_M) := zm_fs 1 (fun av M => zm_rn zt_Y lx_mf_kindOf zr_i cd_mf_kindOf 1 0 (zm_lo av 1) [] M)
def lf_mf_partOf : List (Nat × (Nat × Nat)) := []
def lc_mf_partOf : List (Nat × Int32) := []
def lg_mf_partOf : List (Nat × (Nat × Nat)) := []
def li_mf_partOf : List (Nat × zm_F) := []
def lx_mf_partOf : zm_X := (zl_up lf_mf_partOf, zl_up lc_mf_partOf, zl_up lg_mf_partOf, zl_up li_mf_partOf)
def fn_mf_partOf : List zm_V → zm_M → Option (Int32 × zm_M) := zm_fs 1 (fun av M => zm_rn zt_Y lx_mf_partOf zr_i cd_mf_partOf 1 0 (zm_lo av 1) [] M)
def lf_mf_argument : List (Nat × (Nat × Nat)) := [(19, (10, 1)), (92, (1, 4)), (96, (1, 3))]
def lc_mf_argument : List (Nat × Int32) := []
def lg_mf_argument : List (Nat × (Nat × Nat)) := []
def li_mf_argument : List (Nat × zm_F) := [(170, (1, .inl fn_mf_kindOf)), (178, (1, .inl fn_mf_partOf)), (156, (1, .inl fn_mf_isClass)), (151, (1, .inr (.inl fn_mf_forgetFindings)))]
def lx_mf_argument : zm_X := (zl_up lf_mf_argument, zl_up lc_mf_argument, zl_up lg_mf_argument, zl_up li_mf_argument)
def fn_mf_argument : List zm_V → zm_M → Option (Int32 × zm_M) := zm_fv zt_Y 10 1 (fun av M => zm_rn zt_Y lx_mf_argument zr_i cd_mf_argument 1 0 (zm_lo av 4) [] M)
def lf_mf_hasLocal : List (Nat × (Nat × Nat)) := []
def lc_mf_hasLocal : List (Nat × Int32) := []
def lg_mf_hasLocal : List (Nat × (Nat × Nat)) := []
def li_mf_hasLocal : List (Nat × zm_F) := []
def lx_mf_hasLocal : zm_X := (zl_up lf_mf_hasLocal, zl_up lc_mf_hasLocal, zl_up lg_mf_hasLocal, zl_up li_mf_hasLocal)
def fn_mf_hasLocal : List zm_V → zm_M → Option (Int32 × zm_M) := zm_fs 1 (fun av M => zm_rn zt_Y lx_mf_hasLocal zr_z cd_mf_hasLocal 1 0 (zm_lo av 1) [] M)
def lf_mf_localKindOf : List (Nat × (Nat × Nat)) := []
def lc_mf_localKindOf : List (Nat × Int32) := []
def lg_mf_localKindOf : List (Nat × (Nat × Nat)) := [(201, (62, 0))]
def li_mf_localKindOf : List (Nat × zm_F) := []
def lx_mf_localKindOf : zm_X := (zl_up lf_mf_localKindOf, zl_up lc_mf_localKindOf, zl_up lg_mf_localKindOf, zl_up li_mf_localKindOf)
def fn_mf_localKindOf : List zm_V → zm_M → Option (Int32 × zm_M) := zm_fs 1 (fun av M => zm_rn zt_Y lx_mf_localKindOf zr_i cd_mf_localKindOf 1 0 (zm_lo av 1) [] M)
def lf_mf_widthOf : List (Nat × (Nat × Nat)) := []
def lc_mf_widthOf : List (Nat × Int32) := []
def lg_mf_widthOf : List (Nat × (Nat × Nat)) := []
def li_mf_widthOf : List (Nat × zm_F) := []
def lx_mf_widthOf : zm_X := (zl_up lf_mf_widthOf, zl_up lc_mf_widthOf, zl_up lg_mf_widthOf, zl_up li_mf_widthOf)
def fn_mf_widthOf : List zm_V → zm_M → Option (Int32 × zm_M) := zm_fs 1 (fun av M => zm_rn zt_Y lx_mf_widthOf zr_i cd_mf_widthOf 1 0 (zm_lo av 1) [] M)
def lf_mf_isJump : List (Nat × (Nat × Nat)) := []
def lc_mf_isJump : List (Nat × Int32) := []
def lg_mf_isJump : List (Nat × (Nat × Nat)) := []
def li_mf_isJump : List (Nat × zm_F) := []
def lx_mf_isJump : zm_X := (zl_up lf_mf_isJump, zl_up lc_mf_isJump, zl_up lg_mf_isJump, zl_up li_mf_isJump)
def fn_mf_isJump : List zm_V → zm_M → Option (Int32 × zm_M) := zm_fs 1 (fun av M => zm_rn zt_Y lx_mf_isJump zr_z cd_mf_isJump 1 0 (zm_lo av 1) [] M)
def lf_mf_isPlace : List (Nat × (Nat × Nat)) := []
def lc_mf_isPlace : List (Nat × Int32) := []
def lg_mf_isPlace : List (Nat × (Nat × Nat)) := []
def li_mf_isPlace : List (Nat × zm_F) := []
def lx_mf_isPlace : zm_X := (zl_up lf_mf_isPlace, zl_up lc_mf_isPlace, zl_up lg_mf_isPlace, zl_up li_mf_isPlace)
def fn_mf_isPlace : List zm_V → zm_M → Option (Int32 × zm_M) := zm_fs 1 (fun av M => zm_rn zt_Y lx_mf_isPlace zr_z cd_mf_isPlace 1 0 (zm_lo av 1) [] M)
def lf_mf_isInstruction : List (Nat × (Nat × Nat)) := []
def lc_mf_isInstruction : List (Nat × Int32) := []
def lg_mf_isInstruction : List (Nat × (Nat × Nat)) := []
def li_mf_isInstruction : List (Nat × zm_F) := [(378, (1, .inl fn_mf_hasLocal)), (384, (1, .inl fn_mf_localKindOf)), (390, (1, .inl fn_mf_widthOf)), (396, (1, .inl fn_mf_isJump)), (222, (1, .inl fn_mf_isPlace)), (156, (1, .inl fn_mf_isClass))]
def lx_mf_isInstruction : zm_X := (zl_up lf_mf_isInstruction, zl_up lc_mf_isInstruction, zl_up lg_mf_isInstruction, zl_up li_mf_isInstruction)
def fn_mf_isInstruction : List zm_V → zm_M → Option (Int32 × zm_M) := zm_fs 3 (fun av M => zm_rn zt_Y lx_mf_isInstruction zr_z cd_mf_isInstruction 1 0 (zm_lo av 3) [] M)
def lf_mf_lengthOf : List (Nat × (Nat × Nat)) := []
def lc_mf_lengthOf : List (Nat × Int32) := []
def lg_mf_lengthOf : List (Nat × (Nat × Nat)) := []
def li_mf_lengthOf : List (Nat × zm_F) := []
def lx_mf_lengthOf : zm_X := (zl_up lf_mf_lengthOf, zl_up lc_mf_lengthOf, zl_up lg_mf_lengthOf, zl_up li_mf_lengthOf)
def fn_mf_lengthOf : List zm_V → zm_M → Option (Int32 × zm_M) := zm_fs 1 (fun av M => zm_rn zt_Y lx_mf_lengthOf zr_i cd_mf_lengthOf 1 0 (zm_lo av 1) [] M)
def lf_pr_write : List (Nat × (Nat × Nat)) := [(15, (1, 5)), (18, (1, 6)), (21, (1, 7)), (53, (1, 9)), (24, (1, 8))]
def lc_pr_write : List (Nat × Int32) := []
def lg_pr_write : List (Nat × (Nat × Nat)) := []
def li_pr_write : List (Nat × zm_F) := [(118, (1, .inl fn_mf_hasLocal)), (126, (1, .inl fn_mf_isJump)), (132, (1, .inl fn_mf_lengthOf))]
def lx_pr_write : zm_X := (zl_up lf_pr_write, zl_up lc_pr_write, zl_up lg_pr_write, zl_up li_pr_write)
def fn_pr_write : List zm_V → zm_M → Option zm_M := zm_fv zt_Y 1 4 (fun av M => zm_rn zt_Y lx_pr_write zr_v cd_pr_write 1073741824 0 (zm_lo av 6) [] M)
def lf_mf_add : List (Nat × (Nat × Nat)) := [(19, (10, 1)), (104, (1, 9))]
def lc_mf_add : List (Nat × Int32) := []
def lg_mf_add : List (Nat × (Nat × Nat)) := []
def li_mf_add : List (Nat × zm_F) := [(200, (3, .inl fn_mf_isInstruction)), (215, (5, .inr (.inl fn_pr_write))), (151, (1, .inr (.inl fn_mf_forgetFindings)))]
def lx_mf_add : zm_X := (zl_up lf_mf_add, zl_up lc_mf_add, zl_up lg_mf_add, zl_up li_mf_add)
def fn_mf_add : List zm_V → zm_M → Option (Int32 × zm_M) := zm_fv zt_Y 10 3 (fun av M => zm_rn zt_Y lx_mf_add zr_i cd_mf_add 1 0 (zm_lo av 4) [] M)
def lf_mf_change : List (Nat × (Nat × Nat)) := [(19, (10, 1)), (104, (1, 9))]
def lc_mf_change : List (Nat × Int32) := []
def lg_mf_change : List (Nat × (Nat × Nat)) := []
def li_mf_change : List (Nat × zm_F) := [(200, (3, .inl fn_mf_isInstruction)), (215, (5, .inr (.inl fn_pr_write))), (151, (1, .inr (.inl fn_mf_forgetFindings)))]
def lx_mf_change : zm_X := (zl_up lf_mf_change, zl_up lc_mf_change, zl_up lg_mf_change, zl_up li_mf_change)
def fn_mf_change : List zm_V → zm_M → Option (Int32 × zm_M) := zm_fv zt_Y 10 4 (fun av M => zm_rn zt_Y lx_mf_change zr_z cd_mf_change 1 0 (zm_lo av 5) [] M)
def lf_pr_guard : List (Nat × (Nat × Nat)) := [(27, (1, 10)), (56, (1, 14)), (30, (1, 11)), (33, (1, 12)), (36, (1, 13))]
def lc_pr_guard : List (Nat × Int32) := []
def lg_pr_guard : List (Nat × (Nat × Nat)) := []
def li_pr_guard : List (Nat × zm_F) := []
def lx_pr_guard : zm_X := (zl_up lf_pr_guard, zl_up lc_pr_guard, zl_up lg_pr_guard, zl_up li_pr_guard)
def fn_pr_guard : List zm_V → zm_M → Option zm_M := zm_fv zt_Y 1 4 (fun av M => zm_rn zt_Y lx_pr_guard zr_v cd_pr_guard 1 0 (zm_lo av 5) [] M)
def lf_mf_handle : List (Nat × (Nat × Nat)) := [(19, (10, 1)), (114, (1, 14))]
def lc_mf_handle : List (Nat × Int32) := []
def lg_mf_handle : List (Nat × (Nat × Nat)) := []
def li_mf_handle : List (Nat × zm_F) := [(222, (1, .inl fn_mf_isPlace)), (156, (1, .inl fn_mf_isClass)), (235, (5, .inr (.inl fn_pr_guard))), (151, (1, .inr (.inl fn_mf_forgetFindings)))]
def lx_mf_handle : zm_X := (zl_up lf_mf_handle, zl_up lc_mf_handle, zl_up lg_mf_handle, zl_up li_mf_handle)
def fn_mf_handle : List zm_V → zm_M → Option (Int32 × zm_M) := zm_fv zt_Y 10 4 (fun av M => zm_rn zt_Y lx_mf_handle zr_i cd_mf_handle 1 0 (zm_lo av 5) [] M)
def lf_ja_fill : List (Nat × (Nat × Nat)) := []
def lc_ja_fill : List (Nat × Int32) := []
def lg_ja_fill : List (Nat × (Nat × Nat)) := []
def li_ja_fill : List (Nat × zm_F) := []
def lx_ja_fill : zm_X := (zl_up lf_ja_fill, zl_up lc_ja_fill, zl_up lg_ja_fill, zl_up li_ja_fill)
def fn_ja_fill : List zm_V → zm_M → Option zm_M := zm_fs 2 (fun av M => zm_rn zt_Y lx_ja_fill zr_v cd_ja_fill 1073741824 0 (zm_lo av 4) [] M)
def lf_fr_emptyStack : List (Nat × (Nat × Nat)) := [(24, (4, 2)), (28, (4, 3))]
def lc_fr_emptyStack : List (Nat × Int32) := []
def lg_fr_emptyStack : List (Nat × (Nat × Nat)) := []
def li_fr_emptyStack : List (Nat × zm_F) := []
def lx_fr_emptyStack : zm_X := (zl_up lf_fr_emptyStack, zl_up lc_fr_emptyStack, zl_up lg_fr_emptyStack, zl_up li_fr_emptyStack)
def fn_fr_emptyStack : List zm_V → zm_M → Option zm_M := zm_fv zt_Y 4 0 (fun av M => zm_rn zt_Y lx_fr_emptyStack zr_v cd_fr_emptyStack 1 0 (zm_lo av 1) [] M)
def lf_mf_typeOf : List (Nat × (Nat × Nat)) := []
def lc_mf_typeOf : List (Nat × Int32) := []
def lg_mf_typeOf : List (Nat × (Nat × Nat)) := []
def li_mf_typeOf : List (Nat × zm_F) := []
def lx_mf_typeOf : zm_X := (zl_up lf_mf_typeOf, zl_up lc_mf_typeOf, zl_up lg_mf_typeOf, zl_up li_mf_typeOf)
def fn_mf_typeOf : List zm_V → zm_M → Option (Int32 × zm_M) := zm_fs 2 (fun av M => zm_rn zt_Y lx_mf_typeOf zr_i cd_mf_typeOf 1 0 (zm_lo av 2) [] M)
def lf_pr_enter : List (Nat × (Nat × Nat)) := [(73, (4, 0)), (43, (1, 1)), (87, (4, 4)), (39, (1, 0)), (50, (1, 4)), (9, (1, 3))]
def lc_pr_enter : List (Nat × Int32) := []
def lg_pr_enter : List (Nat × (Nat × Nat)) := []
def li_pr_enter : List (Nat × zm_F) := [(156, (2, .inr (.inl fn_ja_fill))), (169, (1, .inr (.inl fn_fr_emptyStack))), (180, (2, .inl fn_mf_typeOf)), (188, (1, .inl fn_mf_widthOf))]
def lx_pr_enter : zm_X := (zl_up lf_pr_enter, zl_up lc_pr_enter, zl_up lg_pr_enter, zl_up li_pr_enter)
def fn_pr_enter : List zm_V → zm_M → Option zm_M := zm_fv zt_Y 1 1 (fun av M => zm_rn zt_Y lx_pr_enter zr_v cd_pr_enter 1073741824 0 (zm_lo av 4) [] M)
def lf_mf_isObjectOrNull : List (Nat × (Nat × Nat)) := []
def lc_mf_isObjectOrNull : List (Nat × Int32) := []
def lg_mf_isObjectOrNull : List (Nat × (Nat × Nat)) := []
def li_mf_isObjectOrNull : List (Nat × zm_F) := [(170, (1, .inl fn_mf_kindOf))]
def lx_mf_isObjectOrNull : zm_X := (zl_up lf_mf_isObjectOrNull, zl_up lc_mf_isObjectOrNull, zl_up lg_mf_isObjectOrNull, zl_up li_mf_isObjectOrNull)
def fn_mf_isObjectOrNull : List zm_V → zm_M → Option (Int32 × zm_M) := zm_fs 1 (fun av M => zm_rn zt_Y lx_mf_isObjectOrNull zr_z cd_mf_isObjectOrNull 1 0 (zm_lo av 1) [] M)
def lf_fa_join : List (Nat × (Nat × Nat)) := [(19, (0, 2)), (9, (0, 0))]
def lc_fa_join : List (Nat × Int32) := []
def lg_fa_join : List (Nat × (Nat × Nat)) := []
def li_fa_join : List (Nat × zm_F) := [(58, (1, .inl fn_mf_isObjectOrNull)), (52, (1, .inl fn_mf_partOf)), (66, (2, .inl fn_mf_typeOf))]
def lx_fa_join : zm_X := (zl_up lf_fa_join, zl_up lc_fa_join, zl_up lg_fa_join, zl_up li_fa_join)
def fn_fa_join : List zm_V → zm_M → Option (Int32 × zm_M) := zm_fv zt_Y 0 2 (fun av M => zm_rn zt_Y lx_fa_join zr_i cd_fa_join 1073741824 0 (zm_lo av 5) [] M)
def lf_fl_joinAt : List (Nat × (Nat × Nat)) := [(11, (5, 3)), (121, (4, 2)), (124, (4, 4)), (24, (5, 6)), (32, (5, 0)), (127, (4, 0)), (136, (4, 1))]
def lc_fl_joinAt : List (Nat × Int32) := []
def lg_fl_joinAt : List (Nat × (Nat × Nat)) := []
def li_fl_joinAt : List (Nat × zm_F) := [(261, (3, .inl fn_fa_join))]
def lx_fl_joinAt : zm_X := (zl_up lf_fl_joinAt, zl_up lc_fl_joinAt, zl_up lg_fl_joinAt, zl_up li_fl_joinAt)
def fn_fl_joinAt : List zm_V → zm_M → Option (Int32 × zm_M) := zm_fv zt_Y 5 2 (fun av M => zm_rn zt_Y lx_fl_joinAt zr_z cd_fl_joinAt 1073741824 0 (zm_lo av 6) [] M)
def lf_fr_takeOver : List (Nat × (Nat × Nat)) := [(9, (4, 0)), (15, (4, 1)), (24, (4, 2)), (28, (4, 3)), (31, (4, 4))]
def lc_fr_takeOver : List (Nat × Int32) := []
def lg_fr_takeOver : List (Nat × (Nat × Nat)) := []
def li_fr_takeOver : List (Nat × zm_F) := [(36, (5, .inr (.inl (zm_ac zt_Y))))]
def lx_fr_takeOver : zm_X := (zl_up lf_fr_takeOver, zl_up lc_fr_takeOver, zl_up lg_fr_takeOver, zl_up li_fr_takeOver)
def fn_fr_takeOver : List zm_V → zm_M → Option zm_M := zm_fv zt_Y 4 1 (fun av M => zm_rn zt_Y lx_fr_takeOver zr_v cd_fr_takeOver 1 0 (zm_lo av 2) [] M)
def lf_fl_arrive : List (Nat × (Nat × Nat)) := [(36, (5, 1)), (55, (1, 9)), (21, (5, 5)), (24, (5, 6)), (11, (5, 3))]
def lc_fl_arrive : List (Nat × Int32) := []
def lg_fl_arrive : List (Nat × (Nat × Nat)) := []
def li_fl_arrive : List (Nat × zm_F) := [(237, (3, .inl fn_fl_joinAt)), (197, (2, .inr (.inl fn_fr_takeOver)))]
def lx_fl_arrive : zm_X := (zl_up lf_fl_arrive, zl_up lc_fl_arrive, zl_up lg_fl_arrive, zl_up li_fl_arrive)
def fn_fl_arrive : List zm_V → zm_M → Option (Int32 × zm_M) := zm_fv zt_Y 5 2 (fun av M => zm_rn zt_Y lx_fl_arrive zr_z cd_fl_arrive 1 0 (zm_lo av 3) [] M)
def lf_fl_begin : List (Nat × (Nat × Nat)) := [(21, (5, 5)), (24, (5, 6)), (36, (5, 1)), (28, (5, 7))]
def lc_fl_begin : List (Nat × Int32) := []
def lg_fl_begin : List (Nat × (Nat × Nat)) := []
def li_fl_begin : List (Nat × zm_F) := [(145, (2, .inr (.inl fn_pr_enter))), (153, (3, .inl fn_fl_arrive))]
def lx_fl_begin : zm_X := (zl_up lf_fl_begin, zl_up lc_fl_begin, zl_up lg_fl_begin, zl_up li_fl_begin)
def fn_fl_begin : List zm_V → zm_M → Option zm_M := zm_fv zt_Y 5 0 (fun av M => zm_rn zt_Y lx_fl_begin zr_v cd_fl_begin 1073741824 0 (zm_lo av 2) [] M)
def lf_pr_isGuarded : List (Nat × (Nat × Nat)) := [(27, (1, 10)), (30, (1, 11))]
def lc_pr_isGuarded : List (Nat × Int32) := []
def lg_pr_isGuarded : List (Nat × (Nat × Nat)) := []
def li_pr_isGuarded : List (Nat × zm_F) := []
def lx_pr_isGuarded : zm_X := (zl_up lf_pr_isGuarded, zl_up lc_pr_isGuarded, zl_up lg_pr_isGuarded, zl_up li_pr_isGuarded)
def fn_pr_isGuarded : List zm_V → zm_M → Option (Int32 × zm_M) := zm_fv zt_Y 1 2 (fun av M => zm_rn zt_Y lx_pr_isGuarded zr_z cd_pr_isGuarded 1 0 (zm_lo av 3) [] M)
def lf_fr_push : List (Nat × (Nat × Nat)) := [(28, (4, 3)), (15, (4, 1)), (24, (4, 2))]
def lc_fr_push : List (Nat × Int32) := []
def lg_fr_push : List (Nat × (Nat × Nat)) := []
def li_fr_push : List (Nat × zm_F) := [(100, (1, .inl fn_mf_widthOf))]
def lx_fr_push : zm_X := (zl_up lf_fr_push, zl_up lc_fr_push, zl_up lg_fr_push, zl_up li_fr_push)
def fn_fr_push : List zm_V → zm_M → Option (Int32 × zm_M) := zm_fv zt_Y 4 1 (fun av M => zm_rn zt_Y lx_fr_push zr_z cd_fr_push 1 0 (zm_lo av 3) [] M)
def lf_fr_takeOverForHandler : List (Nat × (Nat × Nat)) := []
def lc_fr_takeOverForHandler : List (Nat × Int32) := []
def lg_fr_takeOverForHandler : List (Nat × (Nat × Nat)) := []
def li_fr_takeOverForHandler : List (Nat × zm_F) := [(71, (2, .inr (.inl fn_fr_takeOver))), (79, (1, .inr (.inl fn_fr_emptyStack))), (84, (2, .inl fn_mf_typeOf)), (93, (2, .inl fn_fr_push))]
def lx_fr_takeOverForHandler : zm_X := (zl_up lf_fr_takeOverForHandler, zl_up lc_fr_takeOverForHandler, zl_up lg_fr_takeOverForHandler, zl_up li_fr_takeOverForHandler)
def fn_fr_takeOverForHandler : List zm_V → zm_M → Option zm_M := zm_fv zt_Y 4 2 (fun av M => zm_rn zt_Y lx_fr_takeOverForHandler zr_v cd_fr_takeOverForHandler 1 0 (zm_lo av 3) [] M)
def lf_fl_leaveToHandlers : List (Nat × (Nat × Nat)) := [(36, (5, 1)), (80, (1, 14)), (28, (5, 7)), (11, (5, 3)), (87, (1, 13)), (95, (1, 12))]
def lc_fl_leaveToHandlers : List (Nat × Int32) := []
def lg_fl_leaveToHandlers : List (Nat × (Nat × Nat)) := []
def li_fl_leaveToHandlers : List (Nat × zm_F) := [(167, (3, .inl fn_pr_isGuarded)), (183, (3, .inr (.inl fn_fr_takeOverForHandler))), (153, (3, .inl fn_fl_arrive))]
def lx_fl_leaveToHandlers : zm_X := (zl_up lf_fl_leaveToHandlers, zl_up lc_fl_leaveToHandlers, zl_up lg_fl_leaveToHandlers, zl_up li_fl_leaveToHandlers)
def fn_fl_leaveToHandlers : List zm_V → zm_M → Option (Int32 × zm_M) := zm_fv zt_Y 5 1 (fun av M => zm_rn zt_Y lx_fl_leaveToHandlers zr_z cd_fl_leaveToHandlers 1073741824 0 (zm_lo av 3) [] M)
def lf_fr_peek : List (Nat × (Nat × Nat)) := [(24, (4, 2)), (15, (4, 1))]
def lc_fr_peek : List (Nat × Int32) := []
def lg_fr_peek : List (Nat × (Nat × Nat)) := []
def li_fr_peek : List (Nat × zm_F) := []
def lx_fr_peek : zm_X := (zl_up lf_fr_peek, zl_up lc_fr_peek, zl_up lg_fr_peek, zl_up li_fr_peek)
def fn_fr_peek : List zm_V → zm_M → Option (Int32 × zm_M) := zm_fv zt_Y 4 1 (fun av M => zm_rn zt_Y lx_fr_peek zr_i cd_fr_peek 1 0 (zm_lo av 2) [] M)
def lf_fr_drop : List (Nat × (Nat × Nat)) := [(24, (4, 2)), (28, (4, 3)), (15, (4, 1))]
def lc_fr_drop : List (Nat × Int32) := []
def lg_fr_drop : List (Nat × (Nat × Nat)) := []
def li_fr_drop : List (Nat × zm_F) := [(100, (1, .inl fn_mf_widthOf))]
def lx_fr_drop : zm_X := (zl_up lf_fr_drop, zl_up lc_fr_drop, zl_up lg_fr_drop, zl_up li_fr_drop)
def fn_fr_drop : List zm_V → zm_M → Option zm_M := zm_fv zt_Y 4 0 (fun av M => zm_rn zt_Y lx_fr_drop zr_v cd_fr_drop 1 0 (zm_lo av 1) [] M)
def lf_fr_take : List (Nat × (Nat × Nat)) := []
def lc_fr_take : List (Nat × Int32) := []
def lg_fr_take : List (Nat × (Nat × Nat)) := []
def li_fr_take : List (Nat × zm_F) := [(109, (2, .inl fn_fr_peek)), (115, (1, .inr (.inl fn_fr_drop)))]
def lx_fr_take : zm_X := (zl_up lf_fr_take, zl_up lc_fr_take, zl_up lg_fr_take, zl_up li_fr_take)
def fn_fr_take : List zm_V → zm_M → Option (Int32 × zm_M) := zm_fv zt_Y 4 1 (fun av M => zm_rn zt_Y lx_fr_take zr_z cd_fr_take 1 0 (zm_lo av 2) [] M)
def lf_mf_isSmall : List (Nat × (Nat × Nat)) := []
def lc_mf_isSmall : List (Nat × Int32) := []
def lg_mf_isSmall : List (Nat × (Nat × Nat)) := []
def li_mf_isSmall : List (Nat × zm_F) := [(170, (1, .inl fn_mf_kindOf))]
def lx_mf_isSmall : zm_X := (zl_up lf_mf_isSmall, zl_up lc_mf_isSmall, zl_up lg_mf_isSmall, zl_up li_mf_isSmall)
def fn_mf_isSmall : List zm_V → zm_M → Option (Int32 × zm_M) := zm_fs 1 (fun av M => zm_rn zt_Y lx_mf_isSmall zr_z cd_mf_isSmall 1 0 (zm_lo av 2) [] M)
def lf_ma_stepOne : List (Nat × (Nat × Nat)) := []
def lc_ma_stepOne : List (Nat × Int32) := []
def lg_ma_stepOne : List (Nat × (Nat × Nat)) := []
def li_ma_stepOne : List (Nat × zm_F) := [(97, (2, .inl fn_fr_push)), (149, (1, .inr (.inl fn_fr_drop)))]
def lx_ma_stepOne : zm_X := (zl_up lf_ma_stepOne, zl_up lc_ma_stepOne, zl_up lg_ma_stepOne, zl_up li_ma_stepOne)
def fn_ma_stepOne : List zm_V → zm_M → Option (Int32 × zm_M) := zm_fv zt_Y 3 3 (fun av M => zm_rn zt_Y lx_ma_stepOne zr_z cd_ma_stepOne 1 0 (zm_lo av 4) [] M)
def lf_fr_swap : List (Nat × (Nat × Nat)) := [(24, (4, 2)), (15, (4, 1))]
def lc_fr_swap : List (Nat × Int32) := []
def lg_fr_swap : List (Nat × (Nat × Nat)) := []
def li_fr_swap : List (Nat × zm_F) := []
def lx_fr_swap : zm_X := (zl_up lf_fr_swap, zl_up lc_fr_swap, zl_up lg_fr_swap, zl_up li_fr_swap)
def fn_fr_swap : List zm_V → zm_M → Option zm_M := zm_fv zt_Y 4 0 (fun av M => zm_rn zt_Y lx_fr_swap zr_v cd_fr_swap 1 0 (zm_lo av 2) [] M)
def lf_ma_stepTwo : List (Nat × (Nat × Nat)) := []
def lc_ma_stepTwo : List (Nat × Int32) := []
def lg_ma_stepTwo : List (Nat × (Nat × Nat)) := []
def li_ma_stepTwo : List (Nat × zm_F) := [(137, (2, .inl fn_fr_peek)), (154, (1, .inl fn_mf_isSmall)), (173, (1, .inr (.inl fn_fr_swap))), (149, (1, .inr (.inl fn_fr_drop)))]
def lx_ma_stepTwo : zm_X := (zl_up lf_ma_stepTwo, zl_up lc_ma_stepTwo, zl_up lg_ma_stepTwo, zl_up li_ma_stepTwo)
def fn_ma_stepTwo : List zm_V → zm_M → Option (Int32 × zm_M) := zm_fv zt_Y 3 2 (fun av M => zm_rn zt_Y lx_ma_stepTwo zr_z cd_ma_stepTwo 1 0 (zm_lo av 3) [] M)
def lf_ma_stepOnStack : List (Nat × (Nat × Nat)) := []
def lc_ma_stepOnStack : List (Nat × Int32) := []
def lg_ma_stepOnStack : List (Nat × (Nat × Nat)) := [(62, (62, 0))]
def li_ma_stepOnStack : List (Nat × zm_F) := [(97, (2, .inl fn_fr_push)), (131, (2, .inl fn_fr_take)), (137, (2, .inl fn_fr_peek)), (142, (1, .inl fn_mf_widthOf)), (149, (1, .inr (.inl fn_fr_drop))), (154, (1, .inl fn_mf_isSmall)), (161, (4, .inl fn_ma_stepOne)), (167, (3, .inl fn_ma_stepTwo))]
def lx_ma_stepOnStack : zm_X := (zl_up lf_ma_stepOnStack, zl_up lc_ma_stepOnStack, zl_up lg_ma_stepOnStack, zl_up li_ma_stepOnStack)
def fn_ma_stepOnStack : List zm_V → zm_M → Option (Int32 × zm_M) := zm_fv zt_Y 3 2 (fun av M => zm_rn zt_Y lx_ma_stepOnStack zr_z cd_ma_stepOnStack 1 0 (zm_lo av 4) [] M)
def lf_fa_is : List (Nat × (Nat × Nat)) := [(15, (0, 1)), (19, (0, 2))]
def lc_fa_is : List (Nat × Int32) := []
def lg_fa_is : List (Nat × (Nat × Nat)) := []
def li_fa_is : List (Nat × zm_F) := [(44, (1, .inl fn_mf_kindOf)), (52, (1, .inl fn_mf_partOf))]
def lx_fa_is : zm_X := (zl_up lf_fa_is, zl_up lc_fa_is, zl_up lg_fa_is, zl_up li_fa_is)
def fn_fa_is : List zm_V → zm_M → Option (Int32 × zm_M) := zm_fv zt_Y 0 2 (fun av M => zm_rn zt_Y lx_fa_is zr_z cd_fa_is 1 0 (zm_lo av 4) [] M)
def lf_ma_stepToOther : List (Nat × (Nat × Nat)) := [(15, (3, 1)), (89, (1, 2)), (93, (1, 1)), (97, (4, 4)), (9, (3, 0))]
def lc_ma_stepToOther : List (Nat × Int32) := []
def lg_ma_stepToOther : List (Nat × (Nat × Nat)) := []
def li_ma_stepToOther : List (Nat × zm_F) := [(131, (2, .inl fn_fr_take)), (97, (2, .inl fn_fr_push)), (137, (2, .inl fn_fr_peek)), (201, (3, .inl fn_fa_is))]
def lx_ma_stepToOther : zm_X := (zl_up lf_ma_stepToOther, zl_up lc_ma_stepToOther, zl_up lg_ma_stepToOther, zl_up li_ma_stepToOther)
def fn_ma_stepToOther : List zm_V → zm_M → Option (Int32 × zm_M) := zm_fv zt_Y 3 2 (fun av M => zm_rn zt_Y lx_ma_stepToOther zr_z cd_ma_stepToOther 1 0 (zm_lo av 3) [] M)
def lf_mf_isOfKind : List (Nat × (Nat × Nat)) := []
def lc_mf_isOfKind : List (Nat × Int32) := []
def lg_mf_isOfKind : List (Nat × (Nat × Nat)) := []
def li_mf_isOfKind : List (Nat × zm_F) := [(170, (1, .inl fn_mf_kindOf))]
def lx_mf_isOfKind : zm_X := (zl_up lf_mf_isOfKind, zl_up lc_mf_isOfKind, zl_up lg_mf_isOfKind, zl_up li_mf_isOfKind)
def fn_mf_isOfKind : List zm_V → zm_M → Option (Int32 × zm_M) := zm_fs 2 (fun av M => zm_rn zt_Y lx_mf_isOfKind zr_z cd_mf_isOfKind 1 0 (zm_lo av 2) [] M)
def lf_fr_store : List (Nat × (Nat × Nat)) := [(9, (4, 0))]
def lc_fr_store : List (Nat × Int32) := []
def lg_fr_store : List (Nat × (Nat × Nat)) := []
def li_fr_store : List (Nat × zm_F) := [(100, (1, .inl fn_mf_widthOf))]
def lx_fr_store : zm_X := (zl_up lf_fr_store, zl_up lc_fr_store, zl_up lg_fr_store, zl_up li_fr_store)
def fn_fr_store : List zm_V → zm_M → Option zm_M := zm_fv zt_Y 4 2 (fun av M => zm_rn zt_Y lx_fr_store zr_v cd_fr_store 1 0 (zm_lo av 3) [] M)
def lf_ma_stepStore : List (Nat × (Nat × Nat)) := []
def lc_ma_stepStore : List (Nat × Int32) := []
def lg_ma_stepStore : List (Nat × (Nat × Nat)) := []
def li_ma_stepStore : List (Nat × zm_F) := [(137, (2, .inl fn_fr_peek)), (80, (1, .inl fn_mf_localKindOf)), (88, (2, .inl fn_mf_isOfKind)), (149, (1, .inr (.inl fn_fr_drop))), (211, (3, .inr (.inl fn_fr_store)))]
def lx_ma_stepStore : zm_X := (zl_up lf_ma_stepStore, zl_up lc_ma_stepStore, zl_up lg_ma_stepStore, zl_up li_ma_stepStore)
def fn_ma_stepStore : List zm_V → zm_M → Option (Int32 × zm_M) := zm_fv zt_Y 3 3 (fun av M => zm_rn zt_Y lx_ma_stepStore zr_z cd_ma_stepStore 1 0 (zm_lo av 5) [] M)
def lf_ma_stepJump : List (Nat × (Nat × Nat)) := []
def lc_ma_stepJump : List (Nat × Int32) := []
def lg_ma_stepJump : List (Nat × (Nat × Nat)) := []
def li_ma_stepJump : List (Nat × zm_F) := [(131, (2, .inl fn_fr_take)), (137, (2, .inl fn_fr_peek)), (218, (1, .inl fn_mf_isObjectOrNull)), (149, (1, .inr (.inl fn_fr_drop)))]
def lx_ma_stepJump : zm_X := (zl_up lf_ma_stepJump, zl_up lc_ma_stepJump, zl_up lg_ma_stepJump, zl_up li_ma_stepJump)
def fn_ma_stepJump : List zm_V → zm_M → Option (Int32 × zm_M) := zm_fv zt_Y 3 2 (fun av M => zm_rn zt_Y lx_ma_stepJump zr_z cd_ma_stepJump 1 0 (zm_lo av 3) [] M)
def lf_fa_isAbove : List (Nat × (Nat × Nat)) := [(9, (0, 0))]
def lc_fa_isAbove : List (Nat × Int32) := []
def lg_fa_isAbove : List (Nat × (Nat × Nat)) := []
def li_fa_isAbove : List (Nat × zm_F) := []
def lx_fa_isAbove : zm_X := (zl_up lf_fa_isAbove, zl_up lc_fa_isAbove, zl_up lg_fa_isAbove, zl_up li_fa_isAbove)
def fn_fa_isAbove : List zm_V → zm_M → Option (Int32 × zm_M) := zm_fv zt_Y 0 2 (fun av M => zm_rn zt_Y lx_fa_isAbove zr_z cd_fa_isAbove 1 0 (zm_lo av 3) [] M)
def lf_fr_replaceAll : List (Nat × (Nat × Nat)) := [(9, (4, 0)), (24, (4, 2)), (15, (4, 1))]
def lc_fr_replaceAll : List (Nat × Int32) := []
def lg_fr_replaceAll : List (Nat × (Nat × Nat)) := []
def li_fr_replaceAll : List (Nat × zm_F) := []
def lx_fr_replaceAll : zm_X := (zl_up lf_fr_replaceAll, zl_up lc_fr_replaceAll, zl_up lg_fr_replaceAll, zl_up li_fr_replaceAll)
def fn_fr_replaceAll : List zm_V → zm_M → Option zm_M := zm_fv zt_Y 4 2 (fun av M => zm_rn zt_Y lx_fr_replaceAll zr_v cd_fr_replaceAll 1073741824 0 (zm_lo av 4) [] M)
def lf_pr_placeAt : List (Nat × (Nat × Nat)) := [(53, (1, 9)), (24, (1, 8))]
def lc_pr_placeAt : List (Nat × Int32) := []
def lg_pr_placeAt : List (Nat × (Nat × Nat)) := []
def li_pr_placeAt : List (Nat × zm_F) := []
def lx_pr_placeAt : zm_X := (zl_up lf_pr_placeAt, zl_up lc_pr_placeAt, zl_up lg_pr_placeAt, zl_up li_pr_placeAt)
def fn_pr_placeAt : List zm_V → zm_M → Option (Int32 × zm_M) := zm_fv zt_Y 1 1 (fun av M => zm_rn zt_Y lx_pr_placeAt zr_i cd_pr_placeAt 1073741824 0 (zm_lo av 3) [] M)
def lf_ma_stepInit : List (Nat × (Nat × Nat)) := [(15, (3, 1)), (125, (1, 0)), (9, (3, 0)), (97, (4, 4)), (19, (1, 5)), (37, (1, 6))]
def lc_ma_stepInit : List (Nat × Int32) := []
def lg_ma_stepInit : List (Nat × (Nat × Nat)) := []
def li_ma_stepInit : List (Nat × zm_F) := [(257, (3, .inl fn_fa_isAbove)), (149, (1, .inr (.inl fn_fr_drop))), (230, (2, .inl fn_mf_typeOf)), (263, (3, .inr (.inl fn_fr_replaceAll))), (268, (1, .inl fn_mf_kindOf)), (274, (1, .inl fn_mf_partOf)), (281, (2, .inl fn_pr_placeAt))]
def lx_ma_stepInit : zm_X := (zl_up lf_ma_stepInit, zl_up lc_ma_stepInit, zl_up lg_ma_stepInit, zl_up li_ma_stepInit)
def fn_ma_stepInit : List zm_V → zm_M → Option (Int32 × zm_M) := zm_fv zt_Y 3 3 (fun av M => zm_rn zt_Y lx_ma_stepInit zr_z cd_ma_stepInit 1 0 (zm_lo av 5) [] M)
def lf_ma_stepObject : List (Nat × (Nat × Nat)) := [(15, (3, 1)), (19, (1, 5)), (37, (1, 6)), (112, (1, 8)), (9, (3, 0)), (122, (1, 7))]
def lc_ma_stepObject : List (Nat × Int32) := []
def lg_ma_stepObject : List (Nat × (Nat × Nat)) := []
def li_ma_stepObject : List (Nat × zm_F) := [(230, (2, .inl fn_mf_typeOf)), (97, (2, .inl fn_fr_push)), (137, (2, .inl fn_fr_peek)), (239, (4, .inl fn_ma_stepInit)), (201, (3, .inl fn_fa_is)), (149, (1, .inr (.inl fn_fr_drop)))]
def lx_ma_stepObject : zm_X := (zl_up lf_ma_stepObject, zl_up lc_ma_stepObject, zl_up lg_ma_stepObject, zl_up li_ma_stepObject)
def fn_ma_stepObject : List zm_V → zm_M → Option (Int32 × zm_M) := zm_fv zt_Y 3 2 (fun av M => zm_rn zt_Y lx_ma_stepObject zr_z cd_ma_stepObject 1 0 (zm_lo av 6) [] M)
def lf_ma_step : List (Nat × (Nat × Nat)) := [(15, (3, 1)), (19, (1, 5)), (32, (4, 0)), (37, (1, 6))]
def lc_ma_step : List (Nat × Int32) := []
def lg_ma_step : List (Nat × (Nat × Nat)) := []
def li_ma_step : List (Nat × zm_F) := [(51, (3, .inl fn_ma_stepOnStack)), (59, (3, .inl fn_ma_stepToOther)), (80, (1, .inl fn_mf_localKindOf)), (88, (2, .inl fn_mf_isOfKind)), (97, (2, .inl fn_fr_push)), (105, (4, .inl fn_ma_stepStore)), (113, (3, .inl fn_ma_stepJump)), (119, (3, .inl fn_ma_stepObject))]
def lx_ma_step : zm_X := (zl_up lf_ma_step, zl_up lc_ma_step, zl_up lg_ma_step, zl_up li_ma_step)
def fn_ma_step : List zm_V → zm_M → Option (Int32 × zm_M) := zm_fv zt_Y 3 2 (fun av M => zm_rn zt_Y lx_ma_step zr_z cd_ma_step 1 0 (zm_lo av 5) [] M)
def lf_mf_isEnd : List (Nat × (Nat × Nat)) := []
def lc_mf_isEnd : List (Nat × Int32) := []
def lg_mf_isEnd : List (Nat × (Nat × Nat)) := []
def li_mf_isEnd : List (Nat × zm_F) := []
def lx_mf_isEnd : zm_X := (zl_up lf_mf_isEnd, zl_up lc_mf_isEnd, zl_up lg_mf_isEnd, zl_up li_mf_isEnd)
def fn_mf_isEnd : List zm_V → zm_M → Option (Int32 × zm_M) := zm_fs 1 (fun av M => zm_rn zt_Y lx_mf_isEnd zr_z cd_mf_isEnd 1 0 (zm_lo av 1) [] M)
def lf_fl_leave : List (Nat × (Nat × Nat)) := [(28, (5, 7)), (11, (5, 3)), (40, (5, 2)), (36, (5, 1)), (106, (1, 5)), (112, (1, 7))]
def lc_fl_leave : List (Nat × Int32) := []
def lg_fl_leave : List (Nat × (Nat × Nat)) := []
def li_fl_leave : List (Nat × zm_F) := [(197, (2, .inr (.inl fn_fr_takeOver))), (203, (3, .inl fn_ma_step)), (218, (1, .inl fn_mf_isJump)), (153, (3, .inl fn_fl_arrive)), (230, (1, .inl fn_mf_isEnd))]
def lx_fl_leave : zm_X := (zl_up lf_fl_leave, zl_up lc_fl_leave, zl_up lg_fl_leave, zl_up li_fl_leave)
def fn_fl_leave : List zm_V → zm_M → Option (Int32 × zm_M) := zm_fv zt_Y 5 1 (fun av M => zm_rn zt_Y lx_fl_leave zr_z cd_fl_leave 1 0 (zm_lo av 3) [] M)
def lf_pr_markRows : List (Nat × (Nat × Nat)) := [(53, (1, 9)), (15, (1, 5)), (21, (1, 7)), (56, (1, 14)), (33, (1, 12))]
def lc_pr_markRows : List (Nat × Int32) := []
def lg_pr_markRows : List (Nat × (Nat × Nat)) := []
def li_pr_markRows : List (Nat × zm_F) := [(140, (1, .inl fn_mf_isEnd)), (126, (1, .inl fn_mf_isJump))]
def lx_pr_markRows : zm_X := (zl_up lf_pr_markRows, zl_up lc_pr_markRows, zl_up lg_pr_markRows, zl_up li_pr_markRows)
def fn_pr_markRows : List zm_V → zm_M → Option zm_M := zm_fv zt_Y 1 1 (fun av M => zm_rn zt_Y lx_pr_markRows zr_v cd_pr_markRows 1073741824 0 (zm_lo av 3) [] M)
def lf_fr_hasRawThisInLocal : List (Nat × (Nat × Nat)) := [(9, (4, 0))]
def lc_fr_hasRawThisInLocal : List (Nat × Int32) := []
def lg_fr_hasRawThisInLocal : List (Nat × (Nat × Nat)) := []
def li_fr_hasRawThisInLocal : List (Nat × zm_F) := []
def lx_fr_hasRawThisInLocal : zm_X := (zl_up lf_fr_hasRawThisInLocal, zl_up lc_fr_hasRawThisInLocal, zl_up lg_fr_hasRawThisInLocal, zl_up li_fr_hasRawThisInLocal)
def fn_fr_hasRawThisInLocal : List zm_V → zm_M → Option (Int32 × zm_M) := zm_fv zt_Y 4 0 (fun av M => zm_rn zt_Y lx_fr_hasRawThisInLocal zr_z cd_fr_hasRawThisInLocal 1073741824 0 (zm_lo av 2) [] M)
def lf_fl_isWhole : List (Nat × (Nat × Nat)) := [(36, (5, 1)), (17, (5, 4)), (55, (1, 9)), (21, (5, 5)), (11, (5, 3)), (124, (4, 4))]
def lc_fl_isWhole : List (Nat × Int32) := []
def lg_fl_isWhole : List (Nat × (Nat × Nat)) := []
def li_fl_isWhole : List (Nat × zm_F) := [(279, (2, .inr (.inl fn_pr_markRows))), (287, (1, .inl fn_fr_hasRawThisInLocal))]
def lx_fl_isWhole : zm_X := (zl_up lf_fl_isWhole, zl_up lc_fl_isWhole, zl_up lg_fl_isWhole, zl_up li_fl_isWhole)
def fn_fl_isWhole : List zm_V → zm_M → Option (Int32 × zm_M) := zm_fv zt_Y 5 0 (fun av M => zm_rn zt_Y lx_fl_isWhole zr_z cd_fl_isWhole 1073741824 0 (zm_lo av 2) [] M)
def lf_fl_isRight : List (Nat × (Nat × Nat)) := [(44, (5, 8)), (48, (5, 9)), (36, (5, 1)), (55, (1, 9)), (24, (5, 6))]
def lc_fl_isRight : List (Nat × Int32) := [(54, 100000)]
def lg_fl_isRight : List (Nat × (Nat × Nat)) := []
def li_fl_isRight : List (Nat × zm_F) := [(103, (1, .inr (.inl fn_fl_begin))), (123, (2, .inl fn_fl_leaveToHandlers)), (131, (2, .inl fn_fl_leave)), (137, (1, .inl fn_fl_isWhole))]
def lx_fl_isRight : zm_X := (zl_up lf_fl_isRight, zl_up lc_fl_isRight, zl_up lg_fl_isRight, zl_up li_fl_isRight)
def fn_fl_isRight : List zm_V → zm_M → Option (Int32 × zm_M) := zm_fv zt_Y 5 0 (fun av M => zm_rn zt_Y lx_fl_isRight zr_z cd_fl_isRight 1073741824 0 (zm_lo av 4) [] M)
def lf_tl_empty : List (Nat × (Nat × Nat)) := [(15, (6, 1)), (19, (6, 2))]
def lc_tl_empty : List (Nat × Int32) := []
def lg_tl_empty : List (Nat × (Nat × Nat)) := []
def li_tl_empty : List (Nat × zm_F) := []
def lx_tl_empty : zm_X := (zl_up lf_tl_empty, zl_up lc_tl_empty, zl_up lg_tl_empty, zl_up li_tl_empty)
def fn_tl_empty : List zm_V → zm_M → Option zm_M := zm_fv zt_Y 6 0 (fun av M => zm_rn zt_Y lx_tl_empty zr_v cd_tl_empty 1 0 (zm_lo av 1) [] M)
def lf_tl_append : List (Nat × (Nat × Nat)) := [(19, (6, 2)), (9, (6, 0)), (15, (6, 1))]
def lc_tl_append : List (Nat × Int32) := []
def lg_tl_append : List (Nat × (Nat × Nat)) := []
def li_tl_append : List (Nat × zm_F) := [(44, (1, .inl fn_mf_widthOf))]
def lx_tl_append : zm_X := (zl_up lf_tl_append, zl_up lc_tl_append, zl_up lg_tl_append, zl_up li_tl_append)
def fn_tl_append : List zm_V → zm_M → Option (Int32 × zm_M) := zm_fv zt_Y 6 1 (fun av M => zm_rn zt_Y lx_tl_append zr_z cd_tl_append 1 0 (zm_lo av 3) [] M)
def lf_tl_drop : List (Nat × (Nat × Nat)) := [(15, (6, 1)), (19, (6, 2)), (9, (6, 0))]
def lc_tl_drop : List (Nat × Int32) := []
def lg_tl_drop : List (Nat × (Nat × Nat)) := []
def li_tl_drop : List (Nat × zm_F) := [(44, (1, .inl fn_mf_widthOf))]
def lx_tl_drop : zm_X := (zl_up lf_tl_drop, zl_up lc_tl_drop, zl_up lg_tl_drop, zl_up li_tl_drop)
def fn_tl_drop : List zm_V → zm_M → Option zm_M := zm_fv zt_Y 6 0 (fun av M => zm_rn zt_Y lx_tl_drop zr_v cd_tl_drop 1 0 (zm_lo av 1) [] M)
def lf_tl_gather : List (Nat × (Nat × Nat)) := [(35, (4, 0)), (15, (6, 1)), (9, (6, 0))]
def lc_tl_gather : List (Nat × Int32) := []
def lg_tl_gather : List (Nat × (Nat × Nat)) := []
def li_tl_gather : List (Nat × zm_F) := [(65, (1, .inr (.inl fn_tl_empty))), (81, (2, .inl fn_tl_append)), (44, (1, .inl fn_mf_widthOf)), (89, (1, .inr (.inl fn_tl_drop)))]
def lx_tl_gather : zm_X := (zl_up lf_tl_gather, zl_up lc_tl_gather, zl_up lg_tl_gather, zl_up li_tl_gather)
def fn_tl_gather : List zm_V → zm_M → Option zm_M := zm_fv zt_Y 6 1 (fun av M => zm_rn zt_Y lx_tl_gather zr_v cd_tl_gather 1073741824 0 (zm_lo av 3) [] M)
def lf_tl_sharedStart : List (Nat × (Nat × Nat)) := [(15, (6, 1)), (9, (6, 0))]
def lc_tl_sharedStart : List (Nat × Int32) := []
def lg_tl_sharedStart : List (Nat × (Nat × Nat)) := []
def li_tl_sharedStart : List (Nat × zm_F) := []
def lx_tl_sharedStart : zm_X := (zl_up lf_tl_sharedStart, zl_up lc_tl_sharedStart, zl_up lg_tl_sharedStart, zl_up li_tl_sharedStart)
def fn_tl_sharedStart : List zm_V → zm_M → Option (Int32 × zm_M) := zm_fv zt_Y 6 1 (fun av M => zm_rn zt_Y lx_tl_sharedStart zr_i cd_tl_sharedStart 1073741824 0 (zm_lo av 3) [] M)
def lf_by_put : List (Nat × (Nat × Nat)) := [(15, (2, 1)), (9, (2, 0))]
def lc_by_put : List (Nat × Int32) := []
def lg_by_put : List (Nat × (Nat × Nat)) := []
def li_by_put : List (Nat × zm_F) := []
def lx_by_put : zm_X := (zl_up lf_by_put, zl_up lc_by_put, zl_up lg_by_put, zl_up li_by_put)
def fn_by_put : List zm_V → zm_M → Option zm_M := zm_fv zt_Y 2 1 (fun av M => zm_rn zt_Y lx_by_put zr_v cd_by_put 1 0 (zm_lo av 2) [] M)
def lf_by_putTwo : List (Nat × (Nat × Nat)) := []
def lc_by_putTwo : List (Nat × Int32) := []
def lg_by_putTwo : List (Nat × (Nat × Nat)) := []
def li_by_putTwo : List (Nat × zm_F) := [(39, (2, .inr (.inl fn_by_put)))]
def lx_by_putTwo : zm_X := (zl_up lf_by_putTwo, zl_up lc_by_putTwo, zl_up lg_by_putTwo, zl_up li_by_putTwo)
def fn_by_putTwo : List zm_V → zm_M → Option zm_M := zm_fv zt_Y 2 1 (fun av M => zm_rn zt_Y lx_by_putTwo zr_v cd_by_putTwo 1 0 (zm_lo av 2) [] M)
def lf_wr_writeHead : List (Nat × (Nat × Nat)) := [(31, (7, 5))]
def lc_wr_writeHead : List (Nat × Int32) := []
def lg_wr_writeHead : List (Nat × (Nat × Nat)) := []
def li_wr_writeHead : List (Nat × zm_F) := [(217, (2, .inr (.inl fn_by_put))), (223, (2, .inr (.inl fn_by_putTwo)))]
def lx_wr_writeHead : zm_X := (zl_up lf_wr_writeHead, zl_up lc_wr_writeHead, zl_up lg_wr_writeHead, zl_up li_wr_writeHead)
def fn_wr_writeHead : List zm_V → zm_M → Option zm_M := zm_fv zt_Y 7 3 (fun av M => zm_rn zt_Y lx_wr_writeHead zr_v cd_wr_writeHead 1 0 (zm_lo av 4) [] M)
def lf_by_putType : List (Nat × (Nat × Nat)) := []
def lc_by_putType : List (Nat × Int32) := []
def lg_by_putType : List (Nat × (Nat × Nat)) := []
def li_by_putType : List (Nat × zm_F) := [(46, (1, .inl fn_mf_kindOf)), (39, (2, .inr (.inl fn_by_put))), (54, (1, .inl fn_mf_partOf)), (61, (2, .inr (.inl fn_by_putTwo)))]
def lx_by_putType : zm_X := (zl_up lf_by_putType, zl_up lc_by_putType, zl_up lg_by_putType, zl_up li_by_putType)
def fn_by_putType : List zm_V → zm_M → Option zm_M := zm_fv zt_Y 2 1 (fun av M => zm_rn zt_Y lx_by_putType zr_v cd_by_putType 1 0 (zm_lo av 3) [] M)
def lf_wr_writeTypes : List (Nat × (Nat × Nat)) := [(31, (7, 5))]
def lc_wr_writeTypes : List (Nat × Int32) := []
def lg_wr_writeTypes : List (Nat × (Nat × Nat)) := []
def li_wr_writeTypes : List (Nat × zm_F) := [(209, (2, .inr (.inl fn_by_putType)))]
def lx_wr_writeTypes : zm_X := (zl_up lf_wr_writeTypes, zl_up lc_wr_writeTypes, zl_up lg_wr_writeTypes, zl_up li_wr_writeTypes)
def fn_wr_writeTypes : List zm_V → zm_M → Option zm_M := zm_fv zt_Y 7 3 (fun av M => zm_rn zt_Y lx_wr_writeTypes zr_v cd_wr_writeTypes 1073741824 0 (zm_lo av 5) [] M)
def lf_wr_writeWhole : List (Nat × (Nat × Nat)) := [(31, (7, 5)), (25, (7, 4)), (83, (6, 1)), (114, (6, 0)), (94, (4, 2)), (101, (4, 1))]
def lc_wr_writeWhole : List (Nat × Int32) := []
def lg_wr_writeWhole : List (Nat × (Nat × Nat)) := []
def li_wr_writeWhole : List (Nat × zm_F) := [(217, (2, .inr (.inl fn_by_put))), (223, (2, .inr (.inl fn_by_putTwo))), (235, (4, .inr (.inl fn_wr_writeTypes)))]
def lx_wr_writeWhole : zm_X := (zl_up lf_wr_writeWhole, zl_up lc_wr_writeWhole, zl_up lg_wr_writeWhole, zl_up li_wr_writeWhole)
def fn_wr_writeWhole : List zm_V → zm_M → Option zm_M := zm_fv zt_Y 7 2 (fun av M => zm_rn zt_Y lx_wr_writeWhole zr_v cd_wr_writeWhole 1 0 (zm_lo av 3) [] M)
def lf_wr_writeRow : List (Nat × (Nat × Nat)) := [(25, (7, 4)), (21, (7, 3)), (83, (6, 1)), (94, (4, 2)), (31, (7, 5)), (101, (4, 1)), (114, (6, 0))]
def lc_wr_writeRow : List (Nat × Int32) := []
def lg_wr_writeRow : List (Nat × (Nat × Nat)) := []
def li_wr_writeRow : List (Nat × zm_F) := [(159, (2, .inl fn_tl_sharedStart)), (168, (1, .inl zm_ab)), (180, (2, .inl zm_mn)), (195, (4, .inr (.inl fn_wr_writeHead))), (209, (2, .inr (.inl fn_by_putType))), (217, (2, .inr (.inl fn_by_put))), (223, (2, .inr (.inl fn_by_putTwo))), (235, (4, .inr (.inl fn_wr_writeTypes))), (243, (3, .inr (.inl fn_wr_writeWhole)))]
def lx_wr_writeRow : zm_X := (zl_up lf_wr_writeRow, zl_up lc_wr_writeRow, zl_up lg_wr_writeRow, zl_up li_wr_writeRow)
def fn_wr_writeRow : List zm_V → zm_M → Option zm_M := zm_fv zt_Y 7 2 (fun av M => zm_rn zt_Y lx_wr_writeRow zr_v cd_wr_writeRow 1 0 (zm_lo av 7) [] M)
def lf_tl_takeOver : List (Nat × (Nat × Nat)) := [(9, (6, 0)), (15, (6, 1)), (19, (6, 2))]
def lc_tl_takeOver : List (Nat × Int32) := []
def lg_tl_takeOver : List (Nat × (Nat × Nat)) := []
def li_tl_takeOver : List (Nat × zm_F) := [(52, (5, .inr (.inl (zm_ac zt_Y))))]
def lx_tl_takeOver : zm_X := (zl_up lf_tl_takeOver, zl_up lc_tl_takeOver, zl_up lg_tl_takeOver, zl_up li_tl_takeOver)
def fn_tl_takeOver : List zm_V → zm_M → Option zm_M := zm_fv zt_Y 6 1 (fun av M => zm_rn zt_Y lx_tl_takeOver zr_v cd_tl_takeOver 1 0 (zm_lo av 2) [] M)
def lf_wr_writeRows : List (Nat × (Nat × Nat)) := [(35, (7, 0)), (12, (7, 2)), (21, (7, 3)), (31, (7, 5)), (52, (2, 1)), (56, (1, 9)), (39, (7, 1)), (57, (5, 4)), (25, (7, 4)), (63, (5, 3)), (67, (1, 8))]
def lc_wr_writeRows : List (Nat × Int32) := []
def lg_wr_writeRows : List (Nat × (Nat × Nat)) := []
def li_wr_writeRows : List (Nat × zm_F) := [(87, (2, .inr (.inl fn_pr_enter))), (99, (2, .inr (.inl fn_tl_gather))), (143, (3, .inr (.inl fn_wr_writeRow))), (151, (2, .inr (.inl fn_tl_takeOver)))]
def lx_wr_writeRows : zm_X := (zl_up lf_wr_writeRows, zl_up lc_wr_writeRows, zl_up lg_wr_writeRows, zl_up li_wr_writeRows)
def fn_wr_writeRows : List zm_V → zm_M → Option (Int32 × zm_M) := zm_fv zt_Y 7 0 (fun av M => zm_rn zt_Y lx_wr_writeRows zr_i cd_wr_writeRows 1073741824 0 (zm_lo av 4) [] M)
def lf_by_takeOver : List (Nat × (Nat × Nat)) := [(15, (2, 1)), (9, (2, 0))]
def lc_by_takeOver : List (Nat × Int32) := []
def lg_by_takeOver : List (Nat × (Nat × Nat)) := []
def li_by_takeOver : List (Nat × zm_F) := [(66, (2, .inl zm_mn)), (78, (5, .inr (.inl (zm_ac zt_Y))))]
def lx_by_takeOver : zm_X := (zl_up lf_by_takeOver, zl_up lc_by_takeOver, zl_up lg_by_takeOver, zl_up li_by_takeOver)
def fn_by_takeOver : List zm_V → zm_M → Option zm_M := zm_fv zt_Y 2 1 (fun av M => zm_rn zt_Y lx_by_takeOver zr_v cd_by_takeOver 1 0 (zm_lo av 2) [] M)
def lf_mf_make : List (Nat × (Nat × Nat)) := [(40, (10, 3)), (49, (10, 4)), (128, (7, 5)), (131, (2, 1)), (26, (10, 2)), (58, (10, 5)), (136, (8, 9))]
def lc_mf_make : List (Nat × Int32) := []
def lg_mf_make : List (Nat × (Nat × Nat)) := []
def li_mf_make : List (Nat × zm_F) := [(241, (1, .inl fn_fl_isRight)), (249, (1, .inl fn_wr_writeRows)), (265, (2, .inr (.inl fn_by_takeOver)))]
def lx_mf_make : zm_X := (zl_up lf_mf_make, zl_up lc_mf_make, zl_up lg_mf_make, zl_up li_mf_make)
def fn_mf_make : List zm_V → zm_M → Option (Int32 × zm_M) := zm_fv zt_Y 10 0 (fun av M => zm_rn zt_Y lx_mf_make zr_i cd_mf_make 1 0 (zm_lo av 2) [] M)
def lf_mf_isQuestion : List (Nat × (Nat × Nat)) := []
def lc_mf_isQuestion : List (Nat × Int32) := []
def lg_mf_isQuestion : List (Nat × (Nat × Nat)) := []
def li_mf_isQuestion : List (Nat × zm_F) := []
def lx_mf_isQuestion : zm_X := (zl_up lf_mf_isQuestion, zl_up lc_mf_isQuestion, zl_up lg_mf_isQuestion, zl_up li_mf_isQuestion)
def fn_mf_isQuestion : List zm_V → zm_M → Option (Int32 × zm_M) := zm_fs 2 (fun av M => zm_rn zt_Y lx_mf_isQuestion zr_z cd_mf_isQuestion 1 0 (zm_lo av 2) [] M)
def lf_fr_tell : List (Nat × (Nat × Nat)) := [(9, (4, 0)), (24, (4, 2)), (15, (4, 1)), (31, (4, 4))]
def lc_fr_tell : List (Nat × Int32) := []
def lg_fr_tell : List (Nat × (Nat × Nat)) := []
def li_fr_tell : List (Nat × zm_F) := []
def lx_fr_tell : zm_X := (zl_up lf_fr_tell, zl_up lc_fr_tell, zl_up lg_fr_tell, zl_up li_fr_tell)
def fn_fr_tell : List zm_V → zm_M → Option (Int32 × zm_M) := zm_fv zt_Y 4 1 (fun av M => zm_rn zt_Y lx_fr_tell zr_i cd_fr_tell 1 0 (zm_lo av 2) [] M)
def lf_mf_flow : List (Nat × (Nat × Nat)) := [(19, (10, 1)), (104, (1, 9)), (40, (10, 3)), (144, (5, 3))]
def lc_mf_flow : List (Nat × Int32) := []
def lg_mf_flow : List (Nat × (Nat × Nat)) := []
def li_mf_flow : List (Nat × zm_F) := [(280, (2, .inl fn_mf_isQuestion)), (241, (1, .inl fn_fl_isRight)), (297, (2, .inl fn_fr_tell))]
def lx_mf_flow : zm_X := (zl_up lf_mf_flow, zl_up lc_mf_flow, zl_up lg_mf_flow, zl_up li_mf_flow)
def fn_mf_flow : List zm_V → zm_M → Option (Int32 × zm_M) := zm_fv zt_Y 10 2 (fun av M => zm_rn zt_Y lx_mf_flow zr_i cd_mf_flow 1 0 (zm_lo av 3) [] M)
def lf_re_begin : List (Nat × (Nat × Nat)) := [(39, (8, 0)), (12, (8, 2)), (21, (8, 3)), (36, (8, 7)), (57, (8, 8)), (61, (8, 11))]
def lc_re_begin : List (Nat × Int32) := []
def lg_re_begin : List (Nat × (Nat × Nat)) := []
def li_re_begin : List (Nat × zm_F) := [(159, (2, .inr (.inl fn_pr_enter))), (167, (2, .inr (.inl fn_tl_gather))), (172, (2, .inr (.inl fn_ja_fill)))]
def lx_re_begin : zm_X := (zl_up lf_re_begin, zl_up lc_re_begin, zl_up lg_re_begin, zl_up li_re_begin)
def fn_re_begin : List zm_V → zm_M → Option zm_M := zm_fv zt_Y 8 0 (fun av M => zm_rn zt_Y lx_re_begin zr_v cd_re_begin 1 0 (zm_lo av 1) [] M)
def lf_re_readByte : List (Nat × (Nat × Nat)) := [(61, (8, 11)), (43, (8, 1)), (64, (2, 1)), (150, (2, 0))]
def lc_re_readByte : List (Nat × Int32) := []
def lg_re_readByte : List (Nat × (Nat × Nat)) := []
def li_re_readByte : List (Nat × zm_F) := []
def lx_re_readByte : zm_X := (zl_up lf_re_readByte, zl_up lc_re_readByte, zl_up lg_re_readByte, zl_up li_re_readByte)
def fn_re_readByte : List zm_V → zm_M → Option (Int32 × zm_M) := zm_fv zt_Y 8 0 (fun av M => zm_rn zt_Y lx_re_readByte zr_i cd_re_readByte 1 0 (zm_lo av 1) [] M)
def lf_re_readTwo : List (Nat × (Nat × Nat)) := []
def lc_re_readTwo : List (Nat × Int32) := []
def lg_re_readTwo : List (Nat × (Nat × Nat)) := []
def li_re_readTwo : List (Nat × zm_F) := [(185, (1, .inl fn_re_readByte))]
def lx_re_readTwo : zm_X := (zl_up lf_re_readTwo, zl_up lc_re_readTwo, zl_up lg_re_readTwo, zl_up li_re_readTwo)
def fn_re_readTwo : List zm_V → zm_M → Option (Int32 × zm_M) := zm_fv zt_Y 8 0 (fun av M => zm_rn zt_Y lx_re_readTwo zr_i cd_re_readTwo 1 0 (zm_lo av 3) [] M)
def lf_re_readType : List (Nat × (Nat × Nat)) := []
def lc_re_readType : List (Nat × Int32) := []
def lg_re_readType : List (Nat × (Nat × Nat)) := []
def li_re_readType : List (Nat × zm_F) := [(185, (1, .inl fn_re_readByte)), (207, (1, .inl fn_re_readTwo)), (286, (1, .inl fn_mf_isClass)), (292, (2, .inl fn_mf_typeOf))]
def lx_re_readType : zm_X := (zl_up lf_re_readType, zl_up lc_re_readType, zl_up lg_re_readType, zl_up li_re_readType)
def fn_re_readType : List zm_V → zm_M → Option (Int32 × zm_M) := zm_fv zt_Y 8 0 (fun av M => zm_rn zt_Y lx_re_readType zr_i cd_re_readType 1 0 (zm_lo av 3) [] M)
def lf_re_readStack : List (Nat × (Nat × Nat)) := []
def lc_re_readStack : List (Nat × Int32) := []
def lg_re_readStack : List (Nat × (Nat × Nat)) := []
def li_re_readStack : List (Nat × zm_F) := [(269, (1, .inl fn_re_readType)), (281, (2, .inl fn_fr_push))]
def lx_re_readStack : zm_X := (zl_up lf_re_readStack, zl_up lc_re_readStack, zl_up lg_re_readStack, zl_up li_re_readStack)
def fn_re_readStack : List zm_V → zm_M → Option (Int32 × zm_M) := zm_fv zt_Y 8 2 (fun av M => zm_rn zt_Y lx_re_readStack zr_z cd_re_readStack 1073741824 0 (zm_lo av 5) [] M)
def lf_re_readList : List (Nat × (Nat × Nat)) := [(21, (8, 3))]
def lc_re_readList : List (Nat × Int32) := []
def lg_re_readList : List (Nat × (Nat × Nat)) := []
def li_re_readList : List (Nat × zm_F) := [(269, (1, .inl fn_re_readType)), (275, (2, .inl fn_tl_append))]
def lx_re_readList : zm_X := (zl_up lf_re_readList, zl_up lc_re_readList, zl_up lg_re_readList, zl_up li_re_readList)
def fn_re_readList : List zm_V → zm_M → Option (Int32 × zm_M) := zm_fv zt_Y 8 1 (fun av M => zm_rn zt_Y lx_re_readList zr_z cd_re_readList 1073741824 0 (zm_lo av 4) [] M)
def lf_re_shorten : List (Nat × (Nat × Nat)) := [(21, (8, 3)), (130, (6, 1))]
def lc_re_shorten : List (Nat × Int32) := []
def lg_re_shorten : List (Nat × (Nat × Nat)) := []
def li_re_shorten : List (Nat × zm_F) := [(263, (1, .inr (.inl fn_tl_drop)))]
def lx_re_shorten : zm_X := (zl_up lf_re_shorten, zl_up lc_re_shorten, zl_up lg_re_shorten, zl_up li_re_shorten)
def fn_re_shorten : List zm_V → zm_M → Option (Int32 × zm_M) := zm_fv zt_Y 8 1 (fun av M => zm_rn zt_Y lx_re_shorten zr_z cd_re_shorten 1073741824 0 (zm_lo av 3) [] M)
def lf_re_readRest : List (Nat × (Nat × Nat)) := [(21, (8, 3))]
def lc_re_readRest : List (Nat × Int32) := []
def lg_re_readRest : List (Nat × (Nat × Nat)) := []
def li_re_readRest : List (Nat × zm_F) := [(199, (3, .inl fn_re_readStack)), (241, (1, .inr (.inl fn_tl_empty))), (207, (1, .inl fn_re_readTwo)), (247, (2, .inl fn_re_readList)), (255, (2, .inl fn_re_shorten))]
def lx_re_readRest : zm_X := (zl_up lf_re_readRest, zl_up lc_re_readRest, zl_up lg_re_readRest, zl_up li_re_readRest)
def fn_re_readRest : List zm_V → zm_M → Option (Int32 × zm_M) := zm_fv zt_Y 8 2 (fun av M => zm_rn zt_Y lx_re_readRest zr_z cd_re_readRest 1 0 (zm_lo av 3) [] M)
def lf_tl_spread : List (Nat × (Nat × Nat)) := [(35, (4, 0)), (15, (6, 1)), (9, (6, 0))]
def lc_tl_spread : List (Nat × Int32) := []
def lg_tl_spread : List (Nat × (Nat × Nat)) := []
def li_tl_spread : List (Nat × zm_F) := [(94, (2, .inr (.inl fn_ja_fill))), (44, (1, .inl fn_mf_widthOf))]
def lx_tl_spread : zm_X := (zl_up lf_tl_spread, zl_up lc_tl_spread, zl_up lg_tl_spread, zl_up li_tl_spread)
def fn_tl_spread : List zm_V → zm_M → Option zm_M := zm_fv zt_Y 6 1 (fun av M => zm_rn zt_Y lx_tl_spread zr_v cd_tl_spread 1073741824 0 (zm_lo av 4) [] M)
def lf_re_readRow : List (Nat × (Nat × Nat)) := [(33, (8, 6)), (57, (8, 8)), (29, (8, 5)), (21, (8, 3)), (117, (4, 4))]
def lc_re_readRow : List (Nat × Int32) := []
def lg_re_readRow : List (Nat × (Nat × Nat)) := []
def li_re_readRow : List (Nat × zm_F) := [(185, (1, .inl fn_re_readByte)), (193, (1, .inr (.inl fn_fr_emptyStack))), (199, (3, .inl fn_re_readStack)), (207, (1, .inl fn_re_readTwo)), (213, (3, .inl fn_re_readRest)), (221, (2, .inr (.inl fn_tl_spread))), (227, (1, .inl fn_fr_hasRawThisInLocal))]
def lx_re_readRow : zm_X := (zl_up lf_re_readRow, zl_up lc_re_readRow, zl_up lg_re_readRow, zl_up li_re_readRow)
def fn_re_readRow : List zm_V → zm_M → Option (Int32 × zm_M) := zm_fv zt_Y 8 1 (fun av M => zm_rn zt_Y lx_re_readRow zr_z cd_re_readRow 1 0 (zm_lo av 4) [] M)
def lf_re_isSound : List (Nat × (Nat × Nat)) := [(47, (8, 9)), (51, (8, 10)), (57, (8, 8)), (61, (8, 11)), (43, (8, 1)), (64, (2, 1)), (25, (8, 4)), (29, (8, 5)), (39, (8, 0)), (36, (8, 7))]
def lc_re_isSound : List (Nat × Int32) := []
def lg_re_isSound : List (Nat × (Nat × Nat)) := []
def li_re_isSound : List (Nat × zm_F) := [(109, (1, .inr (.inl fn_re_begin))), (139, (2, .inl fn_re_readRow)), (147, (2, .inl fn_pr_placeAt))]
def lx_re_isSound : zm_X := (zl_up lf_re_isSound, zl_up lc_re_isSound, zl_up lg_re_isSound, zl_up li_re_isSound)
def fn_re_isSound : List zm_V → zm_M → Option (Int32 × zm_M) := zm_fv zt_Y 8 0 (fun av M => zm_rn zt_Y lx_re_isSound zr_z cd_re_isSound 1073741824 0 (zm_lo av 3) [] M)
def lf_fa_fits : List (Nat × (Nat × Nat)) := [(37, (4, 4)), (43, (4, 2)), (47, (4, 0)), (54, (4, 1))]
def lc_fa_fits : List (Nat × Int32) := []
def lg_fa_fits : List (Nat × (Nat × Nat)) := []
def li_fa_fits : List (Nat × zm_F) := [(101, (3, .inl fn_fa_is))]
def lx_fa_fits : zm_X := (zl_up lf_fa_fits, zl_up lc_fa_fits, zl_up lg_fa_fits, zl_up li_fa_fits)
def fn_fa_fits : List zm_V → zm_M → Option (Int32 × zm_M) := zm_fv zt_Y 0 2 (fun av M => zm_rn zt_Y lx_fa_fits zr_z cd_fa_fits 1073741824 0 (zm_lo av 4) [] M)
def lf_ck_begins : List (Nat × (Nat × Nat)) := [(33, (9, 3)), (71, (8, 7)), (21, (9, 0)), (12, (9, 4)), (76, (8, 4))]
def lc_ck_begins : List (Nat × Int32) := []
def lg_ck_begins : List (Nat × (Nat × Nat)) := []
def li_ck_begins : List (Nat × zm_F) := [(161, (3, .inl fn_fa_fits)), (173, (2, .inr (.inl fn_fr_takeOver)))]
def lx_ck_begins : zm_X := (zl_up lf_ck_begins, zl_up lc_ck_begins, zl_up lg_ck_begins, zl_up li_ck_begins)
def fn_ck_begins : List zm_V → zm_M → Option (Int32 × zm_M) := zm_fv zt_Y 9 2 (fun av M => zm_rn zt_Y lx_ck_begins zr_z cd_ck_begins 1 0 (zm_lo av 4) [] M)
def lf_ck_fitsAt : List (Nat × (Nat × Nat)) := [(33, (9, 3)), (71, (8, 7)), (21, (9, 0)), (76, (8, 4))]
def lc_ck_fitsAt : List (Nat × Int32) := []
def lg_ck_fitsAt : List (Nat × (Nat × Nat)) := []
def li_ck_fitsAt : List (Nat × zm_F) := [(161, (3, .inl fn_fa_fits))]
def lx_ck_fitsAt : zm_X := (zl_up lf_ck_fitsAt, zl_up lc_ck_fitsAt, zl_up lg_ck_fitsAt, zl_up li_ck_fitsAt)
def fn_ck_fitsAt : List zm_V → zm_M → Option (Int32 × zm_M) := zm_fv zt_Y 9 2 (fun av M => zm_rn zt_Y lx_ck_fitsAt zr_z cd_ck_fitsAt 1 0 (zm_lo av 4) [] M)
def lf_ck_handlersFit : List (Nat × (Nat × Nat)) := [(25, (9, 1)), (89, (1, 14)), (18, (9, 5)), (12, (9, 4)), (96, (1, 13)), (103, (1, 12))]
def lc_ck_handlersFit : List (Nat × Int32) := []
def lg_ck_handlersFit : List (Nat × (Nat × Nat)) := []
def li_ck_handlersFit : List (Nat × zm_F) := [(185, (3, .inl fn_pr_isGuarded)), (199, (3, .inr (.inl fn_fr_takeOverForHandler))), (213, (3, .inl fn_ck_fitsAt))]
def lx_ck_handlersFit : zm_X := (zl_up lf_ck_handlersFit, zl_up lc_ck_handlersFit, zl_up lg_ck_handlersFit, zl_up li_ck_handlersFit)
def fn_ck_handlersFit : List zm_V → zm_M → Option (Int32 × zm_M) := zm_fv zt_Y 9 1 (fun av M => zm_rn zt_Y lx_ck_handlersFit zr_z cd_ck_handlersFit 1073741824 0 (zm_lo av 3) [] M)
def lf_ck_jumpFits : List (Nat × (Nat × Nat)) := [(25, (9, 1)), (64, (1, 5)), (112, (1, 7)), (12, (9, 4))]
def lc_ck_jumpFits : List (Nat × Int32) := []
def lg_ck_jumpFits : List (Nat × (Nat × Nat)) := []
def li_ck_jumpFits : List (Nat × zm_F) := [(218, (1, .inl fn_mf_isJump)), (213, (3, .inl fn_ck_fitsAt))]
def lx_ck_jumpFits : zm_X := (zl_up lf_ck_jumpFits, zl_up lc_ck_jumpFits, zl_up lg_ck_jumpFits, zl_up li_ck_jumpFits)
def fn_ck_jumpFits : List zm_V → zm_M → Option (Int32 × zm_M) := zm_fv zt_Y 9 1 (fun av M => zm_rn zt_Y lx_ck_jumpFits zr_z cd_ck_jumpFits 1 0 (zm_lo av 2) [] M)
def lf_ck_firstBad : List (Nat × (Nat × Nat)) := [(25, (9, 1)), (12, (9, 4)), (43, (1, 9)), (29, (9, 2)), (64, (1, 5))]
def lc_ck_firstBad : List (Nat × Int32) := []
def lg_ck_firstBad : List (Nat × (Nat × Nat)) := []
def li_ck_firstBad : List (Nat × zm_F) := [(75, (2, .inr (.inl fn_pr_enter))), (95, (3, .inl fn_ck_begins)), (103, (2, .inl fn_ck_handlersFit)), (111, (3, .inl fn_ma_step)), (123, (2, .inl fn_ck_jumpFits)), (136, (1, .inl fn_mf_isEnd))]
def lx_ck_firstBad : zm_X := (zl_up lf_ck_firstBad, zl_up lc_ck_firstBad, zl_up lg_ck_firstBad, zl_up li_ck_firstBad)
def fn_ck_firstBad : List zm_V → zm_M → Option (Int32 × zm_M) := zm_fv zt_Y 9 0 (fun av M => zm_rn zt_Y lx_ck_firstBad zr_i cd_ck_firstBad 1073741824 0 (zm_lo av 3) [] M)
def lf_mf_check : List (Nat × (Nat × Nat)) := [(19, (10, 1)), (104, (1, 9)), (58, (10, 5)), (67, (10, 6))]
def lc_mf_check : List (Nat × Int32) := []
def lg_mf_check : List (Nat × (Nat × Nat)) := []
def li_mf_check : List (Nat × zm_F) := [(307, (1, .inl fn_re_isSound)), (313, (1, .inl fn_ck_firstBad))]
def lx_mf_check : zm_X := (zl_up lf_mf_check, zl_up lc_mf_check, zl_up lg_mf_check, zl_up li_mf_check)
def fn_mf_check : List zm_V → zm_M → Option (Int32 × zm_M) := zm_fv zt_Y 10 0 (fun av M => zm_rn zt_Y lx_mf_check zr_i cd_mf_check 1 0 (zm_lo av 1) [] M)
def lf_mf_map : List (Nat × (Nat × Nat)) := [(26, (10, 2)), (131, (2, 1)), (159, (2, 0))]
def lc_mf_map : List (Nat × Int32) := []
def lg_mf_map : List (Nat × (Nat × Nat)) := []
def li_mf_map : List (Nat × zm_F) := []
def lx_mf_map : zm_X := (zl_up lf_mf_map, zl_up lc_mf_map, zl_up lg_mf_map, zl_up li_mf_map)
def fn_mf_map : List zm_V → zm_M → Option (Int32 × zm_M) := zm_fv zt_Y 10 1 (fun av M => zm_rn zt_Y lx_mf_map zr_i cd_mf_map 1 0 (zm_lo av 2) [] M)
def lf_mf_patch : List (Nat × (Nat × Nat)) := [(26, (10, 2)), (131, (2, 1)), (159, (2, 0)), (58, (10, 5)), (136, (8, 9))]
def lc_mf_patch : List (Nat × Int32) := []
def lg_mf_patch : List (Nat × (Nat × Nat)) := []
def li_mf_patch : List (Nat × zm_F) := [(324, (2, .inl zm_mx))]
def lx_mf_patch : zm_X := (zl_up lf_mf_patch, zl_up lc_mf_patch, zl_up lg_mf_patch, zl_up li_mf_patch)
def fn_mf_patch : List zm_V → zm_M → Option (Int32 × zm_M) := zm_fv zt_Y 10 2 (fun av M => zm_rn zt_Y lx_mf_patch zr_z cd_mf_patch 1 0 (zm_lo av 3) [] M)
def lf_mf_cut : List (Nat × (Nat × Nat)) := [(26, (10, 2)), (131, (2, 1)), (58, (10, 5)), (136, (8, 9))]
def lc_mf_cut : List (Nat × Int32) := []
def lg_mf_cut : List (Nat × (Nat × Nat)) := []
def li_mf_cut : List (Nat × zm_F) := []
def lx_mf_cut : zm_X := (zl_up lf_mf_cut, zl_up lc_mf_cut, zl_up lg_mf_cut, zl_up li_mf_cut)
def fn_mf_cut : List zm_V → zm_M → Option (Int32 × zm_M) := zm_fv zt_Y 10 1 (fun av M => zm_rn zt_Y lx_mf_cut zr_i cd_mf_cut 1 0 (zm_lo av 3) [] M)
def lf_mf_row : List (Nat × (Nat × Nat)) := [(58, (10, 5)), (168, (8, 8)), (171, (8, 5)), (174, (8, 6)), (177, (8, 4))]
def lc_mf_row : List (Nat × Int32) := []
def lg_mf_row : List (Nat × (Nat × Nat)) := []
def li_mf_row : List (Nat × zm_F) := [(280, (2, .inl fn_mf_isQuestion)), (307, (1, .inl fn_re_isSound)), (297, (2, .inl fn_fr_tell))]
def lx_mf_row : zm_X := (zl_up lf_mf_row, zl_up lc_mf_row, zl_up lg_mf_row, zl_up li_mf_row)
def fn_mf_row : List zm_V → zm_M → Option (Int32 × zm_M) := zm_fv zt_Y 10 2 (fun av M => zm_rn zt_Y lx_mf_row zr_i cd_mf_row 1 0 (zm_lo av 3) [] M)
def lf_mf_code : List (Nat × (Nat × Nat)) := [(19, (10, 1)), (104, (1, 9)), (178, (1, 5)), (181, (1, 6)), (184, (1, 7)), (187, (1, 8))]
def lc_mf_code : List (Nat × Int32) := []
def lg_mf_code : List (Nat × (Nat × Nat)) := []
def li_mf_code : List (Nat × zm_F) := []
def lx_mf_code : zm_X := (zl_up lf_mf_code, zl_up lc_mf_code, zl_up lg_mf_code, zl_up li_mf_code)
def fn_mf_code : List zm_V → zm_M → Option (Int32 × zm_M) := zm_fv zt_Y 10 2 (fun av M => zm_rn zt_Y lx_mf_code zr_i cd_mf_code 1 0 (zm_lo av 3) [] M)
def lf_mf_count : List (Nat × (Nat × Nat)) := [(19, (10, 1)), (104, (1, 9)), (114, (1, 14)), (92, (1, 4)), (187, (1, 8)), (58, (10, 5)), (168, (8, 8))]
def lc_mf_count : List (Nat × Int32) := []
def lg_mf_count : List (Nat × (Nat × Nat)) := []
def li_mf_count : List (Nat × zm_F) := [(307, (1, .inl fn_re_isSound))]
def lx_mf_count : zm_X := (zl_up lf_mf_count, zl_up lc_mf_count, zl_up lg_mf_count, zl_up li_mf_count)
def fn_mf_count : List zm_V → zm_M → Option (Int32 × zm_M) := zm_fv zt_Y 10 1 (fun av M => zm_rn zt_Y lx_mf_count zr_i cd_mf_count 1 0 (zm_lo av 2) [] M)
def lf_mo_in : List (Nat × (Nat × Nat)) := []
def lc_mo_in : List (Nat × Int32) := []
def lg_mo_in : List (Nat × (Nat × Nat)) := []
def li_mo_in : List (Nat × zm_F) := []
def lx_mo_in : zm_X := (zl_up lf_mo_in, zl_up lc_mo_in, zl_up lg_mo_in, zl_up li_mo_in)
def fn_mo_in : List zm_V → zm_M → Option (Int32 × zm_M) := zm_fs 3 (fun av M => zm_rn zt_Y lx_mo_in zr_z cd_mo_in 1 0 (zm_lo av 3) [] M)
def lf_mo_type : List (Nat × (Nat × Nat)) := [(7, (11, 0)), (13, (11, 1))]
def lc_mo_type : List (Nat × Int32) := []
def lg_mo_type : List (Nat × (Nat × Nat)) := []
def li_mo_type : List (Nat × zm_F) := [(194, (3, .inl fn_mo_in))]
def lx_mo_type : zm_X := (zl_up lf_mo_type, zl_up lc_mo_type, zl_up lg_mo_type, zl_up li_mo_type)
def fn_mo_type : List zm_V → zm_M → Option (Int32 × zm_M) := zm_fv zt_Y 11 3 (fun av M => zm_rn zt_Y lx_mo_type zr_z cd_mo_type 1 0 (zm_lo av 4) [] M)
def lf_mo_method : List (Nat × (Nat × Nat)) := [(101, (11, 2)), (105, (11, 3)), (108, (11, 8)), (112, (11, 4)), (115, (11, 5)), (118, (11, 6))]
def lc_mo_method : List (Nat × Int32) := []
def lg_mo_method : List (Nat × (Nat × Nat)) := []
def li_mo_method : List (Nat × zm_F) := [(194, (3, .inl fn_mo_in))]
def lx_mo_method : zm_X := (zl_up lf_mo_method, zl_up lc_mo_method, zl_up lg_mo_method, zl_up li_mo_method)
def fn_mo_method : List zm_V → zm_M → Option (Int32 × zm_M) := zm_fv zt_Y 11 3 (fun av M => zm_rn zt_Y lx_mo_method zr_z cd_mo_method 1 0 (zm_lo av 4) [] M)
def lf_mo_kind : List (Nat × (Nat × Nat)) := []
def lc_mo_kind : List (Nat × Int32) := []
def lg_mo_kind : List (Nat × (Nat × Nat)) := []
def li_mo_kind : List (Nat × zm_F) := []
def lx_mo_kind : zm_X := (zl_up lf_mo_kind, zl_up lc_mo_kind, zl_up lg_mo_kind, zl_up li_mo_kind)
def fn_mo_kind : List zm_V → zm_M → Option (Int32 × zm_M) := zm_fs 1 (fun av M => zm_rn zt_Y lx_mo_kind zr_i cd_mo_kind 1 0 (zm_lo av 1) [] M)
def lf_mo_argument : List (Nat × (Nat × Nat)) := [(112, (11, 4)), (17, (11, 9))]
def lc_mo_argument : List (Nat × Int32) := []
def lg_mo_argument : List (Nat × (Nat × Nat)) := []
def li_mo_argument : List (Nat × zm_F) := [(194, (3, .inl fn_mo_in)), (178, (1, .inl fn_mo_kind))]
def lx_mo_argument : zm_X := (zl_up lf_mo_argument, zl_up lc_mo_argument, zl_up lg_mo_argument, zl_up li_mo_argument)
def fn_mo_argument : List zm_V → zm_M → Option (Int32 × zm_M) := zm_fv zt_Y 11 1 (fun av M => zm_rn zt_Y lx_mo_argument zr_i cd_mo_argument 1 0 (zm_lo av 2) [] M)
def lf_mo_isWideLocal : List (Nat × (Nat × Nat)) := []
def lc_mo_isWideLocal : List (Nat × Int32) := []
def lg_mo_isWideLocal : List (Nat × (Nat × Nat)) := []
def li_mo_isWideLocal : List (Nat × zm_F) := []
def lx_mo_isWideLocal : zm_X := (zl_up lf_mo_isWideLocal, zl_up lc_mo_isWideLocal, zl_up lg_mo_isWideLocal, zl_up li_mo_isWideLocal)
def fn_mo_isWideLocal : List zm_V → zm_M → Option (Int32 × zm_M) := zm_fs 1 (fun av M => zm_rn zt_Y lx_mo_isWideLocal zr_z cd_mo_isWideLocal 1 0 (zm_lo av 1) [] M)
def lf_mo_isGood : List (Nat × (Nat × Nat)) := []
def lc_mo_isGood : List (Nat × Int32) := []
def lg_mo_isGood : List (Nat × (Nat × Nat)) := []
def li_mo_isGood : List (Nat × zm_F) := [(194, (3, .inl fn_mo_in)), (242, (1, .inl fn_mo_isWideLocal))]
def lx_mo_isGood : zm_X := (zl_up lf_mo_isGood, zl_up lc_mo_isGood, zl_up lg_mo_isGood, zl_up li_mo_isGood)
def fn_mo_isGood : List zm_V → zm_M → Option (Int32 × zm_M) := zm_fs 3 (fun av M => zm_rn zt_Y lx_mo_isGood zr_z cd_mo_isGood 1 0 (zm_lo av 3) [] M)
def lf_mo_set : List (Nat × (Nat × Nat)) := [(20, (11, 10)), (23, (11, 11)), (26, (11, 12))]
def lc_mo_set : List (Nat × Int32) := []
def lg_mo_set : List (Nat × (Nat × Nat)) := []
def li_mo_set : List (Nat × zm_F) := [(194, (3, .inl fn_mo_in))]
def lx_mo_set : zm_X := (zl_up lf_mo_set, zl_up lc_mo_set, zl_up lg_mo_set, zl_up li_mo_set)
def fn_mo_set : List zm_V → zm_M → Option zm_M := zm_fv zt_Y 11 4 (fun av M => zm_rn zt_Y lx_mo_set zr_v cd_mo_set 1 0 (zm_lo av 5) [] M)
def lf_mo_add : List (Nat × (Nat × Nat)) := [(115, (11, 5))]
def lc_mo_add : List (Nat × Int32) := []
def lg_mo_add : List (Nat × (Nat × Nat)) := []
def li_mo_add : List (Nat × zm_F) := [(250, (3, .inl fn_mo_isGood)), (257, (5, .inr (.inl fn_mo_set)))]
def lx_mo_add : zm_X := (zl_up lf_mo_add, zl_up lc_mo_add, zl_up lg_mo_add, zl_up li_mo_add)
def fn_mo_add : List zm_V → zm_M → Option (Int32 × zm_M) := zm_fv zt_Y 11 3 (fun av M => zm_rn zt_Y lx_mo_add zr_i cd_mo_add 1 0 (zm_lo av 5) [] M)
def lf_mo_change : List (Nat × (Nat × Nat)) := [(115, (11, 5))]
def lc_mo_change : List (Nat × Int32) := []
def lg_mo_change : List (Nat × (Nat × Nat)) := []
def li_mo_change : List (Nat × zm_F) := [(250, (3, .inl fn_mo_isGood)), (194, (3, .inl fn_mo_in)), (257, (5, .inr (.inl fn_mo_set)))]
def lx_mo_change : zm_X := (zl_up lf_mo_change, zl_up lc_mo_change, zl_up lg_mo_change, zl_up li_mo_change)
def fn_mo_change : List zm_V → zm_M → Option (Int32 × zm_M) := zm_fv zt_Y 11 4 (fun av M => zm_rn zt_Y lx_mo_change zr_z cd_mo_change 1 0 (zm_lo av 6) [] M)
def lf_mo_handle : List (Nat × (Nat × Nat)) := [(118, (11, 6)), (29, (11, 13)), (32, (11, 14)), (35, (11, 15)), (38, (11, 16))]
def lc_mo_handle : List (Nat × Int32) := []
def lg_mo_handle : List (Nat × (Nat × Nat)) := []
def li_mo_handle : List (Nat × zm_F) := [(194, (3, .inl fn_mo_in))]
def lx_mo_handle : zm_X := (zl_up lf_mo_handle, zl_up lc_mo_handle, zl_up lg_mo_handle, zl_up li_mo_handle)
def fn_mo_handle : List zm_V → zm_M → Option (Int32 × zm_M) := zm_fv zt_Y 11 4 (fun av M => zm_rn zt_Y lx_mo_handle zr_i cd_mo_handle 1 0 (zm_lo av 5) [] M)
def lf_mo_isWide : List (Nat × (Nat × Nat)) := []
def lc_mo_isWide : List (Nat × Int32) := []
def lg_mo_isWide : List (Nat × (Nat × Nat)) := []
def li_mo_isWide : List (Nat × zm_F) := []
def lx_mo_isWide : zm_X := (zl_up lf_mo_isWide, zl_up lc_mo_isWide, zl_up lg_mo_isWide, zl_up li_mo_isWide)
def fn_mo_isWide : List zm_V → zm_M → Option (Int32 × zm_M) := zm_fs 1 (fun av M => zm_rn zt_Y lx_mo_isWide zr_z cd_mo_isWide 1 0 (zm_lo av 1) [] M)
def lf_mo_first : List (Nat × (Nat × Nat)) := [(44, (11, 18)), (105, (11, 3)), (101, (11, 2)), (112, (11, 4)), (17, (11, 9)), (138, (11, 20)), (141, (11, 21))]
def lc_mo_first : List (Nat × Int32) := []
def lg_mo_first : List (Nat × (Nat × Nat)) := []
def li_mo_first : List (Nat × zm_F) := [(270, (1, .inl fn_mo_isWide))]
def lx_mo_first : zm_X := (zl_up lf_mo_first, zl_up lc_mo_first, zl_up lg_mo_first, zl_up li_mo_first)
def fn_mo_first : List zm_V → zm_M → Option zm_M := zm_fv zt_Y 11 0 (fun av M => zm_rn zt_Y lx_mo_first zr_v cd_mo_first 1073741824 0 (zm_lo av 3) [] M)
def lf_mo_isInLine : List (Nat × (Nat × Nat)) := [(7, (11, 0))]
def lc_mo_isInLine : List (Nat × Int32) := []
def lg_mo_isInLine : List (Nat × (Nat × Nat)) := []
def li_mo_isInLine : List (Nat × zm_F) := []
def lx_mo_isInLine : zm_X := (zl_up lf_mo_isInLine, zl_up lc_mo_isInLine, zl_up lg_mo_isInLine, zl_up li_mo_isInLine)
def fn_mo_isInLine : List zm_V → zm_M → Option (Int32 × zm_M) := zm_fv zt_Y 11 2 (fun av M => zm_rn zt_Y lx_mo_isInLine zr_z cd_mo_isInLine 1073741824 0 (zm_lo av 4) [] M)
def lf_mo_join : List (Nat × (Nat × Nat)) := [(7, (11, 0))]
def lc_mo_join : List (Nat × Int32) := []
def lg_mo_join : List (Nat × (Nat × Nat)) := []
def li_mo_join : List (Nat × zm_F) := [(178, (1, .inl fn_mo_kind)), (187, (3, .inl fn_mo_isInLine))]
def lx_mo_join : zm_X := (zl_up lf_mo_join, zl_up lc_mo_join, zl_up lg_mo_join, zl_up li_mo_join)
def fn_mo_join : List zm_V → zm_M → Option (Int32 × zm_M) := zm_fv zt_Y 11 2 (fun av M => zm_rn zt_Y lx_mo_join zr_i cd_mo_join 1073741824 0 (zm_lo av 7) [] M)
def lf_mo_arrive : List (Nat × (Nat × Nat)) := [(115, (11, 5)), (50, (11, 22)), (56, (11, 24)), (138, (11, 20)), (194, (11, 27)), (44, (11, 18)), (59, (11, 25)), (201, (11, 28)), (47, (11, 19)), (62, (11, 26)), (141, (11, 21)), (53, (11, 23))]
def lc_mo_arrive : List (Nat × Int32) := []
def lg_mo_arrive : List (Nat × (Nat × Nat)) := []
def li_mo_arrive : List (Nat × zm_F) := [(395, (3, .inl fn_mo_join))]
def lx_mo_arrive : zm_X := (zl_up lf_mo_arrive, zl_up lc_mo_arrive, zl_up lg_mo_arrive, zl_up li_mo_arrive)
def fn_mo_arrive : List zm_V → zm_M → Option zm_M := zm_fv zt_Y 11 1 (fun av M => zm_rn zt_Y lx_mo_arrive zr_v cd_mo_arrive 1073741824 0 (zm_lo av 6) [] M)
def lf_mo_fetch : List (Nat × (Nat × Nat)) := [(56, (11, 24)), (138, (11, 20)), (53, (11, 23)), (141, (11, 21)), (44, (11, 18)), (59, (11, 25)), (47, (11, 19)), (62, (11, 26))]
def lc_mo_fetch : List (Nat × Int32) := []
def lg_mo_fetch : List (Nat × (Nat × Nat)) := []
def li_mo_fetch : List (Nat × zm_F) := []
def lx_mo_fetch : zm_X := (zl_up lf_mo_fetch, zl_up lc_mo_fetch, zl_up lg_mo_fetch, zl_up li_mo_fetch)
def fn_mo_fetch : List zm_V → zm_M → Option zm_M := zm_fv zt_Y 11 1 (fun av M => zm_rn zt_Y lx_mo_fetch zr_v cd_mo_fetch 1073741824 0 (zm_lo av 3) [] M)
def lf_mo_top : List (Nat × (Nat × Nat)) := [(138, (11, 20)), (47, (11, 19))]
def lc_mo_top : List (Nat × Int32) := []
def lg_mo_top : List (Nat × (Nat × Nat)) := []
def li_mo_top : List (Nat × zm_F) := []
def lx_mo_top : zm_X := (zl_up lf_mo_top, zl_up lc_mo_top, zl_up lg_mo_top, zl_up li_mo_top)
def fn_mo_top : List zm_V → zm_M → Option (Int32 × zm_M) := zm_fv zt_Y 11 1 (fun av M => zm_rn zt_Y lx_mo_top zr_i cd_mo_top 1 0 (zm_lo av 2) [] M)
def lf_mo_slots : List (Nat × (Nat × Nat)) := [(138, (11, 20)), (47, (11, 19))]
def lc_mo_slots : List (Nat × Int32) := []
def lg_mo_slots : List (Nat × (Nat × Nat)) := []
def li_mo_slots : List (Nat × zm_F) := [(270, (1, .inl fn_mo_isWide))]
def lx_mo_slots : zm_X := (zl_up lf_mo_slots, zl_up lc_mo_slots, zl_up lg_mo_slots, zl_up li_mo_slots)
def fn_mo_slots : List zm_V → zm_M → Option (Int32 × zm_M) := zm_fv zt_Y 11 0 (fun av M => zm_rn zt_Y lx_mo_slots zr_i cd_mo_slots 1073741824 0 (zm_lo av 3) [] M)
def lf_mo_push : List (Nat × (Nat × Nat)) := [(47, (11, 19)), (138, (11, 20))]
def lc_mo_push : List (Nat × Int32) := []
def lg_mo_push : List (Nat × (Nat × Nat)) := []
def li_mo_push : List (Nat × zm_F) := [(289, (1, .inl fn_mo_slots)), (270, (1, .inl fn_mo_isWide))]
def lx_mo_push : zm_X := (zl_up lf_mo_push, zl_up lc_mo_push, zl_up lg_mo_push, zl_up li_mo_push)
def fn_mo_push : List zm_V → zm_M → Option (Int32 × zm_M) := zm_fv zt_Y 11 1 (fun av M => zm_rn zt_Y lx_mo_push zr_z cd_mo_push 1 0 (zm_lo av 2) [] M)
def lf_mo_isSmall : List (Nat × (Nat × Nat)) := []
def lc_mo_isSmall : List (Nat × Int32) := []
def lg_mo_isSmall : List (Nat × (Nat × Nat)) := []
def li_mo_isSmall : List (Nat × zm_F) := [(270, (1, .inl fn_mo_isWide))]
def lx_mo_isSmall : zm_X := (zl_up lf_mo_isSmall, zl_up lc_mo_isSmall, zl_up lg_mo_isSmall, zl_up li_mo_isSmall)
def fn_mo_isSmall : List zm_V → zm_M → Option (Int32 × zm_M) := zm_fs 1 (fun av M => zm_rn zt_Y lx_mo_isSmall zr_z cd_mo_isSmall 1 0 (zm_lo av 1) [] M)
def lf_mo_takes : List (Nat × (Nat × Nat)) := [(138, (11, 20))]
def lc_mo_takes : List (Nat × Int32) := []
def lg_mo_takes : List (Nat × (Nat × Nat)) := []
def li_mo_takes : List (Nat × zm_F) := []
def lx_mo_takes : zm_X := (zl_up lf_mo_takes, zl_up lc_mo_takes, zl_up lg_mo_takes, zl_up li_mo_takes)
def fn_mo_takes : List zm_V → zm_M → Option (Int32 × zm_M) := zm_fv zt_Y 11 2 (fun av M => zm_rn zt_Y lx_mo_takes zr_z cd_mo_takes 1 0 (zm_lo av 3) [] M)
def lf_mo_sum : List (Nat × (Nat × Nat)) := [(138, (11, 20))]
def lc_mo_sum : List (Nat × Int32) := []
def lg_mo_sum : List (Nat × (Nat × Nat)) := []
def li_mo_sum : List (Nat × zm_F) := [(303, (2, .inl fn_mo_top))]
def lx_mo_sum : zm_X := (zl_up lf_mo_sum, zl_up lc_mo_sum, zl_up lg_mo_sum, zl_up li_mo_sum)
def fn_mo_sum : List zm_V → zm_M → Option (Int32 × zm_M) := zm_fv zt_Y 11 1 (fun av M => zm_rn zt_Y lx_mo_sum zr_z cd_mo_sum 1 0 (zm_lo av 2) [] M)
def lf_mo_swap : List (Nat × (Nat × Nat)) := [(138, (11, 20))]
def lc_mo_swap : List (Nat × Int32) := []
def lg_mo_swap : List (Nat × (Nat × Nat)) := []
def li_mo_swap : List (Nat × zm_F) := [(303, (2, .inl fn_mo_top)), (309, (2, .inl fn_mo_push))]
def lx_mo_swap : zm_X := (zl_up lf_mo_swap, zl_up lc_mo_swap, zl_up lg_mo_swap, zl_up li_mo_swap)
def fn_mo_swap : List zm_V → zm_M → Option (Int32 × zm_M) := zm_fv zt_Y 11 2 (fun av M => zm_rn zt_Y lx_mo_swap zr_z cd_mo_swap 1 0 (zm_lo av 3) [] M)
def lf_mo_is : List (Nat × (Nat × Nat)) := [(13, (11, 1))]
def lc_mo_is : List (Nat × Int32) := []
def lg_mo_is : List (Nat × (Nat × Nat)) := []
def li_mo_is : List (Nat × zm_F) := [(178, (1, .inl fn_mo_kind)), (187, (3, .inl fn_mo_isInLine))]
def lx_mo_is : zm_X := (zl_up lf_mo_is, zl_up lc_mo_is, zl_up lg_mo_is, zl_up li_mo_is)
def fn_mo_is : List zm_V → zm_M → Option (Int32 × zm_M) := zm_fv zt_Y 11 2 (fun av M => zm_rn zt_Y lx_mo_is zr_z cd_mo_is 1 0 (zm_lo av 3) [] M)
def lf_mo_simple : List (Nat × (Nat × Nat)) := [(47, (11, 19)), (138, (11, 20)), (108, (11, 8)), (105, (11, 3)), (141, (11, 21))]
def lc_mo_simple : List (Nat × Int32) := []
def lg_mo_simple : List (Nat × (Nat × Nat)) := []
def li_mo_simple : List (Nat × zm_F) := [(303, (2, .inl fn_mo_top)), (309, (2, .inl fn_mo_push)), (314, (1, .inl fn_mo_isSmall)), (321, (3, .inl fn_mo_takes)), (270, (1, .inl fn_mo_isWide)), (329, (2, .inl fn_mo_sum)), (335, (3, .inl fn_mo_swap)), (341, (3, .inl fn_mo_is))]
def lx_mo_simple : zm_X := (zl_up lf_mo_simple, zl_up lc_mo_simple, zl_up lg_mo_simple, zl_up li_mo_simple)
def fn_mo_simple : List zm_V → zm_M → Option (Int32 × zm_M) := zm_fv zt_Y 11 1 (fun av M => zm_rn zt_Y lx_mo_simple zr_z cd_mo_simple 1 0 (zm_lo av 4) [] M)
def lf_mo_typeFor : List (Nat × (Nat × Nat)) := []
def lc_mo_typeFor : List (Nat × Int32) := []
def lg_mo_typeFor : List (Nat × (Nat × Nat)) := []
def li_mo_typeFor : List (Nat × zm_F) := []
def lx_mo_typeFor : zm_X := (zl_up lf_mo_typeFor, zl_up lc_mo_typeFor, zl_up lg_mo_typeFor, zl_up li_mo_typeFor)
def fn_mo_typeFor : List zm_V → zm_M → Option (Int32 × zm_M) := zm_fs 1 (fun av M => zm_rn zt_Y lx_mo_typeFor zr_i cd_mo_typeFor 1 0 (zm_lo av 1) [] M)
def lf_mo_isPointer : List (Nat × (Nat × Nat)) := []
def lc_mo_isPointer : List (Nat × Int32) := []
def lg_mo_isPointer : List (Nat × (Nat × Nat)) := []
def li_mo_isPointer : List (Nat × zm_F) := [(178, (1, .inl fn_mo_kind))]
def lx_mo_isPointer : zm_X := (zl_up lf_mo_isPointer, zl_up lc_mo_isPointer, zl_up lg_mo_isPointer, zl_up li_mo_isPointer)
def fn_mo_isPointer : List zm_V → zm_M → Option (Int32 × zm_M) := zm_fs 1 (fun av M => zm_rn zt_Y lx_mo_isPointer zr_z cd_mo_isPointer 1 0 (zm_lo av 1) [] M)
def lf_mo_isReference : List (Nat × (Nat × Nat)) := []
def lc_mo_isReference : List (Nat × Int32) := []
def lg_mo_isReference : List (Nat × (Nat × Nat)) := []
def li_mo_isReference : List (Nat × zm_F) := [(296, (1, .inl fn_mo_isPointer)), (178, (1, .inl fn_mo_kind))]
def lx_mo_isReference : zm_X := (zl_up lf_mo_isReference, zl_up lc_mo_isReference, zl_up lg_mo_isReference, zl_up li_mo_isReference)
def fn_mo_isReference : List zm_V → zm_M → Option (Int32 × zm_M) := zm_fs 1 (fun av M => zm_rn zt_Y lx_mo_isReference zr_z cd_mo_isReference 1 0 (zm_lo av 1) [] M)
def lf_mo_move : List (Nat × (Nat × Nat)) := [(44, (11, 18)), (138, (11, 20))]
def lc_mo_move : List (Nat × Int32) := []
def lg_mo_move : List (Nat × (Nat × Nat)) := []
def li_mo_move : List (Nat × zm_F) := [(346, (1, .inl fn_mo_typeFor)), (352, (1, .inl fn_mo_isReference)), (309, (2, .inl fn_mo_push)), (303, (2, .inl fn_mo_top)), (270, (1, .inl fn_mo_isWide))]
def lx_mo_move : zm_X := (zl_up lf_mo_move, zl_up lc_mo_move, zl_up lg_mo_move, zl_up li_mo_move)
def fn_mo_move : List zm_V → zm_M → Option (Int32 × zm_M) := zm_fv zt_Y 11 2 (fun av M => zm_rn zt_Y lx_mo_move zr_z cd_mo_move 1 0 (zm_lo av 5) [] M)
def lf_mo_sizeOf : List (Nat × (Nat × Nat)) := []
def lc_mo_sizeOf : List (Nat × Int32) := []
def lg_mo_sizeOf : List (Nat × (Nat × Nat)) := []
def li_mo_sizeOf : List (Nat × zm_F) := []
def lx_mo_sizeOf : zm_X := (zl_up lf_mo_sizeOf, zl_up lc_mo_sizeOf, zl_up lg_mo_sizeOf, zl_up li_mo_sizeOf)
def fn_mo_sizeOf : List zm_V → zm_M → Option (Int32 × zm_M) := zm_fs 1 (fun av M => zm_rn zt_Y lx_mo_sizeOf zr_i cd_mo_sizeOf 1 0 (zm_lo av 1) [] M)
def lf_mo_offset : List (Nat × (Nat × Nat)) := [(20, (11, 10))]
def lc_mo_offset : List (Nat × Int32) := []
def lg_mo_offset : List (Nat × (Nat × Nat)) := []
def li_mo_offset : List (Nat × zm_F) := [(264, (1, .inl fn_mo_sizeOf))]
def lx_mo_offset : zm_X := (zl_up lf_mo_offset, zl_up lc_mo_offset, zl_up lg_mo_offset, zl_up li_mo_offset)
def fn_mo_offset : List zm_V → zm_M → Option (Int32 × zm_M) := zm_fv zt_Y 11 1 (fun av M => zm_rn zt_Y lx_mo_offset zr_i cd_mo_offset 1073741824 0 (zm_lo av 4) [] M)
def lf_mo_placeAt : List (Nat × (Nat × Nat)) := [(115, (11, 5)), (20, (11, 10))]
def lc_mo_placeAt : List (Nat × Int32) := []
def lg_mo_placeAt : List (Nat × (Nat × Nat)) := []
def li_mo_placeAt : List (Nat × zm_F) := [(264, (1, .inl fn_mo_sizeOf))]
def lx_mo_placeAt : zm_X := (zl_up lf_mo_placeAt, zl_up lc_mo_placeAt, zl_up lg_mo_placeAt, zl_up li_mo_placeAt)
def fn_mo_placeAt : List zm_V → zm_M → Option (Int32 × zm_M) := zm_fv zt_Y 11 1 (fun av M => zm_rn zt_Y lx_mo_placeAt zr_i cd_mo_placeAt 1073741824 0 (zm_lo av 4) [] M)
def lf_mo_init : List (Nat × (Nat × Nat)) := [(101, (11, 2)), (7, (11, 0)), (20, (11, 10)), (23, (11, 11)), (138, (11, 20)), (47, (11, 19)), (44, (11, 18)), (141, (11, 21))]
def lc_mo_init : List (Nat × Int32) := []
def lg_mo_init : List (Nat × (Nat × Nat)) := []
def li_mo_init : List (Nat × zm_F) := [(303, (2, .inl fn_mo_top)), (178, (1, .inl fn_mo_kind)), (359, (2, .inl fn_mo_placeAt))]
def lx_mo_init : zm_X := (zl_up lf_mo_init, zl_up lc_mo_init, zl_up lg_mo_init, zl_up li_mo_init)
def fn_mo_init : List zm_V → zm_M → Option (Int32 × zm_M) := zm_fv zt_Y 11 1 (fun av M => zm_rn zt_Y lx_mo_init zr_z cd_mo_init 1073741824 0 (zm_lo av 6) [] M)
def lf_mo_leave : List (Nat × (Nat × Nat)) := [(20, (11, 10)), (23, (11, 11)), (138, (11, 20)), (26, (11, 12))]
def lc_mo_leave : List (Nat × Int32) := []
def lg_mo_leave : List (Nat × (Nat × Nat)) := []
def li_mo_leave : List (Nat × zm_F) := [(303, (2, .inl fn_mo_top)), (365, (2, .inl fn_mo_simple)), (371, (3, .inl fn_mo_move)), (321, (3, .inl fn_mo_takes)), (296, (1, .inl fn_mo_isPointer)), (377, (2, .inl fn_mo_offset)), (309, (2, .inl fn_mo_push)), (383, (2, .inl fn_mo_init)), (341, (3, .inl fn_mo_is))]
def lx_mo_leave : zm_X := (zl_up lf_mo_leave, zl_up lc_mo_leave, zl_up lg_mo_leave, zl_up li_mo_leave)
def fn_mo_leave : List zm_V → zm_M → Option (Int32 × zm_M) := zm_fv zt_Y 11 1 (fun av M => zm_rn zt_Y lx_mo_leave zr_z cd_mo_leave 1 0 (zm_lo av 6) [] M)
def lf_mo_isEnd : List (Nat × (Nat × Nat)) := []
def lc_mo_isEnd : List (Nat × Int32) := []
def lg_mo_isEnd : List (Nat × (Nat × Nat)) := []
def li_mo_isEnd : List (Nat × zm_F) := [(194, (3, .inl fn_mo_in))]
def lx_mo_isEnd : zm_X := (zl_up lf_mo_isEnd, zl_up lc_mo_isEnd, zl_up lg_mo_isEnd, zl_up li_mo_isEnd)
def fn_mo_isEnd : List zm_V → zm_M → Option (Int32 × zm_M) := zm_fs 1 (fun av M => zm_rn zt_Y lx_mo_isEnd zr_z cd_mo_isEnd 1 0 (zm_lo av 1) [] M)
def lf_mo_goHandled : List (Nat × (Nat × Nat)) := [(118, (11, 6)), (194, (11, 27)), (29, (11, 13)), (32, (11, 14)), (138, (11, 20)), (47, (11, 19)), (38, (11, 16)), (35, (11, 15))]
def lc_mo_goHandled : List (Nat × Int32) := []
def lg_mo_goHandled : List (Nat × (Nat × Nat)) := []
def li_mo_goHandled : List (Nat × zm_F) := [(415, (2, .inr (.inl fn_mo_fetch))), (423, (2, .inr (.inl fn_mo_arrive)))]
def lx_mo_goHandled : zm_X := (zl_up lf_mo_goHandled, zl_up lc_mo_goHandled, zl_up lg_mo_goHandled, zl_up li_mo_goHandled)
def fn_mo_goHandled : List zm_V → zm_M → Option zm_M := zm_fv zt_Y 11 1 (fun av M => zm_rn zt_Y lx_mo_goHandled zr_v cd_mo_goHandled 1073741824 0 (zm_lo av 3) [] M)
def lf_mo_hasRow : List (Nat × (Nat × Nat)) := [(20, (11, 10)), (115, (11, 5)), (26, (11, 12)), (118, (11, 6)), (35, (11, 15))]
def lc_mo_hasRow : List (Nat × Int32) := []
def lg_mo_hasRow : List (Nat × (Nat × Nat)) := []
def li_mo_hasRow : List (Nat × zm_F) := [(408, (1, .inl fn_mo_isEnd)), (194, (3, .inl fn_mo_in))]
def lx_mo_hasRow : zm_X := (zl_up lf_mo_hasRow, zl_up lc_mo_hasRow, zl_up lg_mo_hasRow, zl_up li_mo_hasRow)
def fn_mo_hasRow : List zm_V → zm_M → Option (Int32 × zm_M) := zm_fv zt_Y 11 1 (fun av M => zm_rn zt_Y lx_mo_hasRow zr_z cd_mo_hasRow 1073741824 0 (zm_lo av 3) [] M)
def lf_mo_hasThis : List (Nat × (Nat × Nat)) := [(59, (11, 25))]
def lc_mo_hasThis : List (Nat × Int32) := []
def lg_mo_hasThis : List (Nat × (Nat × Nat)) := []
def li_mo_hasThis : List (Nat × zm_F) := []
def lx_mo_hasThis : zm_X := (zl_up lf_mo_hasThis, zl_up lc_mo_hasThis, zl_up lg_mo_hasThis, zl_up li_mo_hasThis)
def fn_mo_hasThis : List zm_V → zm_M → Option (Int32 × zm_M) := zm_fv zt_Y 11 1 (fun av M => zm_rn zt_Y lx_mo_hasThis zr_z cd_mo_hasThis 1073741824 0 (zm_lo av 3) [] M)
def lf_mo_isRight : List (Nat × (Nat × Nat)) := [(115, (11, 5)), (194, (11, 27)), (50, (11, 22)), (201, (11, 28)), (20, (11, 10)), (26, (11, 12)), (53, (11, 23))]
def lc_mo_isRight : List (Nat × Int32) := []
def lg_mo_isRight : List (Nat × (Nat × Nat)) := []
def li_mo_isRight : List (Nat × zm_F) := [(429, (1, .inr (.inl fn_mo_first))), (423, (2, .inr (.inl fn_mo_arrive))), (415, (2, .inr (.inl fn_mo_fetch))), (435, (2, .inl fn_mo_leave)), (194, (3, .inl fn_mo_in)), (408, (1, .inl fn_mo_isEnd)), (441, (2, .inr (.inl fn_mo_goHandled))), (447, (2, .inl fn_mo_hasRow)), (453, (2, .inl fn_mo_hasThis))]
def lx_mo_isRight : zm_X := (zl_up lf_mo_isRight, zl_up lc_mo_isRight, zl_up lg_mo_isRight, zl_up li_mo_isRight)
def fn_mo_isRight : List zm_V → zm_M → Option (Int32 × zm_M) := zm_fv zt_Y 11 0 (fun av M => zm_rn zt_Y lx_mo_isRight zr_z cd_mo_isRight 1073741824 0 (zm_lo av 2) [] M)
def lf_mo_enlist : List (Nat × (Nat × Nat)) := [(233, (11, 37)), (80, (11, 35)), (44, (11, 18))]
def lc_mo_enlist : List (Nat × Int32) := []
def lg_mo_enlist : List (Nat × (Nat × Nat)) := []
def li_mo_enlist : List (Nat × zm_F) := [(270, (1, .inl fn_mo_isWide))]
def lx_mo_enlist : zm_X := (zl_up lf_mo_enlist, zl_up lc_mo_enlist, zl_up lg_mo_enlist, zl_up li_mo_enlist)
def fn_mo_enlist : List zm_V → zm_M → Option zm_M := zm_fv zt_Y 11 0 (fun av M => zm_rn zt_Y lx_mo_enlist zr_v cd_mo_enlist 1073741824 0 (zm_lo av 2) [] M)
def lf_mo_keep : List (Nat × (Nat × Nat)) := [(233, (11, 37)), (83, (11, 36)), (80, (11, 35)), (236, (11, 38))]
def lc_mo_keep : List (Nat × Int32) := []
def lg_mo_keep : List (Nat × (Nat × Nat)) := []
def li_mo_keep : List (Nat × zm_F) := []
def lx_mo_keep : zm_X := (zl_up lf_mo_keep, zl_up lc_mo_keep, zl_up lg_mo_keep, zl_up li_mo_keep)
def fn_mo_keep : List zm_V → zm_M → Option zm_M := zm_fv zt_Y 11 0 (fun av M => zm_rn zt_Y lx_mo_keep zr_v cd_mo_keep 1073741824 0 (zm_lo av 2) [] M)
def lf_mo_begins : List (Nat × (Nat × Nat)) := [(233, (11, 37)), (236, (11, 38)), (80, (11, 35)), (83, (11, 36))]
def lc_mo_begins : List (Nat × Int32) := []
def lg_mo_begins : List (Nat × (Nat × Nat)) := []
def li_mo_begins : List (Nat × zm_F) := []
def lx_mo_begins : zm_X := (zl_up lf_mo_begins, zl_up lc_mo_begins, zl_up lg_mo_begins, zl_up li_mo_begins)
def fn_mo_begins : List zm_V → zm_M → Option (Int32 × zm_M) := zm_fv zt_Y 11 0 (fun av M => zm_rn zt_Y lx_mo_begins zr_z cd_mo_begins 1073741824 0 (zm_lo av 3) [] M)
def lf_mo_write : List (Nat × (Nat × Nat)) := [(86, (11, 39)), (239, (11, 40))]
def lc_mo_write : List (Nat × Int32) := []
def lg_mo_write : List (Nat × (Nat × Nat)) := []
def li_mo_write : List (Nat × zm_F) := []
def lx_mo_write : zm_X := (zl_up lf_mo_write, zl_up lc_mo_write, zl_up lg_mo_write, zl_up li_mo_write)
def fn_mo_write : List zm_V → zm_M → Option zm_M := zm_fv zt_Y 11 1 (fun av M => zm_rn zt_Y lx_mo_write zr_v cd_mo_write 1 0 (zm_lo av 2) [] M)
def lf_mo_writeTwo : List (Nat × (Nat × Nat)) := []
def lc_mo_writeTwo : List (Nat × Int32) := []
def lg_mo_writeTwo : List (Nat × (Nat × Nat)) := []
def li_mo_writeTwo : List (Nat × zm_F) := [(485, (2, .inr (.inl fn_mo_write)))]
def lx_mo_writeTwo : zm_X := (zl_up lf_mo_writeTwo, zl_up lc_mo_writeTwo, zl_up lg_mo_writeTwo, zl_up li_mo_writeTwo)
def fn_mo_writeTwo : List zm_V → zm_M → Option zm_M := zm_fv zt_Y 11 1 (fun av M => zm_rn zt_Y lx_mo_writeTwo zr_v cd_mo_writeTwo 1 0 (zm_lo av 2) [] M)
def lf_mo_writeType : List (Nat × (Nat × Nat)) := []
def lc_mo_writeType : List (Nat × Int32) := []
def lg_mo_writeType : List (Nat × (Nat × Nat)) := []
def li_mo_writeType : List (Nat × zm_F) := [(178, (1, .inl fn_mo_kind)), (485, (2, .inr (.inl fn_mo_write))), (491, (2, .inr (.inl fn_mo_writeTwo)))]
def lx_mo_writeType : zm_X := (zl_up lf_mo_writeType, zl_up lc_mo_writeType, zl_up lg_mo_writeType, zl_up li_mo_writeType)
def fn_mo_writeType : List zm_V → zm_M → Option zm_M := zm_fv zt_Y 11 1 (fun av M => zm_rn zt_Y lx_mo_writeType zr_v cd_mo_writeType 1 0 (zm_lo av 2) [] M)
def lf_mo_writeRow : List (Nat × (Nat × Nat)) := [(233, (11, 37)), (236, (11, 38)), (138, (11, 20)), (47, (11, 19)), (80, (11, 35))]
def lc_mo_writeRow : List (Nat × Int32) := []
def lg_mo_writeRow : List (Nat × (Nat × Nat)) := []
def li_mo_writeRow : List (Nat × zm_F) := [(497, (1, .inl fn_mo_begins)), (485, (2, .inr (.inl fn_mo_write))), (491, (2, .inr (.inl fn_mo_writeTwo))), (503, (2, .inr (.inl fn_mo_writeType))), (194, (3, .inl fn_mo_in))]
def lx_mo_writeRow : zm_X := (zl_up lf_mo_writeRow, zl_up lc_mo_writeRow, zl_up lg_mo_writeRow, zl_up li_mo_writeRow)
def fn_mo_writeRow : List zm_V → zm_M → Option zm_M := zm_fv zt_Y 11 1 (fun av M => zm_rn zt_Y lx_mo_writeRow zr_v cd_mo_writeRow 1073741824 0 (zm_lo av 5) [] M)
def lf_mo_make : List (Nat × (Nat × Nat)) := [(239, (11, 40)), (115, (11, 5)), (41, (11, 17)), (86, (11, 39)), (263, (11, 7))]
def lc_mo_make : List (Nat × Int32) := []
def lg_mo_make : List (Nat × (Nat × Nat)) := []
def li_mo_make : List (Nat × zm_F) := [(459, (1, .inl fn_mo_isRight)), (429, (1, .inr (.inl fn_mo_first))), (509, (1, .inr (.inl fn_mo_enlist))), (515, (1, .inr (.inl fn_mo_keep))), (447, (2, .inl fn_mo_hasRow)), (377, (2, .inl fn_mo_offset)), (415, (2, .inr (.inl fn_mo_fetch))), (521, (2, .inr (.inl fn_mo_writeRow)))]
def lx_mo_make : zm_X := (zl_up lf_mo_make, zl_up lc_mo_make, zl_up lg_mo_make, zl_up li_mo_make)
def fn_mo_make : List zm_V → zm_M → Option (Int32 × zm_M) := zm_fv zt_Y 11 0 (fun av M => zm_rn zt_Y lx_mo_make zr_i cd_mo_make 1073741824 0 (zm_lo av 7) [] M)
def lf_mo_flow : List (Nat × (Nat × Nat)) := [(115, (11, 5)), (59, (11, 25)), (56, (11, 24)), (62, (11, 26)), (53, (11, 23))]
def lc_mo_flow : List (Nat × Int32) := []
def lg_mo_flow : List (Nat × (Nat × Nat)) := []
def li_mo_flow : List (Nat × zm_F) := [(194, (3, .inl fn_mo_in)), (459, (1, .inl fn_mo_isRight))]
def lx_mo_flow : zm_X := (zl_up lf_mo_flow, zl_up lc_mo_flow, zl_up lg_mo_flow, zl_up li_mo_flow)
def fn_mo_flow : List zm_V → zm_M → Option (Int32 × zm_M) := zm_fv zt_Y 11 2 (fun av M => zm_rn zt_Y lx_mo_flow zr_i cd_mo_flow 1 0 (zm_lo av 4) [] M)
def lf_mo_byteNext : List (Nat × (Nat × Nat)) := [(266, (11, 41)), (263, (11, 7)), (269, (11, 42)), (41, (11, 17))]
def lc_mo_byteNext : List (Nat × Int32) := []
def lg_mo_byteNext : List (Nat × (Nat × Nat)) := []
def li_mo_byteNext : List (Nat × zm_F) := []
def lx_mo_byteNext : zm_X := (zl_up lf_mo_byteNext, zl_up lc_mo_byteNext, zl_up lg_mo_byteNext, zl_up li_mo_byteNext)
def fn_mo_byteNext : List zm_V → zm_M → Option (Int32 × zm_M) := zm_fv zt_Y 11 0 (fun av M => zm_rn zt_Y lx_mo_byteNext zr_i cd_mo_byteNext 1 0 (zm_lo av 1) [] M)
def lf_mo_twoNext : List (Nat × (Nat × Nat)) := []
def lc_mo_twoNext : List (Nat × Int32) := []
def lg_mo_twoNext : List (Nat × (Nat × Nat)) := []
def li_mo_twoNext : List (Nat × zm_F) := [(545, (1, .inl fn_mo_byteNext))]
def lx_mo_twoNext : zm_X := (zl_up lf_mo_twoNext, zl_up lc_mo_twoNext, zl_up lg_mo_twoNext, zl_up li_mo_twoNext)
def fn_mo_twoNext : List zm_V → zm_M → Option (Int32 × zm_M) := zm_fv zt_Y 11 0 (fun av M => zm_rn zt_Y lx_mo_twoNext zr_i cd_mo_twoNext 1 0 (zm_lo av 2) [] M)
def lf_mo_typeNext : List (Nat × (Nat × Nat)) := [(269, (11, 42))]
def lc_mo_typeNext : List (Nat × Int32) := []
def lg_mo_typeNext : List (Nat × (Nat × Nat)) := []
def li_mo_typeNext : List (Nat × zm_F) := [(545, (1, .inl fn_mo_byteNext)), (551, (1, .inl fn_mo_twoNext))]
def lx_mo_typeNext : zm_X := (zl_up lf_mo_typeNext, zl_up lc_mo_typeNext, zl_up lg_mo_typeNext, zl_up li_mo_typeNext)
def fn_mo_typeNext : List zm_V → zm_M → Option (Int32 × zm_M) := zm_fv zt_Y 11 0 (fun av M => zm_rn zt_Y lx_mo_typeNext zr_i cd_mo_typeNext 1 0 (zm_lo av 3) [] M)
def lf_mo_stackNext : List (Nat × (Nat × Nat)) := [(269, (11, 42))]
def lc_mo_stackNext : List (Nat × Int32) := []
def lg_mo_stackNext : List (Nat × (Nat × Nat)) := []
def li_mo_stackNext : List (Nat × zm_F) := [(557, (1, .inl fn_mo_typeNext)), (309, (2, .inl fn_mo_push))]
def lx_mo_stackNext : zm_X := (zl_up lf_mo_stackNext, zl_up lc_mo_stackNext, zl_up lg_mo_stackNext, zl_up li_mo_stackNext)
def fn_mo_stackNext : List zm_V → zm_M → Option zm_M := zm_fv zt_Y 11 0 (fun av M => zm_rn zt_Y lx_mo_stackNext zr_v cd_mo_stackNext 1 0 (zm_lo av 3) [] M)
def lf_mo_enter : List (Nat × (Nat × Nat)) := [(233, (11, 37)), (80, (11, 35)), (269, (11, 42))]
def lc_mo_enter : List (Nat × Int32) := []
def lg_mo_enter : List (Nat × (Nat × Nat)) := []
def li_mo_enter : List (Nat × zm_F) := [(270, (1, .inl fn_mo_isWide))]
def lx_mo_enter : zm_X := (zl_up lf_mo_enter, zl_up lc_mo_enter, zl_up lg_mo_enter, zl_up li_mo_enter)
def fn_mo_enter : List zm_V → zm_M → Option zm_M := zm_fv zt_Y 11 1 (fun av M => zm_rn zt_Y lx_mo_enter zr_v cd_mo_enter 1073741824 0 (zm_lo av 4) [] M)
def lf_mo_readFull : List (Nat × (Nat × Nat)) := [(233, (11, 37)), (269, (11, 42))]
def lc_mo_readFull : List (Nat × Int32) := []
def lg_mo_readFull : List (Nat × (Nat × Nat)) := []
def li_mo_readFull : List (Nat × zm_F) := [(551, (1, .inl fn_mo_twoNext)), (557, (1, .inl fn_mo_typeNext)), (569, (2, .inr (.inl fn_mo_enter))), (563, (1, .inr (.inl fn_mo_stackNext)))]
def lx_mo_readFull : zm_X := (zl_up lf_mo_readFull, zl_up lc_mo_readFull, zl_up lg_mo_readFull, zl_up li_mo_readFull)
def fn_mo_readFull : List zm_V → zm_M → Option zm_M := zm_fv zt_Y 11 0 (fun av M => zm_rn zt_Y lx_mo_readFull zr_v cd_mo_readFull 1073741824 0 (zm_lo av 4) [] M)
def lf_mo_readForm : List (Nat × (Nat × Nat)) := [(269, (11, 42)), (233, (11, 37))]
def lc_mo_readForm : List (Nat × Int32) := []
def lg_mo_readForm : List (Nat × (Nat × Nat)) := []
def li_mo_readForm : List (Nat × zm_F) := [(194, (3, .inl fn_mo_in)), (551, (1, .inl fn_mo_twoNext)), (563, (1, .inr (.inl fn_mo_stackNext))), (557, (1, .inl fn_mo_typeNext)), (569, (2, .inr (.inl fn_mo_enter))), (575, (1, .inr (.inl fn_mo_readFull)))]
def lx_mo_readForm : zm_X := (zl_up lf_mo_readForm, zl_up lc_mo_readForm, zl_up lg_mo_readForm, zl_up li_mo_readForm)
def fn_mo_readForm : List zm_V → zm_M → Option (Int32 × zm_M) := zm_fv zt_Y 11 1 (fun av M => zm_rn zt_Y lx_mo_readForm zr_i cd_mo_readForm 1073741824 0 (zm_lo av 5) [] M)
def lf_mo_readRows : List (Nat × (Nat × Nat)) := [(290, (11, 34)), (266, (11, 41)), (269, (11, 42)), (263, (11, 7)), (138, (11, 20)), (65, (11, 29)), (68, (11, 30)), (71, (11, 31)), (77, (11, 33)), (47, (11, 19)), (74, (11, 32)), (233, (11, 37)), (80, (11, 35))]
def lc_mo_readRows : List (Nat × Int32) := []
def lg_mo_readRows : List (Nat × (Nat × Nat)) := []
def li_mo_readRows : List (Nat × zm_F) := [(429, (1, .inr (.inl fn_mo_first))), (509, (1, .inr (.inl fn_mo_enlist))), (545, (1, .inl fn_mo_byteNext)), (587, (2, .inl fn_mo_readForm)), (359, (2, .inl fn_mo_placeAt)), (270, (1, .inl fn_mo_isWide))]
def lx_mo_readRows : zm_X := (zl_up lf_mo_readRows, zl_up lc_mo_readRows, zl_up lg_mo_readRows, zl_up li_mo_readRows)
def fn_mo_readRows : List zm_V → zm_M → Option (Int32 × zm_M) := zm_fv zt_Y 11 0 (fun av M => zm_rn zt_Y lx_mo_readRows zr_z cd_mo_readRows 1073741824 0 (zm_lo av 7) [] M)
def lf_mo_rowAt : List (Nat × (Nat × Nat)) := [(290, (11, 34)), (65, (11, 29))]
def lc_mo_rowAt : List (Nat × Int32) := []
def lg_mo_rowAt : List (Nat × (Nat × Nat)) := []
def li_mo_rowAt : List (Nat × zm_F) := []
def lx_mo_rowAt : zm_X := (zl_up lf_mo_rowAt, zl_up lc_mo_rowAt, zl_up lg_mo_rowAt, zl_up li_mo_rowAt)
def fn_mo_rowAt : List zm_V → zm_M → Option (Int32 × zm_M) := zm_fv zt_Y 11 1 (fun av M => zm_rn zt_Y lx_mo_rowAt zr_i cd_mo_rowAt 1073741824 0 (zm_lo av 3) [] M)
def lf_mo_rowIsRaw : List (Nat × (Nat × Nat)) := [(74, (11, 32))]
def lc_mo_rowIsRaw : List (Nat × Int32) := []
def lg_mo_rowIsRaw : List (Nat × (Nat × Nat)) := []
def li_mo_rowIsRaw : List (Nat × zm_F) := []
def lx_mo_rowIsRaw : zm_X := (zl_up lf_mo_rowIsRaw, zl_up lc_mo_rowIsRaw, zl_up lg_mo_rowIsRaw, zl_up li_mo_rowIsRaw)
def fn_mo_rowIsRaw : List zm_V → zm_M → Option (Int32 × zm_M) := zm_fv zt_Y 11 1 (fun av M => zm_rn zt_Y lx_mo_rowIsRaw zr_z cd_mo_rowIsRaw 1073741824 0 (zm_lo av 3) [] M)
def lf_mo_fits : List (Nat × (Nat × Nat)) := [(138, (11, 20)), (71, (11, 31)), (141, (11, 21)), (44, (11, 18)), (74, (11, 32)), (47, (11, 19)), (77, (11, 33))]
def lc_mo_fits : List (Nat × Int32) := []
def lg_mo_fits : List (Nat × (Nat × Nat)) := []
def li_mo_fits : List (Nat × zm_F) := [(593, (2, .inl fn_mo_rowIsRaw)), (341, (3, .inl fn_mo_is))]
def lx_mo_fits : zm_X := (zl_up lf_mo_fits, zl_up lc_mo_fits, zl_up lg_mo_fits, zl_up li_mo_fits)
def fn_mo_fits : List zm_V → zm_M → Option (Int32 × zm_M) := zm_fv zt_Y 11 1 (fun av M => zm_rn zt_Y lx_mo_fits zr_z cd_mo_fits 1073741824 0 (zm_lo av 4) [] M)
def lf_mo_take : List (Nat × (Nat × Nat)) := [(71, (11, 31)), (138, (11, 20)), (141, (11, 21)), (44, (11, 18)), (74, (11, 32)), (47, (11, 19)), (77, (11, 33))]
def lc_mo_take : List (Nat × Int32) := []
def lg_mo_take : List (Nat × (Nat × Nat)) := []
def li_mo_take : List (Nat × zm_F) := [(593, (2, .inl fn_mo_rowIsRaw))]
def lx_mo_take : zm_X := (zl_up lf_mo_take, zl_up lc_mo_take, zl_up lg_mo_take, zl_up li_mo_take)
def fn_mo_take : List zm_V → zm_M → Option zm_M := zm_fv zt_Y 11 1 (fun av M => zm_rn zt_Y lx_mo_take zr_v cd_mo_take 1073741824 0 (zm_lo av 3) [] M)
def lf_mo_fitsAt : List (Nat × (Nat × Nat)) := [(115, (11, 5))]
def lc_mo_fitsAt : List (Nat × Int32) := []
def lg_mo_fitsAt : List (Nat × (Nat × Nat)) := []
def li_mo_fitsAt : List (Nat × zm_F) := [(377, (2, .inl fn_mo_offset)), (599, (2, .inl fn_mo_rowAt)), (605, (2, .inl fn_mo_fits))]
def lx_mo_fitsAt : zm_X := (zl_up lf_mo_fitsAt, zl_up lc_mo_fitsAt, zl_up lg_mo_fitsAt, zl_up li_mo_fitsAt)
def fn_mo_fitsAt : List zm_V → zm_M → Option (Int32 × zm_M) := zm_fv zt_Y 11 1 (fun av M => zm_rn zt_Y lx_mo_fitsAt zr_z cd_mo_fitsAt 1 0 (zm_lo av 3) [] M)
def lf_mo_handled : List (Nat × (Nat × Nat)) := [(118, (11, 6)), (29, (11, 13)), (32, (11, 14)), (138, (11, 20)), (47, (11, 19)), (38, (11, 16)), (35, (11, 15))]
def lc_mo_handled : List (Nat × Int32) := []
def lg_mo_handled : List (Nat × (Nat × Nat)) := []
def li_mo_handled : List (Nat × zm_F) := [(611, (2, .inl fn_mo_fitsAt))]
def lx_mo_handled : zm_X := (zl_up lf_mo_handled, zl_up lc_mo_handled, zl_up lg_mo_handled, zl_up li_mo_handled)
def fn_mo_handled : List zm_V → zm_M → Option (Int32 × zm_M) := zm_fv zt_Y 11 1 (fun av M => zm_rn zt_Y lx_mo_handled zr_z cd_mo_handled 1073741824 0 (zm_lo av 6) [] M)
def lf_mo_check : List (Nat × (Nat × Nat)) := [(115, (11, 5)), (20, (11, 10)), (26, (11, 12))]
def lc_mo_check : List (Nat × Int32) := []
def lg_mo_check : List (Nat × (Nat × Nat)) := []
def li_mo_check : List (Nat × zm_F) := [(617, (1, .inl fn_mo_readRows)), (429, (1, .inr (.inl fn_mo_first))), (377, (2, .inl fn_mo_offset)), (599, (2, .inl fn_mo_rowAt)), (605, (2, .inl fn_mo_fits)), (623, (2, .inr (.inl fn_mo_take))), (629, (2, .inl fn_mo_handled)), (435, (2, .inl fn_mo_leave)), (194, (3, .inl fn_mo_in)), (611, (2, .inl fn_mo_fitsAt)), (408, (1, .inl fn_mo_isEnd))]
def lx_mo_check : zm_X := (zl_up lf_mo_check, zl_up lc_mo_check, zl_up lg_mo_check, zl_up li_mo_check)
def fn_mo_check : List zm_V → zm_M → Option (Int32 × zm_M) := zm_fv zt_Y 11 0 (fun av M => zm_rn zt_Y lx_mo_check zr_i cd_mo_check 1073741824 0 (zm_lo av 6) [] M)
def lf_mo_map : List (Nat × (Nat × Nat)) := [(263, (11, 7)), (41, (11, 17))]
def lc_mo_map : List (Nat × Int32) := []
def lg_mo_map : List (Nat × (Nat × Nat)) := []
def li_mo_map : List (Nat × zm_F) := [(194, (3, .inl fn_mo_in))]
def lx_mo_map : zm_X := (zl_up lf_mo_map, zl_up lc_mo_map, zl_up lg_mo_map, zl_up li_mo_map)
def fn_mo_map : List zm_V → zm_M → Option (Int32 × zm_M) := zm_fv zt_Y 11 1 (fun av M => zm_rn zt_Y lx_mo_map zr_i cd_mo_map 1 0 (zm_lo av 2) [] M)
def lf_mo_patch : List (Nat × (Nat × Nat)) := [(263, (11, 7)), (41, (11, 17))]
def lc_mo_patch : List (Nat × Int32) := []
def lg_mo_patch : List (Nat × (Nat × Nat)) := []
def li_mo_patch : List (Nat × zm_F) := [(194, (3, .inl fn_mo_in))]
def lx_mo_patch : zm_X := (zl_up lf_mo_patch, zl_up lc_mo_patch, zl_up lg_mo_patch, zl_up li_mo_patch)
def fn_mo_patch : List zm_V → zm_M → Option (Int32 × zm_M) := zm_fv zt_Y 11 2 (fun av M => zm_rn zt_Y lx_mo_patch zr_z cd_mo_patch 1 0 (zm_lo av 3) [] M)
def lf_mo_cut : List (Nat × (Nat × Nat)) := [(263, (11, 7))]
def lc_mo_cut : List (Nat × Int32) := []
def lg_mo_cut : List (Nat × (Nat × Nat)) := []
def li_mo_cut : List (Nat × zm_F) := [(194, (3, .inl fn_mo_in))]
def lx_mo_cut : zm_X := (zl_up lf_mo_cut, zl_up lc_mo_cut, zl_up lg_mo_cut, zl_up li_mo_cut)
def fn_mo_cut : List zm_V → zm_M → Option (Int32 × zm_M) := zm_fv zt_Y 11 1 (fun av M => zm_rn zt_Y lx_mo_cut zr_i cd_mo_cut 1 0 (zm_lo av 3) [] M)
def lf_mo_row : List (Nat × (Nat × Nat)) := [(290, (11, 34)), (74, (11, 32)), (71, (11, 31)), (77, (11, 33)), (65, (11, 29)), (68, (11, 30))]
def lc_mo_row : List (Nat × Int32) := []
def lg_mo_row : List (Nat × (Nat × Nat)) := []
def li_mo_row : List (Nat × zm_F) := [(194, (3, .inl fn_mo_in)), (617, (1, .inl fn_mo_readRows))]
def lx_mo_row : zm_X := (zl_up lf_mo_row, zl_up lc_mo_row, zl_up lg_mo_row, zl_up li_mo_row)
def fn_mo_row : List zm_V → zm_M → Option (Int32 × zm_M) := zm_fv zt_Y 11 2 (fun av M => zm_rn zt_Y lx_mo_row zr_i cd_mo_row 1 0 (zm_lo av 4) [] M)
def lf_mo_code : List (Nat × (Nat × Nat)) := [(115, (11, 5)), (20, (11, 10)), (23, (11, 11)), (26, (11, 12))]
def lc_mo_code : List (Nat × Int32) := []
def lg_mo_code : List (Nat × (Nat × Nat)) := []
def li_mo_code : List (Nat × zm_F) := [(194, (3, .inl fn_mo_in)), (377, (2, .inl fn_mo_offset))]
def lx_mo_code : zm_X := (zl_up lf_mo_code, zl_up lc_mo_code, zl_up lg_mo_code, zl_up li_mo_code)
def fn_mo_code : List zm_V → zm_M → Option (Int32 × zm_M) := zm_fv zt_Y 11 2 (fun av M => zm_rn zt_Y lx_mo_code zr_i cd_mo_code 1 0 (zm_lo av 3) [] M)
def lf_mo_count : List (Nat × (Nat × Nat)) := [(290, (11, 34)), (115, (11, 5)), (118, (11, 6)), (112, (11, 4))]
def lc_mo_count : List (Nat × Int32) := []
def lg_mo_count : List (Nat × (Nat × Nat)) := []
def li_mo_count : List (Nat × zm_F) := [(617, (1, .inl fn_mo_readRows)), (377, (2, .inl fn_mo_offset))]
def lx_mo_count : zm_X := (zl_up lf_mo_count, zl_up lc_mo_count, zl_up lg_mo_count, zl_up li_mo_count)
def fn_mo_count : List zm_V → zm_M → Option (Int32 × zm_M) := zm_fv zt_Y 11 1 (fun av M => zm_rn zt_Y lx_mo_count zr_i cd_mo_count 1 0 (zm_lo av 3) [] M)
