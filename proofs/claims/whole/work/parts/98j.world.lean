/-! THE WORLD behind both constructors, by the kernel -/
def yw_1 : yb_W := [.inl (10, yb_dff 10)]
def yw_2 : yb_W := (fi_mf [.inr (0, 0)] yw_1).getD []
def yw_3 : yb_W := yw_2 ++ [.inl (11, yb_dff 11)]
def yw_4 : yb_W := (fi_mo [.inr (353, 0)] yw_3).getD []
set_option maxRecDepth 100000 in
theorem yw_a : (fi_mf [.inr (0, 0)] yw_1).isSome = true := by decide +kernel
set_option maxRecDepth 100000 in
theorem yw_l : yw_2.length = 353 := by decide +kernel
set_option maxRecDepth 100000 in
theorem yw_b : (fi_mo [.inr (353, 0)] yw_3).isSome = true := by decide +kernel
