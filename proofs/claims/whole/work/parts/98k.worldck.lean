/-! THE WORLD behind both constructors, held against the layout by the kernel -/
def ix (r : Nat × Nat) : Nat := zn_at (zn_at ixt r.1 []) r.2 0
def ixi (k : Nat) : Nat × Nat := zn_at ivt k (0, 0)
def ixp (r : Nat × Nat) : Nat := zn_at ipt r.1 0 + r.2
def yk_c (w : yb_W) (r : Nat × Nat) : Bool := match w[ix r]? with
  | some (.inl (ci, fs)) => (Nat.beq (zy_k zt_Y r.1) 0 && Nat.beq ci (zy_c zt_Y r.1)) && (Nat.beq fs.length (zy_n zt_Y r.1) && (List.range fs.length).all fun k => match zy_r zt_Y r.1 r.2 k with
    | none => (match fs[k]? with
      | some (some (.inl _)) => true
      | _ => false)
    | some q => (match fs[k]? with
      | some (some (.inr x)) => Nat.beq x.1 (ix q)
      | _ => false))
  | some (.inr (t, n, .inl _)) => Nat.beq n (zy_n zt_Y r.1) && ((Nat.beq (zy_k zt_Y r.1) 1 && Nat.beq t 0) || (Nat.beq (zy_k zt_Y r.1) 2 && Nat.beq t 1))
  | some (.inr (t, n, .inr f)) => (Nat.beq (zy_k zt_Y r.1) 3 && Nat.beq t 2) && (Nat.beq n (zy_n zt_Y r.1) && (List.range n).all fun j => match f j with
    | some k => Nat.beq k (ix (zy_e zt_Y r.1 r.2 j))
    | none => false)
  | none => false
/-- the first store -/
def yz (w : yb_W) : zm_M := fun s i k => match w[ix (s, i)]? with
  | some (.inl (_, fs)) => (match fs[k]? with
    | some (some (.inl x)) => x
    | _ => 0)
  | some (.inr (_, _, .inl f)) => f k
  | _ => 0
def yk_L : List (Nat × Nat × Nat) := (List.range 8).map (fun c => (2, 0, c)) ++ ((List.range 8).map (fun c => (3, 0, c)) ++ ([(5, 0, 0), (5, 0, 1), (5, 0, 2), (5, 0, 4), (5, 0, 9), (5, 0, 14), (10, 0, 0), (15, 0, 1), (18, 0, 8), (29, 0, 9)] ++ ((List.range 8).map (fun c => (36, 0, c)) ++ ((List.range 8).map (fun c => (37, 0, c)) ++ ([(35, 0, 2), (35, 0, 3), (35, 0, 4), (35, 0, 5), (35, 0, 6), (35, 0, 7), (35, 0, 8)] ++ (List.range 50).flatMap fun r => (23, 50 + r, 2) :: (23, 50 + r, 3) :: (23, 50 + r, 4) :: (List.range 10).map fun j => (24, 50 + r, j))))))
def yk_z (w : yb_W) : Bool := yk_L.all fun q => decide (yz w q.1 q.2.1 q.2.2 = nI 0)
def yk_l (w : yb_W) : Bool := (List.range 8).all fun d => (List.range 8).all fun c => decide ((((yz w 4 0 d) >>> (nI c &&& nI 31)) &&& nI 1) = bI (sp_in (fun _ => 0) 8 c d))
set_option maxRecDepth 100000 in
theorem yk_ok : ((zy_d zt_Y).all (yk_c yw_4) && (yk_z yw_4 && yk_l yw_4)) = true := by decide +kernel
set_option maxRecDepth 100000 in
theorem yk_i : ((zy_d zt_Y).all fun r => decide (ixi (ix r) = r)) = true := by decide +kernel
set_option maxRecDepth 100000 in
theorem yk_p : ((zy_d zt_Y).zipIdx.all fun q => Nat.beq (ixp q.1) q.2) = true := by decide +kernel
