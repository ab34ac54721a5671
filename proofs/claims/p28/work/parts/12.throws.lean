/-! Printed by program: what is thrown. -/
def pt_xn : Nat → String
  | 1 => "java/lang/IllegalArgumentException"
  | 2 => "java/lang/IllegalStateException"
  | _ => "java/lang/IndexOutOfBoundsException"
/-- the class that throws, the entry of the exception's class, of its constructor, the exception's number -/
def pt_tl : List (Nat × Nat × Nat × Nat) := [(8, 52, 56, 1), (8, 73, 77, 3), (8, 98, 102, 2)]
/-- texts: the class, the entry, the text -/
def pt_sl : List (Nat × Nat × String) := [(8, 54, "no such colour"), (8, 59, "weight is not 1 to 20"), (8, 61, "time is not 1 to 60"), (8, 63, "within is not 1 to 999"), (8, 75, "no such shelf"), (8, 92, "no pile at the place"), (8, 100, "the pile does not wait"), (8, 107, "no such machine"), (8, 132, "room is not 10 to 60"), (8, 134, "the machine is not idle"), (8, 139, "minutes is not 1 to 240"), (8, 145, "the clock would be above 99999"), (8, 151, "no such setting"), (8, 157, "value is out of range"), (8, 195, "no saved state"), (8, 200, "no such place"), (8, 202, "what is not 0 to 10"), (8, 236, "what is not 0 to 5"), (8, 268, "rank is below 0"), (8, 283, "what is not 0 or 1")]
def pt_slp : List Nat := [406, 407, 408, 409, 435, 529, 530, 535, 560, 561, 566, 568, 574, 578, 314, 454, 373, 594, 610, 627]
def pt_sup : List String := ["java/lang/RuntimeException", "java/lang/Exception"]
def pt_atS (q : Nat × Nat × Nat × Nat) : List Cond := vx_atS (pt_cname q.1) q.2.2.1 (pt_xn q.2.2.2) pt_sup
def pt_ng : List Cond := pt_nl.map pt_wN ++ [.castable (pt_xn 1) (pt_xn 1), .castable (pt_xn 2) (pt_xn 2), .castable (pt_xn 3) (pt_xn 3), .declares ⟨"java/lang/RuntimeException", "<init>", "(Ljava/lang/String;)V"⟩, .declares ⟨"java/lang/Exception", "<init>", "(Ljava/lang/String;)V"⟩, .declares ⟨"java/lang/Throwable", "<init>", "(Ljava/lang/String;)V"⟩]
set_option maxRecDepth 100000 in
theorem pt_th_a0 : ((Cond.classLink (pt_cname 8) 52 (pt_xn 1) :: Cond.initialized (pt_xn 1) :: pt_atS (8, 52, 56, 1)).filter goodWord).all (fun w => decide (w ∈ lw_tbl)) = true := by decide +kernel
set_option maxRecDepth 100000 in
theorem pt_th_b0 : (pt_atS (8, 52, 56, 1)).all (fun w => goodWord w || decide (w ∈ pt_ng)) = true := by decide +kernel
set_option maxRecDepth 100000 in
theorem pt_th_c0 : (Cond.classLink (pt_cname 8) 52 (pt_xn 1) :: Cond.initialized (pt_xn 1) :: pt_atS (8, 52, 56, 1)).all vx_ot = true := by decide +kernel
set_option maxRecDepth 100000 in
theorem pt_th_a1 : ((Cond.classLink (pt_cname 8) 73 (pt_xn 3) :: Cond.initialized (pt_xn 3) :: pt_atS (8, 73, 77, 3)).filter goodWord).all (fun w => decide (w ∈ lw_tbl)) = true := by decide +kernel
set_option maxRecDepth 100000 in
theorem pt_th_b1 : (pt_atS (8, 73, 77, 3)).all (fun w => goodWord w || decide (w ∈ pt_ng)) = true := by decide +kernel
set_option maxRecDepth 100000 in
theorem pt_th_c1 : (Cond.classLink (pt_cname 8) 73 (pt_xn 3) :: Cond.initialized (pt_xn 3) :: pt_atS (8, 73, 77, 3)).all vx_ot = true := by decide +kernel
set_option maxRecDepth 100000 in
theorem pt_th_a2 : ((Cond.classLink (pt_cname 8) 98 (pt_xn 2) :: Cond.initialized (pt_xn 2) :: pt_atS (8, 98, 102, 2)).filter goodWord).all (fun w => decide (w ∈ lw_tbl)) = true := by decide +kernel
set_option maxRecDepth 100000 in
theorem pt_th_b2 : (pt_atS (8, 98, 102, 2)).all (fun w => goodWord w || decide (w ∈ pt_ng)) = true := by decide +kernel
set_option maxRecDepth 100000 in
theorem pt_th_c2 : (Cond.classLink (pt_cname 8) 98 (pt_xn 2) :: Cond.initialized (pt_xn 2) :: pt_atS (8, 98, 102, 2)).all vx_ot = true := by decide +kernel
