/-! the law is kept -/
def zfin0 : Bool := match zadv 4000 300 ML_law 10 0 [.ref 1005, .null, .null, .null] [] [] with
  | some (pc, ls, st, h) => decide (pc = 18) && decide (ls = [.ref 1005, .ref 0, .ref 66, .int 0]) && decide (st = []) && shp h && relB (zext0 h)
  | none => false
set_option maxRecDepth 100000 in
theorem zfin0_ok : zfin0 = true := by decide +kernel
