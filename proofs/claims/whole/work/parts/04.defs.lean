def ztyX : Nat → Nat → FieldType := fun c => match c with
  | 0 => tyX0 | 1 => tyX1 | 2 => tyX2 | 3 => tyX3 | 4 => tyX4 | 5 => tyX5 | 6 => tyX6 | 7 => tyX7 | 8 => tyX8 | 9 => tyX9 | 10 => tyX10 | 11 => tyX11 | _ => tyX12
def znum : Nat → Nat := fun c => match zcl[c]? with
  | some q => q.2.2
  | none => 0
def zgsN : Nat → String × String × String := fun k => if k = 0 then (RX5, "LEAST", "[I") else if k = 1 then (RX5, "MOST", "[I") else if k = 2 then (RX9, "LEVELS", "[I") else if k = 3 then (RX1, "ABOVE", "[I") else if k = 4 then (RX1, "RUNS", "[I") else (RJ0, "COMPACT_STRINGS", "Z")
def zTB : List Cond := lw_tbl.filter goodWord
def zNw : List Cond := [.methodLinkNest RX4 11 yX2_init RX11, .methodLinkNest RX7 36 yX2_init RX11, .methodLinkNest RX9 17 yX6_init RX11, .methodLinkNest RX10 17 yX2_init RX11, .methodLinkNest RX11 18 yX6_init RX11, .methodLinkNest RX11 25 yX9_init RX11, .methodLinkNest RX11 41 yX4_init RX11, .methodLinkNest RX11 48 yX3_init RX11, .methodLinkNest RX11 59 yX8_init RX11, .methodLinkNest RX11 82 yX1_init RX11, .fieldLinkNest RX10 117 RX5 "MOST" "[I" RX11]
