/-! ===== printed by wip/gen/eqparts.py: equations of the law, 1 ===== -/
set_option maxRecDepth 100000 in
theorem e333_13 {X : XS} {d u : Nat} {D : Nat → Nat → Int32} {J : Nat → Nat → Int64} (x4 : Int32) : Ev X d 333 (13, [.ref 900000, .ref 0, .ref 70, .ref 95, .int x4, .null, .null], [], hS u D J) =
    br (decide (((Int32.ofNat X.2) - 6) < x4)) (Ev X d 333 (1714, [.ref 900000, .ref 0, .ref 70, .ref 95, .int x4, .null, .null], [], hS u D J)) (gd (ob x4 X.2) (br (decide (((X.1 x4.toNatClampNeg) &&& 63) = 0)) (Ev X d 333 (25, [.ref 900000, .ref 0, .ref 70, .ref 95, .int x4, .null, .null], [], hS u D J)) (br (decide (((X.1 x4.toNatClampNeg) &&& 63) = 1)) (Ev X d 333 (82, [.ref 900000, .ref 0, .ref 70, .ref 95, .int x4, .null, .null], [], hS u D J)) (br (decide (((X.1 x4.toNatClampNeg) &&& 63) = 2)) (Ev X d 333 (117, [.ref 900000, .ref 0, .ref 70, .ref 95, .int x4, .null, .null], [], hS u D J)) (br (decide (((X.1 x4.toNatClampNeg) &&& 63) = 3)) (Ev X d 333 (124, [.ref 900000, .ref 0, .ref 70, .ref 95, .int x4, .null, .null], [], hS u D J)) (br (decide (((X.1 x4.toNatClampNeg) &&& 63) = 4)) (Ev X d 333 (159, [.ref 900000, .ref 0, .ref 70, .ref 95, .int x4, .null, .null], [], hS u D J)) (br (decide (((X.1 x4.toNatClampNeg) &&& 63) = 5)) (Ev X d 333 (204, [.ref 900000, .ref 0, .ref 70, .ref 95, .int x4, .null, .null], [], hS u D J)) (br (decide (((X.1 x4.toNatClampNeg) &&& 63) = 6)) (Ev X d 333 (249, [.ref 900000, .ref 0, .ref 70, .ref 95, .int x4, .null, .null], [], hS u D J)) (br (decide (((X.1 x4.toNatClampNeg) &&& 63) = 7)) (Ev X d 333 (266, [.ref 900000, .ref 0, .ref 70, .ref 95, .int x4, .null, .null], [], hS u D J)) (br (decide (((X.1 x4.toNatClampNeg) &&& 63) = 8)) (Ev X d 333 (301, [.ref 900000, .ref 0, .ref 70, .ref 95, .int x4, .null, .null], [], hS u D J)) (br (decide (((X.1 x4.toNatClampNeg) &&& 63) = 9)) (Ev X d 333 (336, [.ref 900000, .ref 0, .ref 70, .ref 95, .int x4, .null, .null], [], hS u D J)) (br (decide (((X.1 x4.toNatClampNeg) &&& 63) = 10)) (Ev X d 333 (384, [.ref 900000, .ref 0, .ref 70, .ref 95, .int x4, .null, .null], [], hS u D J)) (br (decide (((X.1 x4.toNatClampNeg) &&& 63) = 11)) (Ev X d 333 (429, [.ref 900000, .ref 0, .ref 70, .ref 95, .int x4, .null, .null], [], hS u D J)) (br (decide (((X.1 x4.toNatClampNeg) &&& 63) = 12)) (Ev X d 333 (474, [.ref 900000, .ref 0, .ref 70, .ref 95, .int x4, .null, .null], [], hS u D J)) (br (decide (((X.1 x4.toNatClampNeg) &&& 63) = 13)) (Ev X d 333 (481, [.ref 900000, .ref 0, .ref 70, .ref 95, .int x4, .null, .null], [], hS u D J)) (br (decide (((X.1 x4.toNatClampNeg) &&& 63) = 14)) (Ev X d 333 (536, [.ref 900000, .ref 0, .ref 70, .ref 95, .int x4, .null, .null], [], hS u D J)) (br (decide (((X.1 x4.toNatClampNeg) &&& 63) = 15)) (Ev X d 333 (591, [.ref 900000, .ref 0, .ref 70, .ref 95, .int x4, .null, .null], [], hS u D J)) (br (decide (((X.1 x4.toNatClampNeg) &&& 63) = 16)) (Ev X d 333 (636, [.ref 900000, .ref 0, .ref 70, .ref 95, .int x4, .null, .null], [], hS u D J)) (br (decide (((X.1 x4.toNatClampNeg) &&& 63) = 17)) (Ev X d 333 (681, [.ref 900000, .ref 0, .ref 70, .ref 95, .int x4, .null, .null], [], hS u D J)) (br (decide (((X.1 x4.toNatClampNeg) &&& 63) = 18)) (Ev X d 333 (726, [.ref 900000, .ref 0, .ref 70, .ref 95, .int x4, .null, .null], [], hS u D J)) (br (decide (((X.1 x4.toNatClampNeg) &&& 63) = 19)) (Ev X d 333 (761, [.ref 900000, .ref 0, .ref 70, .ref 95, .int x4, .null, .null], [], hS u D J)) (br (decide (((X.1 x4.toNatClampNeg) &&& 63) = 20)) (Ev X d 333 (806, [.ref 900000, .ref 0, .ref 70, .ref 95, .int x4, .null, .null], [], hS u D J)) (br (decide (((X.1 x4.toNatClampNeg) &&& 63) = 21)) (Ev X d 333 (861, [.ref 900000, .ref 0, .ref 70, .ref 95, .int x4, .null, .null], [], hS u D J)) (br (decide (((X.1 x4.toNatClampNeg) &&& 63) = 22)) (Ev X d 333 (868, [.ref 900000, .ref 0, .ref 70, .ref 95, .int x4, .null, .null], [], hS u D J)) (br (decide (((X.1 x4.toNatClampNeg) &&& 63) = 23)) (Ev X d 333 (913, [.ref 900000, .ref 0, .ref 70, .ref 95, .int x4, .null, .null], [], hS u D J)) (br (decide (((X.1 x4.toNatClampNeg) &&& 63) = 24)) (Ev X d 333 (958, [.ref 900000, .ref 0, .ref 70, .ref 95, .int x4, .null, .null], [], hS u D J)) (br (decide (((X.1 x4.toNatClampNeg) &&& 63) = 25)) (Ev X d 333 (993, [.ref 900000, .ref 0, .ref 70, .ref 95, .int x4, .null, .null], [], hS u D J)) (br (decide (((X.1 x4.toNatClampNeg) &&& 63) = 26)) (Ev X d 333 (1028, [.ref 900000, .ref 0, .ref 70, .ref 95, .int x4, .null, .null], [], hS u D J)) (br (decide (((X.1 x4.toNatClampNeg) &&& 63) = 27)) (Ev X d 333 (1073, [.ref 900000, .ref 0, .ref 70, .ref 95, .int x4, .null, .null], [], hS u D J)) (br (decide (((X.1 x4.toNatClampNeg) &&& 63) = 28)) (Ev X d 333 (1108, [.ref 900000, .ref 0, .ref 70, .ref 95, .int x4, .null, .null], [], hS u D J)) (br (decide (((X.1 x4.toNatClampNeg) &&& 63) = 29)) (Ev X d 333 (1143, [.ref 900000, .ref 0, .ref 70, .ref 95, .int x4, .null, .null], [], hS u D J)) (br (decide (((X.1 x4.toNatClampNeg) &&& 63) = 30)) (Ev X d 333 (1198, [.ref 900000, .ref 0, .ref 70, .ref 95, .int x4, .null, .null], [], hS u D J)) (br (decide (((X.1 x4.toNatClampNeg) &&& 63) = 31)) (Ev X d 333 (1203, [.ref 900000, .ref 0, .ref 70, .ref 95, .int x4, .null, .null], [], hS u D J)) (br (decide (((X.1 x4.toNatClampNeg) &&& 63) = 32)) (Ev X d 333 (1238, [.ref 900000, .ref 0, .ref 70, .ref 95, .int x4, .null, .null], [], hS u D J)) (br (decide (((X.1 x4.toNatClampNeg) &&& 63) = 33)) (Ev X d 333 (1273, [.ref 900000, .ref 0, .ref 70, .ref 95, .int x4, .null, .null], [], hS u D J)) (br (decide (((X.1 x4.toNatClampNeg) &&& 63) = 34)) (Ev X d 333 (1328, [.ref 900000, .ref 0, .ref 70, .ref 95, .int x4, .null, .null], [], hS u D J)) (br (decide (((X.1 x4.toNatClampNeg) &&& 63) = 35)) (Ev X d 333 (1383, [.ref 900000, .ref 0, .ref 70, .ref 95, .int x4, .null, .null], [], hS u D J)) (br (decide (((X.1 x4.toNatClampNeg) &&& 63) = 36)) (Ev X d 333 (1438, [.ref 900000, .ref 0, .ref 70, .ref 95, .int x4, .null, .null], [], hS u D J)) (br (decide (((X.1 x4.toNatClampNeg) &&& 63) = 37)) (Ev X d 333 (1483, [.ref 900000, .ref 0, .ref 70, .ref 95, .int x4, .null, .null], [], hS u D J)) (br (decide (((X.1 x4.toNatClampNeg) &&& 63) = 38)) (Ev X d 333 (1538, [.ref 900000, .ref 0, .ref 70, .ref 95, .int x4, .null, .null], [], hS u D J)) (br (decide (((X.1 x4.toNatClampNeg) &&& 63) = 39)) (Ev X d 333 (1593, [.ref 900000, .ref 0, .ref 70, .ref 95, .int x4, .null, .null], [], hS u D J)) (br (decide (((X.1 x4.toNatClampNeg) &&& 63) = 40)) (Ev X d 333 (1638, [.ref 900000, .ref 0, .ref 70, .ref 95, .int x4, .null, .null], [], hS u D J)) (br (decide (((X.1 x4.toNatClampNeg) &&& 63) = 41)) (Ev X d 333 (1693, [.ref 900000, .ref 0, .ref 70, .ref 95, .int x4, .null, .null], [], hS u D J)) (br (decide (((X.1 x4.toNatClampNeg) &&& 63) = 42)) (Ev X d 333 (1700, [.ref 900000, .ref 0, .ref 70, .ref 95, .int x4, .null, .null], [], hS u D J)) (br (decide (((X.1 x4.toNatClampNeg) &&& 63) = 43)) (Ev X d 333 (1705, [.ref 900000, .ref 0, .ref 70, .ref 95, .int x4, .null, .null], [], hS u D J)) (Ev X d 333 (1712, [.ref 900000, .ref 0, .ref 70, .ref 95, .int x4, .null, .null], [], hS u D J))))))))))))))))))))))))))))))))))))))))))))))) := (sy_at X [25, 82, 117, 124, 159, 204, 249, 266, 301, 336, 384, 429, 474, 481, 536, 591, 636, 681, 726, 761, 806, 861, 868, 913, 958, 993, 1028, 1073, 1108, 1143, 1198, 1203, 1238, 1273, 1328, 1383, 1438, 1483, 1538, 1593, 1638, 1693, 1700, 1705, 1712, 1714] d 333 14 _).trans rfl
set_option maxRecDepth 100000 in
theorem f333_25 {X : XS} {d u : Nat} {D : Nat → Nat → Int32} {J : Nat → Nat → Int64} (x4 : Int32) : Ev X d 333 (25, [.ref 900000, .ref 0, .ref 70, .ref 95, .int x4, .null, .null], [], hS u D J) =
    gd (ob (x4 + 1) X.2) (Ev X d 333 (31, [.ref 900000, .ref 0, .ref 70, .ref 95, .int x4, .null, .null], [.int (X.1 (x4 + 1).toNatClampNeg), .ref 0], hS u D J)) := (sy_at X [31] d 333 8 _).trans rfl
set_option maxRecDepth 100000 in
theorem f333_31 {X : XS} {d u : Nat} {D : Nat → Nat → Int32} {J : Nat → Nat → Int64} (x4 : Int32) (y0 : Int32) : Ev X d 333 (31, [.ref 900000, .ref 0, .ref 70, .ref 95, .int x4, .null, .null], [.int y0, .ref 0], hS u D J) =
    gd (ob (x4 + 2) X.2) (Ev X d 333 (36, [.ref 900000, .ref 0, .ref 70, .ref 95, .int x4, .null, .null], [.int (X.1 (x4 + 2).toNatClampNeg), .int y0, .ref 0], hS u D J)) := (sy_at X [36] d 333 7 _).trans rfl
set_option maxRecDepth 100000 in
theorem f333_36 {X : XS} {d u : Nat} {D : Nat → Nat → Int32} {J : Nat → Nat → Int64} (x4 : Int32) (y0 : Int32) (y1 : Int32) : Ev X d 333 (36, [.ref 900000, .ref 0, .ref 70, .ref 95, .int x4, .null, .null], [.int y0, .int y1, .ref 0], hS u D J) =
    gd (ob (x4 + 3) X.2) (Ev X d 333 (41, [.ref 900000, .ref 0, .ref 70, .ref 95, .int x4, .null, .null], [.int (X.1 (x4 + 3).toNatClampNeg), .int y0, .int y1, .ref 0], hS u D J)) := (sy_at X [41] d 333 7 _).trans rfl
set_option maxRecDepth 100000 in
theorem f333_41 {X : XS} {d u : Nat} {D : Nat → Nat → Int32} {J : Nat → Nat → Int64} (x4 : Int32) (y0 : Int32) (y1 : Int32) (y2 : Int32) : Ev X d 333 (41, [.ref 900000, .ref 0, .ref 70, .ref 95, .int x4, .null, .null], [.int y0, .int y1, .int y2, .ref 0], hS u D J) =
    gd (ob (x4 + 4) X.2) (Ev X d 333 (46, [.ref 900000, .ref 0, .ref 70, .ref 95, .int x4, .null, .null], [.int (X.1 (x4 + 4).toNatClampNeg), .int y0, .int y1, .int y2, .ref 0], hS u D J)) := (sy_at X [46] d 333 7 _).trans rfl
set_option maxRecDepth 100000 in
theorem f333_46 {X : XS} {d u : Nat} {D : Nat → Nat → Int32} {J : Nat → Nat → Int64} (x4 : Int32) (y0 : Int32) (y1 : Int32) (y2 : Int32) (y3 : Int32) : Ev X d 333 (46, [.ref 900000, .ref 0, .ref 70, .ref 95, .int x4, .null, .null], [.int y0, .int y1, .int y2, .int y3, .ref 0], hS u D J) =
    gd (ob (x4 + 5) X.2) (Ev X d 333 (51, [.ref 900000, .ref 0, .ref 70, .ref 95, .int x4, .null, .null], [.int (X.1 (x4 + 5).toNatClampNeg), .int y0, .int y1, .int y2, .int y3, .ref 0], hS u D J)) := (sy_at X [51] d 333 7 _).trans rfl
set_option maxRecDepth 100000 in
theorem f333_51 {X : XS} {d u : Nat} {D : Nat → Nat → Int32} {J : Nat → Nat → Int64} (x4 : Int32) (y0 : Int32) (y1 : Int32) (y2 : Int32) (y3 : Int32) (y4 : Int32) : Ev X (d + 1) 333 (51, [.ref 900000, .ref 0, .ref 70, .ref 95, .int x4, .null, .null], [.int y0, .int y1, .int y2, .int y3, .int y4, .ref 0], hS u D J) =
    bI (EvM X d 100 [.ref 0, .int y4, .int y3, .int y2, .int y1, .int y0] (hS u D J)) (fun y h => Ev X (d + 1) 333 (52, [.ref 900000, .ref 0, .ref 70, .ref 95, .int x4, .null, .null], [.int y], h)) (fun e h => some (.inr e, h)) := (sy_at X [52] (d + 1) 333 3 _).trans rfl
set_option maxRecDepth 100000 in
theorem e333_25 {X : XS} {d u : Nat} {D : Nat → Nat → Int32} {J : Nat → Nat → Int64} (x4 : Int32) : Ev X (d + 1) 333 (25, [.ref 900000, .ref 0, .ref 70, .ref 95, .int x4, .null, .null], [], hS u D J) =
    gd (ob (x4 + 1) X.2) (gd (ob (x4 + 2) X.2) (gd (ob (x4 + 3) X.2) (gd (ob (x4 + 4) X.2) (gd (ob (x4 + 5) X.2) (bI (EvM X d 100 [.ref 0, .int (X.1 (x4 + 1).toNatClampNeg), .int (X.1 (x4 + 2).toNatClampNeg), .int (X.1 (x4 + 3).toNatClampNeg), .int (X.1 (x4 + 4).toNatClampNeg), .int (X.1 (x4 + 5).toNatClampNeg)] (hS u D J)) (fun y h => Ev X (d + 1) 333 (52, [.ref 900000, .ref 0, .ref 70, .ref 95, .int x4, .null, .null], [.int y], h)) (fun e h => some (.inr e, h))))))) := by
  refine (f333_25 _).trans ?_
  simp only [f333_31, f333_36, f333_41, f333_46, f333_51]
set_option maxRecDepth 100000 in
theorem f333_52 {X : XS} {d u : Nat} {D : Nat → Nat → Int32} {J : Nat → Nat → Int64} (x4 : Int32) (y0 : Int32) : Ev X d 333 (52, [.ref 900000, .ref 0, .ref 70, .ref 95, .int x4, .null, .null], [.int y0], hS u D J) =
    gd (ob (x4 + 1) X.2) (Ev X d 333 (58, [.ref 900000, .ref 0, .ref 70, .ref 95, .int x4, .null, .null], [.int (X.1 (x4 + 1).toNatClampNeg), .ref 70, .int y0], hS u D J)) := (sy_at X [58] d 333 8 _).trans rfl
set_option maxRecDepth 100000 in
theorem f333_58 {X : XS} {d u : Nat} {D : Nat → Nat → Int32} {J : Nat → Nat → Int64} (x4 : Int32) (y0 : Int32) (y2 : Int32) : Ev X d 333 (58, [.ref 900000, .ref 0, .ref 70, .ref 95, .int x4, .null, .null], [.int y0, .ref 70, .int y2], hS u D J) =
    gd (ob (x4 + 2) X.2) (Ev X d 333 (63, [.ref 900000, .ref 0, .ref 70, .ref 95, .int x4, .null, .null], [.int (X.1 (x4 + 2).toNatClampNeg), .int y0, .ref 70, .int y2], hS u D J)) := (sy_at X [63] d 333 7 _).trans rfl
set_option maxRecDepth 100000 in
theorem f333_63 {X : XS} {d u : Nat} {D : Nat → Nat → Int32} {J : Nat → Nat → Int64} (x4 : Int32) (y0 : Int32) (y1 : Int32) (y3 : Int32) : Ev X d 333 (63, [.ref 900000, .ref 0, .ref 70, .ref 95, .int x4, .null, .null], [.int y0, .int y1, .ref 70, .int y3], hS u D J) =
    gd (ob (x4 + 3) X.2) (Ev X d 333 (68, [.ref 900000, .ref 0, .ref 70, .ref 95, .int x4, .null, .null], [.int (X.1 (x4 + 3).toNatClampNeg), .int y0, .int y1, .ref 70, .int y3], hS u D J)) := (sy_at X [68] d 333 7 _).trans rfl
set_option maxRecDepth 100000 in
theorem f333_68 {X : XS} {d u : Nat} {D : Nat → Nat → Int32} {J : Nat → Nat → Int64} (x4 : Int32) (y0 : Int32) (y1 : Int32) (y2 : Int32) (y4 : Int32) : Ev X d 333 (68, [.ref 900000, .ref 0, .ref 70, .ref 95, .int x4, .null, .null], [.int y0, .int y1, .int y2, .ref 70, .int y4], hS u D J) =
    gd (ob (x4 + 4) X.2) (Ev X d 333 (73, [.ref 900000, .ref 0, .ref 70, .ref 95, .int x4, .null, .null], [.int (X.1 (x4 + 4).toNatClampNeg), .int y0, .int y1, .int y2, .ref 70, .int y4], hS u D J)) := (sy_at X [73] d 333 7 _).trans rfl
set_option maxRecDepth 100000 in
theorem f333_73 {X : XS} {d u : Nat} {D : Nat → Nat → Int32} {J : Nat → Nat → Int64} (x4 : Int32) (y0 : Int32) (y1 : Int32) (y2 : Int32) (y3 : Int32) (y5 : Int32) : Ev X d 333 (73, [.ref 900000, .ref 0, .ref 70, .ref 95, .int x4, .null, .null], [.int y0, .int y1, .int y2, .int y3, .ref 70, .int y5], hS u D J) =
    gd (ob (x4 + 5) X.2) (Ev X d 333 (78, [.ref 900000, .ref 0, .ref 70, .ref 95, .int x4, .null, .null], [.int (X.1 (x4 + 5).toNatClampNeg), .int y0, .int y1, .int y2, .int y3, .ref 70, .int y5], hS u D J)) := (sy_at X [78] d 333 7 _).trans rfl
set_option maxRecDepth 100000 in
theorem f333_78 {X : XS} {d u : Nat} {D : Nat → Nat → Int32} {J : Nat → Nat → Int64} (x4 : Int32) (y0 : Int32) (y1 : Int32) (y2 : Int32) (y3 : Int32) (y4 : Int32) (y6 : Int32) : Ev X (d + 1) 333 (78, [.ref 900000, .ref 0, .ref 70, .ref 95, .int x4, .null, .null], [.int y0, .int y1, .int y2, .int y3, .int y4, .ref 70, .int y6], hS u D J) =
    bI (EvM X d 178 [.ref 70, .int y4, .int y3, .int y2, .int y1, .int y0] (hS u D J)) (fun y h => Ev X (d + 1) 333 (79, [.ref 900000, .ref 0, .ref 70, .ref 95, .int x4, .null, .null], [.int y, .int y6], h)) (fun e h => some (.inr e, h)) := (sy_at X [79] (d + 1) 333 3 _).trans rfl
set_option maxRecDepth 100000 in
theorem e333_52 {X : XS} {d u : Nat} {D : Nat → Nat → Int32} {J : Nat → Nat → Int64} (x4 : Int32) (y0 : Int32) : Ev X (d + 1) 333 (52, [.ref 900000, .ref 0, .ref 70, .ref 95, .int x4, .null, .null], [.int y0], hS u D J) =
    gd (ob (x4 + 1) X.2) (gd (ob (x4 + 2) X.2) (gd (ob (x4 + 3) X.2) (gd (ob (x4 + 4) X.2) (gd (ob (x4 + 5) X.2) (bI (EvM X d 178 [.ref 70, .int (X.1 (x4 + 1).toNatClampNeg), .int (X.1 (x4 + 2).toNatClampNeg), .int (X.1 (x4 + 3).toNatClampNeg), .int (X.1 (x4 + 4).toNatClampNeg), .int (X.1 (x4 + 5).toNatClampNeg)] (hS u D J)) (fun y h => Ev X (d + 1) 333 (79, [.ref 900000, .ref 0, .ref 70, .ref 95, .int x4, .null, .null], [.int y, .int y0], h)) (fun e h => some (.inr e, h))))))) := by
  refine (f333_52 _ _).trans ?_
  simp only [f333_58, f333_63, f333_68, f333_73, f333_78]
set_option maxRecDepth 100000 in
theorem e333_79 {X : XS} {d u : Nat} {D : Nat → Nat → Int32} {J : Nat → Nat → Int64} (x4 : Int32) (y0 : Int32) (y1 : Int32) : Ev X d 333 (79, [.ref 900000, .ref 0, .ref 70, .ref 95, .int x4, .null, .null], [.int y0, .int y1], hS u D J) =
    br (decide (y1 = y0)) (Ev X d 333 (1712, [.ref 900000, .ref 0, .ref 70, .ref 95, .int x4, .null, .null], [], hS u D J)) (some (.inl (some (.int 0)), hS u D J)) := (sy_at X [1712] d 333 5 _).trans rfl
set_option maxRecDepth 100000 in
theorem e333_82 {X : XS} {d u : Nat} {D : Nat → Nat → Int32} {J : Nat → Nat → Int64} (x4 : Int32) : Ev X (d + 1) 333 (82, [.ref 900000, .ref 0, .ref 70, .ref 95, .int x4, .null, .null], [], hS u D J) =
    gd (ob (x4 + 1) X.2) (bI (EvM X d 295 [.ref 0, .int (X.1 (x4 + 1).toNatClampNeg), .ref 95] (hS u D J)) (fun y h => Ev X (d + 1) 333 (90, [.ref 900000, .ref 0, .ref 70, .ref 95, .int x4, .null, .null], [.int y], h)) (fun e h => none)) := (sy_at X [90] (d + 1) 333 10 _).trans rfl
set_option maxRecDepth 100000 in
theorem e333_90 {X : XS} {d u : Nat} {D : Nat → Nat → Int32} {J : Nat → Nat → Int64} (x4 : Int32) (y0 : Int32) : Ev X d 333 (90, [.ref 900000, .ref 0, .ref 70, .ref 95, .int x4, .null, .null], [.int y0], hS u D J) =
    Ev X d 333 (91, [.ref 900000, .ref 0, .ref 70, .ref 95, .int x4, .int y0, .null], [], hS u D J) := (sy_at X [91] d 333 3 _).trans rfl
set_option maxRecDepth 100000 in
theorem e333_91 {X : XS} {d u : Nat} {D : Nat → Nat → Int32} {J : Nat → Nat → Int64} (x4 : Int32) (x5 : Int32) : Ev X (d + 1) 333 (91, [.ref 900000, .ref 0, .ref 70, .ref 95, .int x4, .int x5, .null], [], hS u D J) =
    gd (ob (x4 + 1) X.2) (bI (EvM X d 206 [.ref 70, .int (X.1 (x4 + 1).toNatClampNeg)] (hS u D J)) (fun y h => Ev X (d + 1) 333 (98, [.ref 900000, .ref 0, .ref 70, .ref 95, .int x4, .int x5, .null], [.int y], h)) (fun e h => some (.inr e, h))) := (sy_at X [98] (d + 1) 333 9 _).trans rfl
set_option maxRecDepth 100000 in
theorem e333_98 {X : XS} {d u : Nat} {D : Nat → Nat → Int32} {J : Nat → Nat → Int64} (x4 : Int32) (x5 : Int32) (y0 : Int32) : Ev X d 333 (98, [.ref 900000, .ref 0, .ref 70, .ref 95, .int x4, .int x5, .null], [.int y0], hS u D J) =
    Ev X d 333 (99, [.ref 900000, .ref 0, .ref 70, .ref 95, .int x4, .int x5, .int y0], [], hS u D J) := (sy_at X [99] d 333 3 _).trans rfl
set_option maxRecDepth 100000 in
theorem e333_99 {X : XS} {d u : Nat} {D : Nat → Nat → Int32} {J : Nat → Nat → Int64} (x4 : Int32) (x5 : Int32) (x6 : Int32) : Ev X (d + 1) 333 (99, [.ref 900000, .ref 0, .ref 70, .ref 95, .int x4, .int x5, .int x6], [], hS u D J) =
    bI (EvM X d 171 [.ref 70] (hS u D J)) (fun y h => Ev X (d + 1) 333 (101, [.ref 900000, .ref 0, .ref 70, .ref 95, .int x4, .int x5, .int x6], [.int y], h)) (fun e h => some (.inr e, h)) := (sy_at X [101] (d + 1) 333 4 _).trans rfl
set_option maxRecDepth 100000 in
theorem e333_101 {X : XS} {d u : Nat} {D : Nat → Nat → Int32} {J : Nat → Nat → Int64} (x4 : Int32) (x5 : Int32) (x6 : Int32) (y0 : Int32) : Ev X d 333 (101, [.ref 900000, .ref 0, .ref 70, .ref 95, .int x4, .int x5, .int x6], [.int y0], hS u D J) =
    br (decide (y0 = x5)) (br (decide (¬ x5 = 0)) (Ev X d 333 (1712, [.ref 900000, .ref 0, .ref 70, .ref 95, .int x4, .int x5, .int x6], [], hS u D J)) (br (decide ((lg_cmp (J 95 0) (Int32.toInt64 x6)) = 0)) (Ev X d 333 (1712, [.ref 900000, .ref 0, .ref 70, .ref 95, .int x4, .int x5, .int x6], [], hS u D J)) (some (.inl (some (.int 0)), hS u D J)))) (some (.inl (some (.int 0)), hS u D J)) := (sy_at X [1712] d 333 15 _).trans rfl
set_option maxRecDepth 100000 in
theorem e333_117 {X : XS} {d u : Nat} {D : Nat → Nat → Int32} {J : Nat → Nat → Int64} (x4 : Int32) : Ev X (d + 1) 333 (117, [.ref 900000, .ref 0, .ref 70, .ref 95, .int x4, .null, .null], [], hS u D J) =
    bI (EvM X d 104 [.ref 0] (hS u D J)) (fun y h => Ev X (d + 1) 333 (119, [.ref 900000, .ref 0, .ref 70, .ref 95, .int x4, .null, .null], [.int y], h)) (fun e h => some (.inr e, h)) := (sy_at X [119] (d + 1) 333 4 _).trans rfl
set_option maxRecDepth 100000 in
theorem e333_119 {X : XS} {d u : Nat} {D : Nat → Nat → Int32} {J : Nat → Nat → Int64} (x4 : Int32) (y0 : Int32) : Ev X (d + 1) 333 (119, [.ref 900000, .ref 0, .ref 70, .ref 95, .int x4, .null, .null], [.int y0], hS u D J) =
    bI (EvM X d 207 [.ref 70] (hS u D J)) (fun y h => Ev X (d + 1) 333 (121, [.ref 900000, .ref 0, .ref 70, .ref 95, .int x4, .null, .null], [.int y, .int y0], h)) (fun e h => some (.inr e, h)) := (sy_at X [121] (d + 1) 333 4 _).trans rfl
set_option maxRecDepth 100000 in
theorem e333_121 {X : XS} {d u : Nat} {D : Nat → Nat → Int32} {J : Nat → Nat → Int64} (x4 : Int32) (y0 : Int32) (y1 : Int32) : Ev X d 333 (121, [.ref 900000, .ref 0, .ref 70, .ref 95, .int x4, .null, .null], [.int y0, .int y1], hS u D J) =
    br (decide (y1 = y0)) (Ev X d 333 (1712, [.ref 900000, .ref 0, .ref 70, .ref 95, .int x4, .null, .null], [], hS u D J)) (some (.inl (some (.int 0)), hS u D J)) := (sy_at X [1712] d 333 5 _).trans rfl
set_option maxRecDepth 100000 in
theorem e333_124 {X : XS} {d u : Nat} {D : Nat → Nat → Int32} {J : Nat → Nat → Int64} (x4 : Int32) : Ev X (d + 1) 333 (124, [.ref 900000, .ref 0, .ref 70, .ref 95, .int x4, .null, .null], [], hS u D J) =
    gd (ob (x4 + 1) X.2) (bI (EvM X d 296 [.ref 0, .int (X.1 (x4 + 1).toNatClampNeg), .ref 95] (hS u D J)) (fun y h => Ev X (d + 1) 333 (132, [.ref 900000, .ref 0, .ref 70, .ref 95, .int x4, .null, .null], [.int y], h)) (fun e h => none)) := (sy_at X [132] (d + 1) 333 10 _).trans rfl
set_option maxRecDepth 100000 in
theorem e333_132 {X : XS} {d u : Nat} {D : Nat → Nat → Int32} {J : Nat → Nat → Int64} (x4 : Int32) (y0 : Int32) : Ev X d 333 (132, [.ref 900000, .ref 0, .ref 70, .ref 95, .int x4, .null, .null], [.int y0], hS u D J) =
    Ev X d 333 (133, [.ref 900000, .ref 0, .ref 70, .ref 95, .int x4, .int y0, .null], [], hS u D J) := (sy_at X [133] d 333 3 _).trans rfl
set_option maxRecDepth 100000 in
theorem e333_133 {X : XS} {d u : Nat} {D : Nat → Nat → Int32} {J : Nat → Nat → Int64} (x4 : Int32) (x5 : Int32) : Ev X (d + 1) 333 (133, [.ref 900000, .ref 0, .ref 70, .ref 95, .int x4, .int x5, .null], [], hS u D J) =
    gd (ob (x4 + 1) X.2) (bI (EvM X d 233 [.ref 70, .int (X.1 (x4 + 1).toNatClampNeg)] (hS u D J)) (fun y h => Ev X (d + 1) 333 (140, [.ref 900000, .ref 0, .ref 70, .ref 95, .int x4, .int x5, .null], [.int y], h)) (fun e h => some (.inr e, h))) := (sy_at X [140] (d + 1) 333 9 _).trans rfl
set_option maxRecDepth 100000 in
theorem e333_140 {X : XS} {d u : Nat} {D : Nat → Nat → Int32} {J : Nat → Nat → Int64} (x4 : Int32) (x5 : Int32) (y0 : Int32) : Ev X d 333 (140, [.ref 900000, .ref 0, .ref 70, .ref 95, .int x4, .int x5, .null], [.int y0], hS u D J) =
    Ev X d 333 (141, [.ref 900000, .ref 0, .ref 70, .ref 95, .int x4, .int x5, .int y0], [], hS u D J) := (sy_at X [141] d 333 3 _).trans rfl
set_option maxRecDepth 100000 in
theorem e333_141 {X : XS} {d u : Nat} {D : Nat → Nat → Int32} {J : Nat → Nat → Int64} (x4 : Int32) (x5 : Int32) (x6 : Int32) : Ev X (d + 1) 333 (141, [.ref 900000, .ref 0, .ref 70, .ref 95, .int x4, .int x5, .int x6], [], hS u D J) =
    bI (EvM X d 171 [.ref 70] (hS u D J)) (fun y h => Ev X (d + 1) 333 (143, [.ref 900000, .ref 0, .ref 70, .ref 95, .int x4, .int x5, .int x6], [.int y], h)) (fun e h => some (.inr e, h)) := (sy_at X [143] (d + 1) 333 4 _).trans rfl
set_option maxRecDepth 100000 in
theorem e333_143 {X : XS} {d u : Nat} {D : Nat → Nat → Int32} {J : Nat → Nat → Int64} (x4 : Int32) (x5 : Int32) (x6 : Int32) (y0 : Int32) : Ev X d 333 (143, [.ref 900000, .ref 0, .ref 70, .ref 95, .int x4, .int x5, .int x6], [.int y0], hS u D J) =
    br (decide (y0 = x5)) (br (decide (¬ x5 = 0)) (Ev X d 333 (1712, [.ref 900000, .ref 0, .ref 70, .ref 95, .int x4, .int x5, .int x6], [], hS u D J)) (br (decide ((lg_cmp (J 95 0) (Int32.toInt64 x6)) = 0)) (Ev X d 333 (1712, [.ref 900000, .ref 0, .ref 70, .ref 95, .int x4, .int x5, .int x6], [], hS u D J)) (some (.inl (some (.int 0)), hS u D J)))) (some (.inl (some (.int 0)), hS u D J)) := (sy_at X [1712] d 333 15 _).trans rfl
set_option maxRecDepth 100000 in
theorem f333_159 {X : XS} {d u : Nat} {D : Nat → Nat → Int32} {J : Nat → Nat → Int64} (x4 : Int32) : Ev X d 333 (159, [.ref 900000, .ref 0, .ref 70, .ref 95, .int x4, .null, .null], [], hS u D J) =
    gd (ob (x4 + 1) X.2) (Ev X d 333 (165, [.ref 900000, .ref 0, .ref 70, .ref 95, .int x4, .null, .null], [.int (X.1 (x4 + 1).toNatClampNeg), .ref 0], hS u D J)) := (sy_at X [165] d 333 8 _).trans rfl
set_option maxRecDepth 100000 in
theorem f333_165 {X : XS} {d u : Nat} {D : Nat → Nat → Int32} {J : Nat → Nat → Int64} (x4 : Int32) (y0 : Int32) : Ev X d 333 (165, [.ref 900000, .ref 0, .ref 70, .ref 95, .int x4, .null, .null], [.int y0, .ref 0], hS u D J) =
    gd (ob (x4 + 2) X.2) (Ev X d 333 (170, [.ref 900000, .ref 0, .ref 70, .ref 95, .int x4, .null, .null], [.int (X.1 (x4 + 2).toNatClampNeg), .int y0, .ref 0], hS u D J)) := (sy_at X [170] d 333 7 _).trans rfl
set_option maxRecDepth 100000 in
theorem f333_170 {X : XS} {d u : Nat} {D : Nat → Nat → Int32} {J : Nat → Nat → Int64} (x4 : Int32) (y0 : Int32) (y1 : Int32) : Ev X (d + 1) 333 (170, [.ref 900000, .ref 0, .ref 70, .ref 95, .int x4, .null, .null], [.int y0, .int y1, .ref 0], hS u D J) =
    bI (EvM X d 297 [.ref 0, .int y1, .int y0, .ref 95] (hS u D J)) (fun y h => Ev X (d + 1) 333 (172, [.ref 900000, .ref 0, .ref 70, .ref 95, .int x4, .null, .null], [.int y], h)) (fun e h => none) := (sy_at X [172] (d + 1) 333 4 _).trans rfl
set_option maxRecDepth 100000 in
theorem e333_159 {X : XS} {d u : Nat} {D : Nat → Nat → Int32} {J : Nat → Nat → Int64} (x4 : Int32) : Ev X (d + 1) 333 (159, [.ref 900000, .ref 0, .ref 70, .ref 95, .int x4, .null, .null], [], hS u D J) =
    gd (ob (x4 + 1) X.2) (gd (ob (x4 + 2) X.2) (bI (EvM X d 297 [.ref 0, .int (X.1 (x4 + 1).toNatClampNeg), .int (X.1 (x4 + 2).toNatClampNeg), .ref 95] (hS u D J)) (fun y h => Ev X (d + 1) 333 (172, [.ref 900000, .ref 0, .ref 70, .ref 95, .int x4, .null, .null], [.int y], h)) (fun e h => none))) := by
  refine (f333_159 _).trans ?_
  simp only [f333_165, f333_170]
set_option maxRecDepth 100000 in
theorem e333_172 {X : XS} {d u : Nat} {D : Nat → Nat → Int32} {J : Nat → Nat → Int64} (x4 : Int32) (y0 : Int32) : Ev X d 333 (172, [.ref 900000, .ref 0, .ref 70, .ref 95, .int x4, .null, .null], [.int y0], hS u D J) =
    Ev X d 333 (173, [.ref 900000, .ref 0, .ref 70, .ref 95, .int x4, .int y0, .null], [], hS u D J) := (sy_at X [173] d 333 3 _).trans rfl
set_option maxRecDepth 100000 in
theorem f333_173 {X : XS} {d u : Nat} {D : Nat → Nat → Int32} {J : Nat → Nat → Int64} (x4 : Int32) (x5 : Int32) : Ev X d 333 (173, [.ref 900000, .ref 0, .ref 70, .ref 95, .int x4, .int x5, .null], [], hS u D J) =
    gd (ob (x4 + 1) X.2) (Ev X d 333 (179, [.ref 900000, .ref 0, .ref 70, .ref 95, .int x4, .int x5, .null], [.int (X.1 (x4 + 1).toNatClampNeg), .ref 70], hS u D J)) := (sy_at X [179] d 333 8 _).trans rfl
set_option maxRecDepth 100000 in
theorem f333_179 {X : XS} {d u : Nat} {D : Nat → Nat → Int32} {J : Nat → Nat → Int64} (x4 : Int32) (x5 : Int32) (y0 : Int32) : Ev X d 333 (179, [.ref 900000, .ref 0, .ref 70, .ref 95, .int x4, .int x5, .null], [.int y0, .ref 70], hS u D J) =
    gd (ob (x4 + 2) X.2) (Ev X d 333 (184, [.ref 900000, .ref 0, .ref 70, .ref 95, .int x4, .int x5, .null], [.int (X.1 (x4 + 2).toNatClampNeg), .int y0, .ref 70], hS u D J)) := (sy_at X [184] d 333 7 _).trans rfl
set_option maxRecDepth 100000 in
theorem f333_184 {X : XS} {d u : Nat} {D : Nat → Nat → Int32} {J : Nat → Nat → Int64} (x4 : Int32) (x5 : Int32) (y0 : Int32) (y1 : Int32) : Ev X (d + 1) 333 (184, [.ref 900000, .ref 0, .ref 70, .ref 95, .int x4, .int x5, .null], [.int y0, .int y1, .ref 70], hS u D J) =
    bI (EvM X d 237 [.ref 70, .int y1, .int y0] (hS u D J)) (fun y h => Ev X (d + 1) 333 (185, [.ref 900000, .ref 0, .ref 70, .ref 95, .int x4, .int x5, .null], [.int y], h)) (fun e h => some (.inr e, h)) := (sy_at X [185] (d + 1) 333 3 _).trans rfl
set_option maxRecDepth 100000 in
theorem e333_173 {X : XS} {d u : Nat} {D : Nat → Nat → Int32} {J : Nat → Nat → Int64} (x4 : Int32) (x5 : Int32) : Ev X (d + 1) 333 (173, [.ref 900000, .ref 0, .ref 70, .ref 95, .int x4, .int x5, .null], [], hS u D J) =
    gd (ob (x4 + 1) X.2) (gd (ob (x4 + 2) X.2) (bI (EvM X d 237 [.ref 70, .int (X.1 (x4 + 1).toNatClampNeg), .int (X.1 (x4 + 2).toNatClampNeg)] (hS u D J)) (fun y h => Ev X (d + 1) 333 (185, [.ref 900000, .ref 0, .ref 70, .ref 95, .int x4, .int x5, .null], [.int y], h)) (fun e h => some (.inr e, h)))) := by
  refine (f333_173 _ _).trans ?_
  simp only [f333_179, f333_184]
set_option maxRecDepth 100000 in
theorem e333_185 {X : XS} {d u : Nat} {D : Nat → Nat → Int32} {J : Nat → Nat → Int64} (x4 : Int32) (x5 : Int32) (y0 : Int32) : Ev X d 333 (185, [.ref 900000, .ref 0, .ref 70, .ref 95, .int x4, .int x5, .null], [.int y0], hS u D J) =
    Ev X d 333 (186, [.ref 900000, .ref 0, .ref 70, .ref 95, .int x4, .int x5, .int y0], [], hS u D J) := (sy_at X [186] d 333 3 _).trans rfl
set_option maxRecDepth 100000 in
theorem e333_186 {X : XS} {d u : Nat} {D : Nat → Nat → Int32} {J : Nat → Nat → Int64} (x4 : Int32) (x5 : Int32) (x6 : Int32) : Ev X (d + 1) 333 (186, [.ref 900000, .ref 0, .ref 70, .ref 95, .int x4, .int x5, .int x6], [], hS u D J) =
    bI (EvM X d 171 [.ref 70] (hS u D J)) (fun y h => Ev X (d + 1) 333 (188, [.ref 900000, .ref 0, .ref 70, .ref 95, .int x4, .int x5, .int x6], [.int y], h)) (fun e h => some (.inr e, h)) := (sy_at X [188] (d + 1) 333 4 _).trans rfl
set_option maxRecDepth 100000 in
theorem e333_188 {X : XS} {d u : Nat} {D : Nat → Nat → Int32} {J : Nat → Nat → Int64} (x4 : Int32) (x5 : Int32) (x6 : Int32) (y0 : Int32) : Ev X d 333 (188, [.ref 900000, .ref 0, .ref 70, .ref 95, .int x4, .int x5, .int x6], [.int y0], hS u D J) =
    br (decide (y0 = x5)) (br (decide (¬ x5 = 0)) (Ev X d 333 (1712, [.ref 900000, .ref 0, .ref 70, .ref 95, .int x4, .int x5, .int x6], [], hS u D J)) (br (decide ((lg_cmp (J 95 0) (Int32.toInt64 x6)) = 0)) (Ev X d 333 (1712, [.ref 900000, .ref 0, .ref 70, .ref 95, .int x4, .int x5, .int x6], [], hS u D J)) (some (.inl (some (.int 0)), hS u D J)))) (some (.inl (some (.int 0)), hS u D J)) := (sy_at X [1712] d 333 15 _).trans rfl
set_option maxRecDepth 100000 in
theorem f333_204 {X : XS} {d u : Nat} {D : Nat → Nat → Int32} {J : Nat → Nat → Int64} (x4 : Int32) : Ev X d 333 (204, [.ref 900000, .ref 0, .ref 70, .ref 95, .int x4, .null, .null], [], hS u D J) =
    gd (ob (x4 + 1) X.2) (Ev X d 333 (210, [.ref 900000, .ref 0, .ref 70, .ref 95, .int x4, .null, .null], [.int (X.1 (x4 + 1).toNatClampNeg), .ref 0], hS u D J)) := (sy_at X [210] d 333 8 _).trans rfl
set_option maxRecDepth 100000 in
theorem f333_210 {X : XS} {d u : Nat} {D : Nat → Nat → Int32} {J : Nat → Nat → Int64} (x4 : Int32) (y0 : Int32) : Ev X d 333 (210, [.ref 900000, .ref 0, .ref 70, .ref 95, .int x4, .null, .null], [.int y0, .ref 0], hS u D J) =
    gd (ob (x4 + 2) X.2) (Ev X d 333 (215, [.ref 900000, .ref 0, .ref 70, .ref 95, .int x4, .null, .null], [.int (X.1 (x4 + 2).toNatClampNeg), .int y0, .ref 0], hS u D J)) := (sy_at X [215] d 333 7 _).trans rfl
set_option maxRecDepth 100000 in
theorem f333_215 {X : XS} {d u : Nat} {D : Nat → Nat → Int32} {J : Nat → Nat → Int64} (x4 : Int32) (y0 : Int32) (y1 : Int32) : Ev X (d + 1) 333 (215, [.ref 900000, .ref 0, .ref 70, .ref 95, .int x4, .null, .null], [.int y0, .int y1, .ref 0], hS u D J) =
    bI (EvM X d 298 [.ref 0, .int y1, .int y0, .ref 95] (hS u D J)) (fun y h => Ev X (d + 1) 333 (217, [.ref 900000, .ref 0, .ref 70, .ref 95, .int x4, .null, .null], [.int y], h)) (fun e h => none) := (sy_at X [217] (d + 1) 333 4 _).trans rfl
set_option maxRecDepth 100000 in
theorem e333_204 {X : XS} {d u : Nat} {D : Nat → Nat → Int32} {J : Nat → Nat → Int64} (x4 : Int32) : Ev X (d + 1) 333 (204, [.ref 900000, .ref 0, .ref 70, .ref 95, .int x4, .null, .null], [], hS u D J) =
    gd (ob (x4 + 1) X.2) (gd (ob (x4 + 2) X.2) (bI (EvM X d 298 [.ref 0, .int (X.1 (x4 + 1).toNatClampNeg), .int (X.1 (x4 + 2).toNatClampNeg), .ref 95] (hS u D J)) (fun y h => Ev X (d + 1) 333 (217, [.ref 900000, .ref 0, .ref 70, .ref 95, .int x4, .null, .null], [.int y], h)) (fun e h => none))) := by
  refine (f333_204 _).trans ?_
  simp only [f333_210, f333_215]
set_option maxRecDepth 100000 in
theorem e333_217 {X : XS} {d u : Nat} {D : Nat → Nat → Int32} {J : Nat → Nat → Int64} (x4 : Int32) (y0 : Int32) : Ev X d 333 (217, [.ref 900000, .ref 0, .ref 70, .ref 95, .int x4, .null, .null], [.int y0], hS u D J) =
    Ev X d 333 (218, [.ref 900000, .ref 0, .ref 70, .ref 95, .int x4, .int y0, .null], [], hS u D J) := (sy_at X [218] d 333 3 _).trans rfl
set_option maxRecDepth 100000 in
theorem f333_218 {X : XS} {d u : Nat} {D : Nat → Nat → Int32} {J : Nat → Nat → Int64} (x4 : Int32) (x5 : Int32) : Ev X d 333 (218, [.ref 900000, .ref 0, .ref 70, .ref 95, .int x4, .int x5, .null], [], hS u D J) =
    gd (ob (x4 + 1) X.2) (Ev X d 333 (224, [.ref 900000, .ref 0, .ref 70, .ref 95, .int x4, .int x5, .null], [.int (X.1 (x4 + 1).toNatClampNeg), .ref 70], hS u D J)) := (sy_at X [224] d 333 8 _).trans rfl
set_option maxRecDepth 100000 in
theorem f333_224 {X : XS} {d u : Nat} {D : Nat → Nat → Int32} {J : Nat → Nat → Int64} (x4 : Int32) (x5 : Int32) (y0 : Int32) : Ev X d 333 (224, [.ref 900000, .ref 0, .ref 70, .ref 95, .int x4, .int x5, .null], [.int y0, .ref 70], hS u D J) =
    gd (ob (x4 + 2) X.2) (Ev X d 333 (229, [.ref 900000, .ref 0, .ref 70, .ref 95, .int x4, .int x5, .null], [.int (X.1 (x4 + 2).toNatClampNeg), .int y0, .ref 70], hS u D J)) := (sy_at X [229] d 333 7 _).trans rfl
set_option maxRecDepth 100000 in
theorem f333_229 {X : XS} {d u : Nat} {D : Nat → Nat → Int32} {J : Nat → Nat → Int64} (x4 : Int32) (x5 : Int32) (y0 : Int32) (y1 : Int32) : Ev X (d + 1) 333 (229, [.ref 900000, .ref 0, .ref 70, .ref 95, .int x4, .int x5, .null], [.int y0, .int y1, .ref 70], hS u D J) =
    bI (EvM X d 238 [.ref 70, .int y1, .int y0] (hS u D J)) (fun y h => Ev X (d + 1) 333 (230, [.ref 900000, .ref 0, .ref 70, .ref 95, .int x4, .int x5, .null], [.int y], h)) (fun e h => some (.inr e, h)) := (sy_at X [230] (d + 1) 333 3 _).trans rfl
set_option maxRecDepth 100000 in
theorem e333_218 {X : XS} {d u : Nat} {D : Nat → Nat → Int32} {J : Nat → Nat → Int64} (x4 : Int32) (x5 : Int32) : Ev X (d + 1) 333 (218, [.ref 900000, .ref 0, .ref 70, .ref 95, .int x4, .int x5, .null], [], hS u D J) =
    gd (ob (x4 + 1) X.2) (gd (ob (x4 + 2) X.2) (bI (EvM X d 238 [.ref 70, .int (X.1 (x4 + 1).toNatClampNeg), .int (X.1 (x4 + 2).toNatClampNeg)] (hS u D J)) (fun y h => Ev X (d + 1) 333 (230, [.ref 900000, .ref 0, .ref 70, .ref 95, .int x4, .int x5, .null], [.int y], h)) (fun e h => some (.inr e, h)))) := by
  refine (f333_218 _ _).trans ?_
  simp only [f333_224, f333_229]
set_option maxRecDepth 100000 in
theorem e333_230 {X : XS} {d u : Nat} {D : Nat → Nat → Int32} {J : Nat → Nat → Int64} (x4 : Int32) (x5 : Int32) (y0 : Int32) : Ev X d 333 (230, [.ref 900000, .ref 0, .ref 70, .ref 95, .int x4, .int x5, .null], [.int y0], hS u D J) =
    Ev X d 333 (231, [.ref 900000, .ref 0, .ref 70, .ref 95, .int x4, .int x5, .int y0], [], hS u D J) := (sy_at X [231] d 333 3 _).trans rfl
set_option maxRecDepth 100000 in
theorem e333_231 {X : XS} {d u : Nat} {D : Nat → Nat → Int32} {J : Nat → Nat → Int64} (x4 : Int32) (x5 : Int32) (x6 : Int32) : Ev X (d + 1) 333 (231, [.ref 900000, .ref 0, .ref 70, .ref 95, .int x4, .int x5, .int x6], [], hS u D J) =
    bI (EvM X d 171 [.ref 70] (hS u D J)) (fun y h => Ev X (d + 1) 333 (233, [.ref 900000, .ref 0, .ref 70, .ref 95, .int x4, .int x5, .int x6], [.int y], h)) (fun e h => some (.inr e, h)) := (sy_at X [233] (d + 1) 333 4 _).trans rfl
set_option maxRecDepth 100000 in
theorem e333_233 {X : XS} {d u : Nat} {D : Nat → Nat → Int32} {J : Nat → Nat → Int64} (x4 : Int32) (x5 : Int32) (x6 : Int32) (y0 : Int32) : Ev X d 333 (233, [.ref 900000, .ref 0, .ref 70, .ref 95, .int x4, .int x5, .int x6], [.int y0], hS u D J) =
    br (decide (y0 = x5)) (br (decide (¬ x5 = 0)) (Ev X d 333 (1712, [.ref 900000, .ref 0, .ref 70, .ref 95, .int x4, .int x5, .int x6], [], hS u D J)) (br (decide ((lg_cmp (J 95 0) (Int32.toInt64 x6)) = 0)) (Ev X d 333 (1712, [.ref 900000, .ref 0, .ref 70, .ref 95, .int x4, .int x5, .int x6], [], hS u D J)) (some (.inl (some (.int 0)), hS u D J)))) (some (.inl (some (.int 0)), hS u D J)) := (sy_at X [1712] d 333 15 _).trans rfl
set_option maxRecDepth 100000 in
theorem e333_249 {X : XS} {d u : Nat} {D : Nat → Nat → Int32} {J : Nat → Nat → Int64} (x4 : Int32) : Ev X (d + 1) 333 (249, [.ref 900000, .ref 0, .ref 70, .ref 95, .int x4, .null, .null], [], hS u D J) =
    gd (ob (x4 + 1) X.2) (bI (EvM X d 110 [.ref 0, .int (X.1 (x4 + 1).toNatClampNeg)] (hS u D J)) (fun y h => Ev X (d + 1) 333 (256, [.ref 900000, .ref 0, .ref 70, .ref 95, .int x4, .null, .null], [.int y], h)) (fun e h => some (.inr e, h))) := (sy_at X [256] (d + 1) 333 9 _).trans rfl
set_option maxRecDepth 100000 in
theorem e333_256 {X : XS} {d u : Nat} {D : Nat → Nat → Int32} {J : Nat → Nat → Int64} (x4 : Int32) (y0 : Int32) : Ev X (d + 1) 333 (256, [.ref 900000, .ref 0, .ref 70, .ref 95, .int x4, .null, .null], [.int y0], hS u D J) =
    gd (ob (x4 + 1) X.2) (bI (EvM X d 239 [.ref 70, .int (X.1 (x4 + 1).toNatClampNeg)] (hS u D J)) (fun y h => Ev X (d + 1) 333 (263, [.ref 900000, .ref 0, .ref 70, .ref 95, .int x4, .null, .null], [.int y, .int y0], h)) (fun e h => some (.inr e, h))) := (sy_at X [263] (d + 1) 333 9 _).trans rfl
set_option maxRecDepth 100000 in
theorem e333_263 {X : XS} {d u : Nat} {D : Nat → Nat → Int32} {J : Nat → Nat → Int64} (x4 : Int32) (y0 : Int32) (y1 : Int32) : Ev X d 333 (263, [.ref 900000, .ref 0, .ref 70, .ref 95, .int x4, .null, .null], [.int y0, .int y1], hS u D J) =
    br (decide (y1 = y0)) (Ev X d 333 (1712, [.ref 900000, .ref 0, .ref 70, .ref 95, .int x4, .null, .null], [], hS u D J)) (some (.inl (some (.int 0)), hS u D J)) := (sy_at X [1712] d 333 5 _).trans rfl
set_option maxRecDepth 100000 in
theorem e333_266 {X : XS} {d u : Nat} {D : Nat → Nat → Int32} {J : Nat → Nat → Int64} (x4 : Int32) : Ev X (d + 1) 333 (266, [.ref 900000, .ref 0, .ref 70, .ref 95, .int x4, .null, .null], [], hS u D J) =
    gd (ob (x4 + 1) X.2) (bI (EvM X d 299 [.ref 0, .int (X.1 (x4 + 1).toNatClampNeg), .ref 95] (hS u D J)) (fun y h => Ev X (d + 1) 333 (274, [.ref 900000, .ref 0, .ref 70, .ref 95, .int x4, .null, .null], [.int y], h)) (fun e h => none)) := (sy_at X [274] (d + 1) 333 10 _).trans rfl
set_option maxRecDepth 100000 in
theorem e333_274 {X : XS} {d u : Nat} {D : Nat → Nat → Int32} {J : Nat → Nat → Int64} (x4 : Int32) (y0 : Int32) : Ev X d 333 (274, [.ref 900000, .ref 0, .ref 70, .ref 95, .int x4, .null, .null], [.int y0], hS u D J) =
    Ev X d 333 (275, [.ref 900000, .ref 0, .ref 70, .ref 95, .int x4, .int y0, .null], [], hS u D J) := (sy_at X [275] d 333 3 _).trans rfl
set_option maxRecDepth 100000 in
theorem e333_275 {X : XS} {d u : Nat} {D : Nat → Nat → Int32} {J : Nat → Nat → Int64} (x4 : Int32) (x5 : Int32) : Ev X (d + 1) 333 (275, [.ref 900000, .ref 0, .ref 70, .ref 95, .int x4, .int x5, .null], [], hS u D J) =
    gd (ob (x4 + 1) X.2) (bI (EvM X d 240 [.ref 70, .int (X.1 (x4 + 1).toNatClampNeg)] (hS u D J)) (fun y h => Ev X (d + 1) 333 (282, [.ref 900000, .ref 0, .ref 70, .ref 95, .int x4, .int x5, .null], [.int y], h)) (fun e h => some (.inr e, h))) := (sy_at X [282] (d + 1) 333 9 _).trans rfl
set_option maxRecDepth 100000 in
theorem e333_282 {X : XS} {d u : Nat} {D : Nat → Nat → Int32} {J : Nat → Nat → Int64} (x4 : Int32) (x5 : Int32) (y0 : Int32) : Ev X d 333 (282, [.ref 900000, .ref 0, .ref 70, .ref 95, .int x4, .int x5, .null], [.int y0], hS u D J) =
    Ev X d 333 (283, [.ref 900000, .ref 0, .ref 70, .ref 95, .int x4, .int x5, .int y0], [], hS u D J) := (sy_at X [283] d 333 3 _).trans rfl
set_option maxRecDepth 100000 in
theorem e333_283 {X : XS} {d u : Nat} {D : Nat → Nat → Int32} {J : Nat → Nat → Int64} (x4 : Int32) (x5 : Int32) (x6 : Int32) : Ev X (d + 1) 333 (283, [.ref 900000, .ref 0, .ref 70, .ref 95, .int x4, .int x5, .int x6], [], hS u D J) =
    bI (EvM X d 171 [.ref 70] (hS u D J)) (fun y h => Ev X (d + 1) 333 (285, [.ref 900000, .ref 0, .ref 70, .ref 95, .int x4, .int x5, .int x6], [.int y], h)) (fun e h => some (.inr e, h)) := (sy_at X [285] (d + 1) 333 4 _).trans rfl
set_option maxRecDepth 100000 in
theorem e333_285 {X : XS} {d u : Nat} {D : Nat → Nat → Int32} {J : Nat → Nat → Int64} (x4 : Int32) (x5 : Int32) (x6 : Int32) (y0 : Int32) : Ev X d 333 (285, [.ref 900000, .ref 0, .ref 70, .ref 95, .int x4, .int x5, .int x6], [.int y0], hS u D J) =
    br (decide (y0 = x5)) (br (decide (¬ x5 = 0)) (Ev X d 333 (1712, [.ref 900000, .ref 0, .ref 70, .ref 95, .int x4, .int x5, .int x6], [], hS u D J)) (br (decide ((lg_cmp (J 95 0) (Int32.toInt64 x6)) = 0)) (Ev X d 333 (1712, [.ref 900000, .ref 0, .ref 70, .ref 95, .int x4, .int x5, .int x6], [], hS u D J)) (some (.inl (some (.int 0)), hS u D J)))) (some (.inl (some (.int 0)), hS u D J)) := (sy_at X [1712] d 333 15 _).trans rfl
set_option maxRecDepth 100000 in
theorem e333_301 {X : XS} {d u : Nat} {D : Nat → Nat → Int32} {J : Nat → Nat → Int64} (x4 : Int32) : Ev X (d + 1) 333 (301, [.ref 900000, .ref 0, .ref 70, .ref 95, .int x4, .null, .null], [], hS u D J) =
    gd (ob (x4 + 1) X.2) (bI (EvM X d 300 [.ref 0, .int (X.1 (x4 + 1).toNatClampNeg), .ref 95] (hS u D J)) (fun y h => Ev X (d + 1) 333 (309, [.ref 900000, .ref 0, .ref 70, .ref 95, .int x4, .null, .null], [.int y], h)) (fun e h => none)) := (sy_at X [309] (d + 1) 333 10 _).trans rfl
set_option maxRecDepth 100000 in
theorem e333_309 {X : XS} {d u : Nat} {D : Nat → Nat → Int32} {J : Nat → Nat → Int64} (x4 : Int32) (y0 : Int32) : Ev X d 333 (309, [.ref 900000, .ref 0, .ref 70, .ref 95, .int x4, .null, .null], [.int y0], hS u D J) =
    Ev X d 333 (310, [.ref 900000, .ref 0, .ref 70, .ref 95, .int x4, .int y0, .null], [], hS u D J) := (sy_at X [310] d 333 3 _).trans rfl
set_option maxRecDepth 100000 in
theorem e333_310 {X : XS} {d u : Nat} {D : Nat → Nat → Int32} {J : Nat → Nat → Int64} (x4 : Int32) (x5 : Int32) : Ev X (d + 1) 333 (310, [.ref 900000, .ref 0, .ref 70, .ref 95, .int x4, .int x5, .null], [], hS u D J) =
    gd (ob (x4 + 1) X.2) (bI (EvM X d 241 [.ref 70, .int (X.1 (x4 + 1).toNatClampNeg)] (hS u D J)) (fun y h => Ev X (d + 1) 333 (317, [.ref 900000, .ref 0, .ref 70, .ref 95, .int x4, .int x5, .null], [.int y], h)) (fun e h => some (.inr e, h))) := (sy_at X [317] (d + 1) 333 9 _).trans rfl
set_option maxRecDepth 100000 in
theorem e333_317 {X : XS} {d u : Nat} {D : Nat → Nat → Int32} {J : Nat → Nat → Int64} (x4 : Int32) (x5 : Int32) (y0 : Int32) : Ev X d 333 (317, [.ref 900000, .ref 0, .ref 70, .ref 95, .int x4, .int x5, .null], [.int y0], hS u D J) =
    Ev X d 333 (318, [.ref 900000, .ref 0, .ref 70, .ref 95, .int x4, .int x5, .int y0], [], hS u D J) := (sy_at X [318] d 333 3 _).trans rfl
set_option maxRecDepth 100000 in
theorem e333_318 {X : XS} {d u : Nat} {D : Nat → Nat → Int32} {J : Nat → Nat → Int64} (x4 : Int32) (x5 : Int32) (x6 : Int32) : Ev X (d + 1) 333 (318, [.ref 900000, .ref 0, .ref 70, .ref 95, .int x4, .int x5, .int x6], [], hS u D J) =
    bI (EvM X d 171 [.ref 70] (hS u D J)) (fun y h => Ev X (d + 1) 333 (320, [.ref 900000, .ref 0, .ref 70, .ref 95, .int x4, .int x5, .int x6], [.int y], h)) (fun e h => some (.inr e, h)) := (sy_at X [320] (d + 1) 333 4 _).trans rfl
set_option maxRecDepth 100000 in
theorem e333_320 {X : XS} {d u : Nat} {D : Nat → Nat → Int32} {J : Nat → Nat → Int64} (x4 : Int32) (x5 : Int32) (x6 : Int32) (y0 : Int32) : Ev X d 333 (320, [.ref 900000, .ref 0, .ref 70, .ref 95, .int x4, .int x5, .int x6], [.int y0], hS u D J) =
    br (decide (y0 = x5)) (br (decide (¬ x5 = 0)) (Ev X d 333 (1712, [.ref 900000, .ref 0, .ref 70, .ref 95, .int x4, .int x5, .int x6], [], hS u D J)) (br (decide ((lg_cmp (J 95 0) (Int32.toInt64 x6)) = 0)) (Ev X d 333 (1712, [.ref 900000, .ref 0, .ref 70, .ref 95, .int x4, .int x5, .int x6], [], hS u D J)) (some (.inl (some (.int 0)), hS u D J)))) (some (.inl (some (.int 0)), hS u D J)) := (sy_at X [1712] d 333 15 _).trans rfl
set_option maxRecDepth 100000 in
theorem f333_336 {X : XS} {d u : Nat} {D : Nat → Nat → Int32} {J : Nat → Nat → Int64} (x4 : Int32) : Ev X d 333 (336, [.ref 900000, .ref 0, .ref 70, .ref 95, .int x4, .null, .null], [], hS u D J) =
    gd (ob (x4 + 1) X.2) (Ev X d 333 (342, [.ref 900000, .ref 0, .ref 70, .ref 95, .int x4, .null, .null], [.int (X.1 (x4 + 1).toNatClampNeg), .ref 0], hS u D J)) := (sy_at X [342] d 333 8 _).trans rfl
set_option maxRecDepth 100000 in
theorem f333_342 {X : XS} {d u : Nat} {D : Nat → Nat → Int32} {J : Nat → Nat → Int64} (x4 : Int32) (y0 : Int32) : Ev X d 333 (342, [.ref 900000, .ref 0, .ref 70, .ref 95, .int x4, .null, .null], [.int y0, .ref 0], hS u D J) =
    gd (ob (x4 + 2) X.2) (Ev X d 333 (347, [.ref 900000, .ref 0, .ref 70, .ref 95, .int x4, .null, .null], [.int (X.1 (x4 + 2).toNatClampNeg), .int y0, .ref 0], hS u D J)) := (sy_at X [347] d 333 7 _).trans rfl
set_option maxRecDepth 100000 in
theorem f333_347 {X : XS} {d u : Nat} {D : Nat → Nat → Int32} {J : Nat → Nat → Int64} (x4 : Int32) (y0 : Int32) (y1 : Int32) : Ev X (d + 1) 333 (347, [.ref 900000, .ref 0, .ref 70, .ref 95, .int x4, .null, .null], [.int y0, .int y1, .ref 0], hS u D J) =
    bI (EvM X d 301 [.ref 0, .int y1, .int y0, .ref 95] (hS u D J)) (fun y h => Ev X (d + 1) 333 (349, [.ref 900000, .ref 0, .ref 70, .ref 95, .int x4, .null, .null], [.int y], h)) (fun e h => none) := (sy_at X [349] (d + 1) 333 4 _).trans rfl
set_option maxRecDepth 100000 in
theorem e333_336 {X : XS} {d u : Nat} {D : Nat → Nat → Int32} {J : Nat → Nat → Int64} (x4 : Int32) : Ev X (d + 1) 333 (336, [.ref 900000, .ref 0, .ref 70, .ref 95, .int x4, .null, .null], [], hS u D J) =
    gd (ob (x4 + 1) X.2) (gd (ob (x4 + 2) X.2) (bI (EvM X d 301 [.ref 0, .int (X.1 (x4 + 1).toNatClampNeg), .int (X.1 (x4 + 2).toNatClampNeg), .ref 95] (hS u D J)) (fun y h => Ev X (d + 1) 333 (349, [.ref 900000, .ref 0, .ref 70, .ref 95, .int x4, .null, .null], [.int y], h)) (fun e h => none))) := by
  refine (f333_336 _).trans ?_
  simp only [f333_342, f333_347]
set_option maxRecDepth 100000 in
theorem e333_349 {X : XS} {d u : Nat} {D : Nat → Nat → Int32} {J : Nat → Nat → Int64} (x4 : Int32) (y0 : Int32) : Ev X d 333 (349, [.ref 900000, .ref 0, .ref 70, .ref 95, .int x4, .null, .null], [.int y0], hS u D J) =
    Ev X d 333 (350, [.ref 900000, .ref 0, .ref 70, .ref 95, .int x4, .int y0, .null], [], hS u D J) := (sy_at X [350] d 333 3 _).trans rfl
set_option maxRecDepth 100000 in
theorem f333_350 {X : XS} {d u : Nat} {D : Nat → Nat → Int32} {J : Nat → Nat → Int64} (x4 : Int32) (x5 : Int32) : Ev X d 333 (350, [.ref 900000, .ref 0, .ref 70, .ref 95, .int x4, .int x5, .null], [], hS u D J) =
    gd (ob (x4 + 1) X.2) (Ev X d 333 (356, [.ref 900000, .ref 0, .ref 70, .ref 95, .int x4, .int x5, .null], [.int (X.1 (x4 + 1).toNatClampNeg), .ref 70], hS u D J)) := (sy_at X [356] d 333 8 _).trans rfl
set_option maxRecDepth 100000 in
theorem f333_356 {X : XS} {d u : Nat} {D : Nat → Nat → Int32} {J : Nat → Nat → Int64} (x4 : Int32) (x5 : Int32) (y0 : Int32) : Ev X d 333 (356, [.ref 900000, .ref 0, .ref 70, .ref 95, .int x4, .int x5, .null], [.int y0, .ref 70], hS u D J) =
    gd (ob (x4 + 2) X.2) (Ev X d 333 (361, [.ref 900000, .ref 0, .ref 70, .ref 95, .int x4, .int x5, .null], [.int (X.1 (x4 + 2).toNatClampNeg), .int y0, .ref 70], hS u D J)) := (sy_at X [361] d 333 7 _).trans rfl
set_option maxRecDepth 100000 in
theorem f333_361 {X : XS} {d u : Nat} {D : Nat → Nat → Int32} {J : Nat → Nat → Int64} (x4 : Int32) (x5 : Int32) (y0 : Int32) (y1 : Int32) : Ev X (d + 1) 333 (361, [.ref 900000, .ref 0, .ref 70, .ref 95, .int x4, .int x5, .null], [.int y0, .int y1, .ref 70], hS u D J) =
    bI (EvM X d 242 [.ref 70, .int y1, .int y0] (hS u D J)) (fun y h => Ev X (d + 1) 333 (362, [.ref 900000, .ref 0, .ref 70, .ref 95, .int x4, .int x5, .null], [.int y], h)) (fun e h => some (.inr e, h)) := (sy_at X [362] (d + 1) 333 3 _).trans rfl
set_option maxRecDepth 100000 in
theorem e333_350 {X : XS} {d u : Nat} {D : Nat → Nat → Int32} {J : Nat → Nat → Int64} (x4 : Int32) (x5 : Int32) : Ev X (d + 1) 333 (350, [.ref 900000, .ref 0, .ref 70, .ref 95, .int x4, .int x5, .null], [], hS u D J) =
    gd (ob (x4 + 1) X.2) (gd (ob (x4 + 2) X.2) (bI (EvM X d 242 [.ref 70, .int (X.1 (x4 + 1).toNatClampNeg), .int (X.1 (x4 + 2).toNatClampNeg)] (hS u D J)) (fun y h => Ev X (d + 1) 333 (362, [.ref 900000, .ref 0, .ref 70, .ref 95, .int x4, .int x5, .null], [.int y], h)) (fun e h => some (.inr e, h)))) := by
  refine (f333_350 _ _).trans ?_
  simp only [f333_356, f333_361]
set_option maxRecDepth 100000 in
theorem e333_362 {X : XS} {d u : Nat} {D : Nat → Nat → Int32} {J : Nat → Nat → Int64} (x4 : Int32) (x5 : Int32) (y0 : Int32) : Ev X d 333 (362, [.ref 900000, .ref 0, .ref 70, .ref 95, .int x4, .int x5, .null], [.int y0], hS u D J) =
    Ev X d 333 (363, [.ref 900000, .ref 0, .ref 70, .ref 95, .int x4, .int x5, .int y0], [], hS u D J) := (sy_at X [363] d 333 3 _).trans rfl
set_option maxRecDepth 100000 in
theorem e333_363 {X : XS} {d u : Nat} {D : Nat → Nat → Int32} {J : Nat → Nat → Int64} (x4 : Int32) (x5 : Int32) (x6 : Int32) : Ev X (d + 1) 333 (363, [.ref 900000, .ref 0, .ref 70, .ref 95, .int x4, .int x5, .int x6], [], hS u D J) =
    bI (EvM X d 171 [.ref 70] (hS u D J)) (fun y h => Ev X (d + 1) 333 (365, [.ref 900000, .ref 0, .ref 70, .ref 95, .int x4, .int x5, .int x6], [.int y], h)) (fun e h => some (.inr e, h)) := (sy_at X [365] (d + 1) 333 4 _).trans rfl
set_option maxRecDepth 100000 in
theorem e333_365 {X : XS} {d u : Nat} {D : Nat → Nat → Int32} {J : Nat → Nat → Int64} (x4 : Int32) (x5 : Int32) (x6 : Int32) (y0 : Int32) : Ev X d 333 (365, [.ref 900000, .ref 0, .ref 70, .ref 95, .int x4, .int x5, .int x6], [.int y0], hS u D J) =
    br (decide (y0 = x5)) (br (decide (¬ x5 = 0)) (Ev X d 333 (1712, [.ref 900000, .ref 0, .ref 70, .ref 95, .int x4, .int x5, .int x6], [], hS u D J)) (br (decide (x6 = 0)) (br (decide ((lg_cmp (J 95 0) (Int64.ofNat 0)) = 0)) (Ev X d 333 (1712, [.ref 900000, .ref 0, .ref 70, .ref 95, .int x4, .int x5, .int x6], [], hS u D J)) (some (.inl (some (.int 0)), hS u D J))) (br (decide ((lg_cmp (J 95 0) (Int64.ofNat 1)) = 0)) (Ev X d 333 (1712, [.ref 900000, .ref 0, .ref 70, .ref 95, .int x4, .int x5, .int x6], [], hS u D J)) (some (.inl (some (.int 0)), hS u D J))))) (some (.inl (some (.int 0)), hS u D J)) := (sy_at X [1712] d 333 17 _).trans rfl
set_option maxRecDepth 100000 in
theorem f333_384 {X : XS} {d u : Nat} {D : Nat → Nat → Int32} {J : Nat → Nat → Int64} (x4 : Int32) : Ev X d 333 (384, [.ref 900000, .ref 0, .ref 70, .ref 95, .int x4, .null, .null], [], hS u D J) =
    gd (ob (x4 + 1) X.2) (Ev X d 333 (390, [.ref 900000, .ref 0, .ref 70, .ref 95, .int x4, .null, .null], [.int (X.1 (x4 + 1).toNatClampNeg), .ref 0], hS u D J)) := (sy_at X [390] d 333 8 _).trans rfl
set_option maxRecDepth 100000 in
theorem f333_390 {X : XS} {d u : Nat} {D : Nat → Nat → Int32} {J : Nat → Nat → Int64} (x4 : Int32) (y0 : Int32) : Ev X d 333 (390, [.ref 900000, .ref 0, .ref 70, .ref 95, .int x4, .null, .null], [.int y0, .ref 0], hS u D J) =
    gd (ob (x4 + 2) X.2) (Ev X d 333 (395, [.ref 900000, .ref 0, .ref 70, .ref 95, .int x4, .null, .null], [.int (X.1 (x4 + 2).toNatClampNeg), .int y0, .ref 0], hS u D J)) := (sy_at X [395] d 333 7 _).trans rfl
set_option maxRecDepth 100000 in
theorem f333_395 {X : XS} {d u : Nat} {D : Nat → Nat → Int32} {J : Nat → Nat → Int64} (x4 : Int32) (y0 : Int32) (y1 : Int32) : Ev X (d + 1) 333 (395, [.ref 900000, .ref 0, .ref 70, .ref 95, .int x4, .null, .null], [.int y0, .int y1, .ref 0], hS u D J) =
    bI (EvM X d 302 [.ref 0, .int y1, .int y0, .ref 95] (hS u D J)) (fun y h => Ev X (d + 1) 333 (397, [.ref 900000, .ref 0, .ref 70, .ref 95, .int x4, .null, .null], [.int y], h)) (fun e h => none) := (sy_at X [397] (d + 1) 333 4 _).trans rfl
set_option maxRecDepth 100000 in
theorem e333_384 {X : XS} {d u : Nat} {D : Nat → Nat → Int32} {J : Nat → Nat → Int64} (x4 : Int32) : Ev X (d + 1) 333 (384, [.ref 900000, .ref 0, .ref 70, .ref 95, .int x4, .null, .null], [], hS u D J) =
    gd (ob (x4 + 1) X.2) (gd (ob (x4 + 2) X.2) (bI (EvM X d 302 [.ref 0, .int (X.1 (x4 + 1).toNatClampNeg), .int (X.1 (x4 + 2).toNatClampNeg), .ref 95] (hS u D J)) (fun y h => Ev X (d + 1) 333 (397, [.ref 900000, .ref 0, .ref 70, .ref 95, .int x4, .null, .null], [.int y], h)) (fun e h => none))) := by
  refine (f333_384 _).trans ?_
  simp only [f333_390, f333_395]
set_option maxRecDepth 100000 in
theorem e333_397 {X : XS} {d u : Nat} {D : Nat → Nat → Int32} {J : Nat → Nat → Int64} (x4 : Int32) (y0 : Int32) : Ev X d 333 (397, [.ref 900000, .ref 0, .ref 70, .ref 95, .int x4, .null, .null], [.int y0], hS u D J) =
    Ev X d 333 (398, [.ref 900000, .ref 0, .ref 70, .ref 95, .int x4, .int y0, .null], [], hS u D J) := (sy_at X [398] d 333 3 _).trans rfl
set_option maxRecDepth 100000 in
theorem f333_398 {X : XS} {d u : Nat} {D : Nat → Nat → Int32} {J : Nat → Nat → Int64} (x4 : Int32) (x5 : Int32) : Ev X d 333 (398, [.ref 900000, .ref 0, .ref 70, .ref 95, .int x4, .int x5, .null], [], hS u D J) =
    gd (ob (x4 + 1) X.2) (Ev X d 333 (404, [.ref 900000, .ref 0, .ref 70, .ref 95, .int x4, .int x5, .null], [.int (X.1 (x4 + 1).toNatClampNeg), .ref 70], hS u D J)) := (sy_at X [404] d 333 8 _).trans rfl
set_option maxRecDepth 100000 in
theorem f333_404 {X : XS} {d u : Nat} {D : Nat → Nat → Int32} {J : Nat → Nat → Int64} (x4 : Int32) (x5 : Int32) (y0 : Int32) : Ev X d 333 (404, [.ref 900000, .ref 0, .ref 70, .ref 95, .int x4, .int x5, .null], [.int y0, .ref 70], hS u D J) =
    gd (ob (x4 + 2) X.2) (Ev X d 333 (409, [.ref 900000, .ref 0, .ref 70, .ref 95, .int x4, .int x5, .null], [.int (X.1 (x4 + 2).toNatClampNeg), .int y0, .ref 70], hS u D J)) := (sy_at X [409] d 333 7 _).trans rfl
set_option maxRecDepth 100000 in
theorem f333_409 {X : XS} {d u : Nat} {D : Nat → Nat → Int32} {J : Nat → Nat → Int64} (x4 : Int32) (x5 : Int32) (y0 : Int32) (y1 : Int32) : Ev X (d + 1) 333 (409, [.ref 900000, .ref 0, .ref 70, .ref 95, .int x4, .int x5, .null], [.int y0, .int y1, .ref 70], hS u D J) =
    bI (EvM X d 244 [.ref 70, .int y1, .int y0] (hS u D J)) (fun y h => Ev X (d + 1) 333 (410, [.ref 900000, .ref 0, .ref 70, .ref 95, .int x4, .int x5, .null], [.int y], h)) (fun e h => some (.inr e, h)) := (sy_at X [410] (d + 1) 333 3 _).trans rfl
set_option maxRecDepth 100000 in
theorem e333_398 {X : XS} {d u : Nat} {D : Nat → Nat → Int32} {J : Nat → Nat → Int64} (x4 : Int32) (x5 : Int32) : Ev X (d + 1) 333 (398, [.ref 900000, .ref 0, .ref 70, .ref 95, .int x4, .int x5, .null], [], hS u D J) =
    gd (ob (x4 + 1) X.2) (gd (ob (x4 + 2) X.2) (bI (EvM X d 244 [.ref 70, .int (X.1 (x4 + 1).toNatClampNeg), .int (X.1 (x4 + 2).toNatClampNeg)] (hS u D J)) (fun y h => Ev X (d + 1) 333 (410, [.ref 900000, .ref 0, .ref 70, .ref 95, .int x4, .int x5, .null], [.int y], h)) (fun e h => some (.inr e, h)))) := by
  refine (f333_398 _ _).trans ?_
  simp only [f333_404, f333_409]
set_option maxRecDepth 100000 in
theorem e333_410 {X : XS} {d u : Nat} {D : Nat → Nat → Int32} {J : Nat → Nat → Int64} (x4 : Int32) (x5 : Int32) (y0 : Int32) : Ev X d 333 (410, [.ref 900000, .ref 0, .ref 70, .ref 95, .int x4, .int x5, .null], [.int y0], hS u D J) =
    Ev X d 333 (411, [.ref 900000, .ref 0, .ref 70, .ref 95, .int x4, .int x5, .int y0], [], hS u D J) := (sy_at X [411] d 333 3 _).trans rfl
set_option maxRecDepth 100000 in
theorem e333_411 {X : XS} {d u : Nat} {D : Nat → Nat → Int32} {J : Nat → Nat → Int64} (x4 : Int32) (x5 : Int32) (x6 : Int32) : Ev X (d + 1) 333 (411, [.ref 900000, .ref 0, .ref 70, .ref 95, .int x4, .int x5, .int x6], [], hS u D J) =
    bI (EvM X d 171 [.ref 70] (hS u D J)) (fun y h => Ev X (d + 1) 333 (413, [.ref 900000, .ref 0, .ref 70, .ref 95, .int x4, .int x5, .int x6], [.int y], h)) (fun e h => some (.inr e, h)) := (sy_at X [413] (d + 1) 333 4 _).trans rfl
set_option maxRecDepth 100000 in
theorem e333_413 {X : XS} {d u : Nat} {D : Nat → Nat → Int32} {J : Nat → Nat → Int64} (x4 : Int32) (x5 : Int32) (x6 : Int32) (y0 : Int32) : Ev X d 333 (413, [.ref 900000, .ref 0, .ref 70, .ref 95, .int x4, .int x5, .int x6], [.int y0], hS u D J) =
    br (decide (y0 = x5)) (br (decide (¬ x5 = 0)) (Ev X d 333 (1712, [.ref 900000, .ref 0, .ref 70, .ref 95, .int x4, .int x5, .int x6], [], hS u D J)) (br (decide ((lg_cmp (J 95 0) (Int32.toInt64 x6)) = 0)) (Ev X d 333 (1712, [.ref 900000, .ref 0, .ref 70, .ref 95, .int x4, .int x5, .int x6], [], hS u D J)) (some (.inl (some (.int 0)), hS u D J)))) (some (.inl (some (.int 0)), hS u D J)) := (sy_at X [1712] d 333 15 _).trans rfl
set_option maxRecDepth 100000 in
theorem f333_429 {X : XS} {d u : Nat} {D : Nat → Nat → Int32} {J : Nat → Nat → Int64} (x4 : Int32) : Ev X d 333 (429, [.ref 900000, .ref 0, .ref 70, .ref 95, .int x4, .null, .null], [], hS u D J) =
    gd (ob (x4 + 1) X.2) (Ev X d 333 (435, [.ref 900000, .ref 0, .ref 70, .ref 95, .int x4, .null, .null], [.int (X.1 (x4 + 1).toNatClampNeg), .ref 0], hS u D J)) := (sy_at X [435] d 333 8 _).trans rfl
set_option maxRecDepth 100000 in
theorem f333_435 {X : XS} {d u : Nat} {D : Nat → Nat → Int32} {J : Nat → Nat → Int64} (x4 : Int32) (y0 : Int32) : Ev X d 333 (435, [.ref 900000, .ref 0, .ref 70, .ref 95, .int x4, .null, .null], [.int y0, .ref 0], hS u D J) =
    gd (ob (x4 + 2) X.2) (Ev X d 333 (440, [.ref 900000, .ref 0, .ref 70, .ref 95, .int x4, .null, .null], [.int (X.1 (x4 + 2).toNatClampNeg), .int y0, .ref 0], hS u D J)) := (sy_at X [440] d 333 7 _).trans rfl
set_option maxRecDepth 100000 in
theorem f333_440 {X : XS} {d u : Nat} {D : Nat → Nat → Int32} {J : Nat → Nat → Int64} (x4 : Int32) (y0 : Int32) (y1 : Int32) : Ev X (d + 1) 333 (440, [.ref 900000, .ref 0, .ref 70, .ref 95, .int x4, .null, .null], [.int y0, .int y1, .ref 0], hS u D J) =
    bI (EvM X d 303 [.ref 0, .int y1, .int y0, .ref 95] (hS u D J)) (fun y h => Ev X (d + 1) 333 (442, [.ref 900000, .ref 0, .ref 70, .ref 95, .int x4, .null, .null], [.int y], h)) (fun e h => none) := (sy_at X [442] (d + 1) 333 4 _).trans rfl
set_option maxRecDepth 100000 in
theorem e333_429 {X : XS} {d u : Nat} {D : Nat → Nat → Int32} {J : Nat → Nat → Int64} (x4 : Int32) : Ev X (d + 1) 333 (429, [.ref 900000, .ref 0, .ref 70, .ref 95, .int x4, .null, .null], [], hS u D J) =
    gd (ob (x4 + 1) X.2) (gd (ob (x4 + 2) X.2) (bI (EvM X d 303 [.ref 0, .int (X.1 (x4 + 1).toNatClampNeg), .int (X.1 (x4 + 2).toNatClampNeg), .ref 95] (hS u D J)) (fun y h => Ev X (d + 1) 333 (442, [.ref 900000, .ref 0, .ref 70, .ref 95, .int x4, .null, .null], [.int y], h)) (fun e h => none))) := by
  refine (f333_429 _).trans ?_
  simp only [f333_435, f333_440]
set_option maxRecDepth 100000 in
theorem e333_442 {X : XS} {d u : Nat} {D : Nat → Nat → Int32} {J : Nat → Nat → Int64} (x4 : Int32) (y0 : Int32) : Ev X d 333 (442, [.ref 900000, .ref 0, .ref 70, .ref 95, .int x4, .null, .null], [.int y0], hS u D J) =
    Ev X d 333 (443, [.ref 900000, .ref 0, .ref 70, .ref 95, .int x4, .int y0, .null], [], hS u D J) := (sy_at X [443] d 333 3 _).trans rfl
