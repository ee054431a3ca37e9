/-! ===== printed by wip/gen/eqparts.py: equations of the law, 4 ===== -/
set_option maxRecDepth 100000 in
theorem e333_1257 {X : XS} {d u : Nat} {D : Nat → Nat → Int32} {J : Nat → Nat → Int64} (x4 : Int32) (x5 : Int32) (x6 : Int32) (y0 : Int32) : Ev X d 333 (1257, [.ref 900000, .ref 0, .ref 70, .ref 95, .int x4, .int x5, .int x6], [.int y0], hS u D J) =
    br (decide (y0 = x5)) (br (decide (¬ x5 = 0)) (Ev X d 333 (1712, [.ref 900000, .ref 0, .ref 70, .ref 95, .int x4, .int x5, .int x6], [], hS u D J)) (br (decide ((lg_cmp (J 95 0) (Int32.toInt64 x6)) = 0)) (Ev X d 333 (1712, [.ref 900000, .ref 0, .ref 70, .ref 95, .int x4, .int x5, .int x6], [], hS u D J)) (some (.inl (some (.int 0)), hS u D J)))) (some (.inl (some (.int 0)), hS u D J)) := (sy_at X [1712] d 333 15 _).trans rfl
set_option maxRecDepth 100000 in
theorem f333_1273 {X : XS} {d u : Nat} {D : Nat → Nat → Int32} {J : Nat → Nat → Int64} (x4 : Int32) : Ev X d 333 (1273, [.ref 900000, .ref 0, .ref 70, .ref 95, .int x4, .null, .null], [], hS u D J) =
    gd (ob (x4 + 1) X.2) (Ev X d 333 (1279, [.ref 900000, .ref 0, .ref 70, .ref 95, .int x4, .null, .null], [.int (X.1 (x4 + 1).toNatClampNeg), .ref 0], hS u D J)) := (sy_at X [1279] d 333 8 _).trans rfl
set_option maxRecDepth 100000 in
theorem f333_1279 {X : XS} {d u : Nat} {D : Nat → Nat → Int32} {J : Nat → Nat → Int64} (x4 : Int32) (y0 : Int32) : Ev X d 333 (1279, [.ref 900000, .ref 0, .ref 70, .ref 95, .int x4, .null, .null], [.int y0, .ref 0], hS u D J) =
    gd (ob (x4 + 2) X.2) (Ev X d 333 (1284, [.ref 900000, .ref 0, .ref 70, .ref 95, .int x4, .null, .null], [.int (X.1 (x4 + 2).toNatClampNeg), .int y0, .ref 0], hS u D J)) := (sy_at X [1284] d 333 7 _).trans rfl
set_option maxRecDepth 100000 in
theorem f333_1284 {X : XS} {d u : Nat} {D : Nat → Nat → Int32} {J : Nat → Nat → Int64} (x4 : Int32) (y0 : Int32) (y1 : Int32) : Ev X d 333 (1284, [.ref 900000, .ref 0, .ref 70, .ref 95, .int x4, .null, .null], [.int y0, .int y1, .ref 0], hS u D J) =
    gd (ob (x4 + 3) X.2) (Ev X d 333 (1289, [.ref 900000, .ref 0, .ref 70, .ref 95, .int x4, .null, .null], [.int (X.1 (x4 + 3).toNatClampNeg), .int y0, .int y1, .ref 0], hS u D J)) := (sy_at X [1289] d 333 7 _).trans rfl
set_option maxRecDepth 100000 in
theorem f333_1289 {X : XS} {d u : Nat} {D : Nat → Nat → Int32} {J : Nat → Nat → Int64} (x4 : Int32) (y0 : Int32) (y1 : Int32) (y2 : Int32) : Ev X (d + 1) 333 (1289, [.ref 900000, .ref 0, .ref 70, .ref 95, .int x4, .null, .null], [.int y0, .int y1, .int y2, .ref 0], hS u D J) =
    bI (EvM X d 322 [.ref 0, .int y2, .int y1, .int y0, .ref 95] (hS u D J)) (fun y h => Ev X (d + 1) 333 (1291, [.ref 900000, .ref 0, .ref 70, .ref 95, .int x4, .null, .null], [.int y], h)) (fun e h => none) := (sy_at X [1291] (d + 1) 333 4 _).trans rfl
set_option maxRecDepth 100000 in
theorem e333_1273 {X : XS} {d u : Nat} {D : Nat → Nat → Int32} {J : Nat → Nat → Int64} (x4 : Int32) : Ev X (d + 1) 333 (1273, [.ref 900000, .ref 0, .ref 70, .ref 95, .int x4, .null, .null], [], hS u D J) =
    gd (ob (x4 + 1) X.2) (gd (ob (x4 + 2) X.2) (gd (ob (x4 + 3) X.2) (bI (EvM X d 322 [.ref 0, .int (X.1 (x4 + 1).toNatClampNeg), .int (X.1 (x4 + 2).toNatClampNeg), .int (X.1 (x4 + 3).toNatClampNeg), .ref 95] (hS u D J)) (fun y h => Ev X (d + 1) 333 (1291, [.ref 900000, .ref 0, .ref 70, .ref 95, .int x4, .null, .null], [.int y], h)) (fun e h => none)))) := by
  refine (f333_1273 _).trans ?_
  simp only [f333_1279, f333_1284, f333_1289]
set_option maxRecDepth 100000 in
theorem e333_1291 {X : XS} {d u : Nat} {D : Nat → Nat → Int32} {J : Nat → Nat → Int64} (x4 : Int32) (y0 : Int32) : Ev X d 333 (1291, [.ref 900000, .ref 0, .ref 70, .ref 95, .int x4, .null, .null], [.int y0], hS u D J) =
    Ev X d 333 (1292, [.ref 900000, .ref 0, .ref 70, .ref 95, .int x4, .int y0, .null], [], hS u D J) := (sy_at X [1292] d 333 3 _).trans rfl
set_option maxRecDepth 100000 in
theorem f333_1292 {X : XS} {d u : Nat} {D : Nat → Nat → Int32} {J : Nat → Nat → Int64} (x4 : Int32) (x5 : Int32) : Ev X d 333 (1292, [.ref 900000, .ref 0, .ref 70, .ref 95, .int x4, .int x5, .null], [], hS u D J) =
    gd (ob (x4 + 1) X.2) (Ev X d 333 (1298, [.ref 900000, .ref 0, .ref 70, .ref 95, .int x4, .int x5, .null], [.int (X.1 (x4 + 1).toNatClampNeg), .ref 70], hS u D J)) := (sy_at X [1298] d 333 8 _).trans rfl
set_option maxRecDepth 100000 in
theorem f333_1298 {X : XS} {d u : Nat} {D : Nat → Nat → Int32} {J : Nat → Nat → Int64} (x4 : Int32) (x5 : Int32) (y0 : Int32) : Ev X d 333 (1298, [.ref 900000, .ref 0, .ref 70, .ref 95, .int x4, .int x5, .null], [.int y0, .ref 70], hS u D J) =
    gd (ob (x4 + 2) X.2) (Ev X d 333 (1303, [.ref 900000, .ref 0, .ref 70, .ref 95, .int x4, .int x5, .null], [.int (X.1 (x4 + 2).toNatClampNeg), .int y0, .ref 70], hS u D J)) := (sy_at X [1303] d 333 7 _).trans rfl
set_option maxRecDepth 100000 in
theorem f333_1303 {X : XS} {d u : Nat} {D : Nat → Nat → Int32} {J : Nat → Nat → Int64} (x4 : Int32) (x5 : Int32) (y0 : Int32) (y1 : Int32) : Ev X d 333 (1303, [.ref 900000, .ref 0, .ref 70, .ref 95, .int x4, .int x5, .null], [.int y0, .int y1, .ref 70], hS u D J) =
    gd (ob (x4 + 3) X.2) (Ev X d 333 (1308, [.ref 900000, .ref 0, .ref 70, .ref 95, .int x4, .int x5, .null], [.int (X.1 (x4 + 3).toNatClampNeg), .int y0, .int y1, .ref 70], hS u D J)) := (sy_at X [1308] d 333 7 _).trans rfl
set_option maxRecDepth 100000 in
theorem f333_1308 {X : XS} {d u : Nat} {D : Nat → Nat → Int32} {J : Nat → Nat → Int64} (x4 : Int32) (x5 : Int32) (y0 : Int32) (y1 : Int32) (y2 : Int32) : Ev X (d + 1) 333 (1308, [.ref 900000, .ref 0, .ref 70, .ref 95, .int x4, .int x5, .null], [.int y0, .int y1, .int y2, .ref 70], hS u D J) =
    bI (EvM X d 286 [.ref 70, .int y2, .int y1, .int y0] (hS u D J)) (fun y h => Ev X (d + 1) 333 (1309, [.ref 900000, .ref 0, .ref 70, .ref 95, .int x4, .int x5, .null], [.int y], h)) (fun e h => some (.inr e, h)) := (sy_at X [1309] (d + 1) 333 3 _).trans rfl
set_option maxRecDepth 100000 in
theorem e333_1292 {X : XS} {d u : Nat} {D : Nat → Nat → Int32} {J : Nat → Nat → Int64} (x4 : Int32) (x5 : Int32) : Ev X (d + 1) 333 (1292, [.ref 900000, .ref 0, .ref 70, .ref 95, .int x4, .int x5, .null], [], hS u D J) =
    gd (ob (x4 + 1) X.2) (gd (ob (x4 + 2) X.2) (gd (ob (x4 + 3) X.2) (bI (EvM X d 286 [.ref 70, .int (X.1 (x4 + 1).toNatClampNeg), .int (X.1 (x4 + 2).toNatClampNeg), .int (X.1 (x4 + 3).toNatClampNeg)] (hS u D J)) (fun y h => Ev X (d + 1) 333 (1309, [.ref 900000, .ref 0, .ref 70, .ref 95, .int x4, .int x5, .null], [.int y], h)) (fun e h => some (.inr e, h))))) := by
  refine (f333_1292 _ _).trans ?_
  simp only [f333_1298, f333_1303, f333_1308]
set_option maxRecDepth 100000 in
theorem e333_1309 {X : XS} {d u : Nat} {D : Nat → Nat → Int32} {J : Nat → Nat → Int64} (x4 : Int32) (x5 : Int32) (y0 : Int32) : Ev X d 333 (1309, [.ref 900000, .ref 0, .ref 70, .ref 95, .int x4, .int x5, .null], [.int y0], hS u D J) =
    Ev X d 333 (1310, [.ref 900000, .ref 0, .ref 70, .ref 95, .int x4, .int x5, .int y0], [], hS u D J) := (sy_at X [1310] d 333 3 _).trans rfl
set_option maxRecDepth 100000 in
theorem e333_1310 {X : XS} {d u : Nat} {D : Nat → Nat → Int32} {J : Nat → Nat → Int64} (x4 : Int32) (x5 : Int32) (x6 : Int32) : Ev X (d + 1) 333 (1310, [.ref 900000, .ref 0, .ref 70, .ref 95, .int x4, .int x5, .int x6], [], hS u D J) =
    bI (EvM X d 171 [.ref 70] (hS u D J)) (fun y h => Ev X (d + 1) 333 (1312, [.ref 900000, .ref 0, .ref 70, .ref 95, .int x4, .int x5, .int x6], [.int y], h)) (fun e h => some (.inr e, h)) := (sy_at X [1312] (d + 1) 333 4 _).trans rfl
set_option maxRecDepth 100000 in
theorem e333_1312 {X : XS} {d u : Nat} {D : Nat → Nat → Int32} {J : Nat → Nat → Int64} (x4 : Int32) (x5 : Int32) (x6 : Int32) (y0 : Int32) : Ev X d 333 (1312, [.ref 900000, .ref 0, .ref 70, .ref 95, .int x4, .int x5, .int x6], [.int y0], hS u D J) =
    br (decide (y0 = x5)) (br (decide (¬ x5 = 0)) (Ev X d 333 (1712, [.ref 900000, .ref 0, .ref 70, .ref 95, .int x4, .int x5, .int x6], [], hS u D J)) (br (decide ((lg_cmp (J 95 0) (Int32.toInt64 x6)) = 0)) (Ev X d 333 (1712, [.ref 900000, .ref 0, .ref 70, .ref 95, .int x4, .int x5, .int x6], [], hS u D J)) (some (.inl (some (.int 0)), hS u D J)))) (some (.inl (some (.int 0)), hS u D J)) := (sy_at X [1712] d 333 15 _).trans rfl
set_option maxRecDepth 100000 in
theorem f333_1328 {X : XS} {d u : Nat} {D : Nat → Nat → Int32} {J : Nat → Nat → Int64} (x4 : Int32) : Ev X d 333 (1328, [.ref 900000, .ref 0, .ref 70, .ref 95, .int x4, .null, .null], [], hS u D J) =
    gd (ob (x4 + 1) X.2) (Ev X d 333 (1334, [.ref 900000, .ref 0, .ref 70, .ref 95, .int x4, .null, .null], [.int (X.1 (x4 + 1).toNatClampNeg), .ref 0], hS u D J)) := (sy_at X [1334] d 333 8 _).trans rfl
set_option maxRecDepth 100000 in
theorem f333_1334 {X : XS} {d u : Nat} {D : Nat → Nat → Int32} {J : Nat → Nat → Int64} (x4 : Int32) (y0 : Int32) : Ev X d 333 (1334, [.ref 900000, .ref 0, .ref 70, .ref 95, .int x4, .null, .null], [.int y0, .ref 0], hS u D J) =
    gd (ob (x4 + 2) X.2) (Ev X d 333 (1339, [.ref 900000, .ref 0, .ref 70, .ref 95, .int x4, .null, .null], [.int (X.1 (x4 + 2).toNatClampNeg), .int y0, .ref 0], hS u D J)) := (sy_at X [1339] d 333 7 _).trans rfl
set_option maxRecDepth 100000 in
theorem f333_1339 {X : XS} {d u : Nat} {D : Nat → Nat → Int32} {J : Nat → Nat → Int64} (x4 : Int32) (y0 : Int32) (y1 : Int32) : Ev X d 333 (1339, [.ref 900000, .ref 0, .ref 70, .ref 95, .int x4, .null, .null], [.int y0, .int y1, .ref 0], hS u D J) =
    gd (ob (x4 + 3) X.2) (Ev X d 333 (1344, [.ref 900000, .ref 0, .ref 70, .ref 95, .int x4, .null, .null], [.int (X.1 (x4 + 3).toNatClampNeg), .int y0, .int y1, .ref 0], hS u D J)) := (sy_at X [1344] d 333 7 _).trans rfl
set_option maxRecDepth 100000 in
theorem f333_1344 {X : XS} {d u : Nat} {D : Nat → Nat → Int32} {J : Nat → Nat → Int64} (x4 : Int32) (y0 : Int32) (y1 : Int32) (y2 : Int32) : Ev X (d + 1) 333 (1344, [.ref 900000, .ref 0, .ref 70, .ref 95, .int x4, .null, .null], [.int y0, .int y1, .int y2, .ref 0], hS u D J) =
    bI (EvM X d 323 [.ref 0, .int y2, .int y1, .int y0, .ref 95] (hS u D J)) (fun y h => Ev X (d + 1) 333 (1346, [.ref 900000, .ref 0, .ref 70, .ref 95, .int x4, .null, .null], [.int y], h)) (fun e h => none) := (sy_at X [1346] (d + 1) 333 4 _).trans rfl
set_option maxRecDepth 100000 in
theorem e333_1328 {X : XS} {d u : Nat} {D : Nat → Nat → Int32} {J : Nat → Nat → Int64} (x4 : Int32) : Ev X (d + 1) 333 (1328, [.ref 900000, .ref 0, .ref 70, .ref 95, .int x4, .null, .null], [], hS u D J) =
    gd (ob (x4 + 1) X.2) (gd (ob (x4 + 2) X.2) (gd (ob (x4 + 3) X.2) (bI (EvM X d 323 [.ref 0, .int (X.1 (x4 + 1).toNatClampNeg), .int (X.1 (x4 + 2).toNatClampNeg), .int (X.1 (x4 + 3).toNatClampNeg), .ref 95] (hS u D J)) (fun y h => Ev X (d + 1) 333 (1346, [.ref 900000, .ref 0, .ref 70, .ref 95, .int x4, .null, .null], [.int y], h)) (fun e h => none)))) := by
  refine (f333_1328 _).trans ?_
  simp only [f333_1334, f333_1339, f333_1344]
set_option maxRecDepth 100000 in
theorem e333_1346 {X : XS} {d u : Nat} {D : Nat → Nat → Int32} {J : Nat → Nat → Int64} (x4 : Int32) (y0 : Int32) : Ev X d 333 (1346, [.ref 900000, .ref 0, .ref 70, .ref 95, .int x4, .null, .null], [.int y0], hS u D J) =
    Ev X d 333 (1347, [.ref 900000, .ref 0, .ref 70, .ref 95, .int x4, .int y0, .null], [], hS u D J) := (sy_at X [1347] d 333 3 _).trans rfl
set_option maxRecDepth 100000 in
theorem f333_1347 {X : XS} {d u : Nat} {D : Nat → Nat → Int32} {J : Nat → Nat → Int64} (x4 : Int32) (x5 : Int32) : Ev X d 333 (1347, [.ref 900000, .ref 0, .ref 70, .ref 95, .int x4, .int x5, .null], [], hS u D J) =
    gd (ob (x4 + 1) X.2) (Ev X d 333 (1353, [.ref 900000, .ref 0, .ref 70, .ref 95, .int x4, .int x5, .null], [.int (X.1 (x4 + 1).toNatClampNeg), .ref 70], hS u D J)) := (sy_at X [1353] d 333 8 _).trans rfl
set_option maxRecDepth 100000 in
theorem f333_1353 {X : XS} {d u : Nat} {D : Nat → Nat → Int32} {J : Nat → Nat → Int64} (x4 : Int32) (x5 : Int32) (y0 : Int32) : Ev X d 333 (1353, [.ref 900000, .ref 0, .ref 70, .ref 95, .int x4, .int x5, .null], [.int y0, .ref 70], hS u D J) =
    gd (ob (x4 + 2) X.2) (Ev X d 333 (1358, [.ref 900000, .ref 0, .ref 70, .ref 95, .int x4, .int x5, .null], [.int (X.1 (x4 + 2).toNatClampNeg), .int y0, .ref 70], hS u D J)) := (sy_at X [1358] d 333 7 _).trans rfl
set_option maxRecDepth 100000 in
theorem f333_1358 {X : XS} {d u : Nat} {D : Nat → Nat → Int32} {J : Nat → Nat → Int64} (x4 : Int32) (x5 : Int32) (y0 : Int32) (y1 : Int32) : Ev X d 333 (1358, [.ref 900000, .ref 0, .ref 70, .ref 95, .int x4, .int x5, .null], [.int y0, .int y1, .ref 70], hS u D J) =
    gd (ob (x4 + 3) X.2) (Ev X d 333 (1363, [.ref 900000, .ref 0, .ref 70, .ref 95, .int x4, .int x5, .null], [.int (X.1 (x4 + 3).toNatClampNeg), .int y0, .int y1, .ref 70], hS u D J)) := (sy_at X [1363] d 333 7 _).trans rfl
set_option maxRecDepth 100000 in
theorem f333_1363 {X : XS} {d u : Nat} {D : Nat → Nat → Int32} {J : Nat → Nat → Int64} (x4 : Int32) (x5 : Int32) (y0 : Int32) (y1 : Int32) (y2 : Int32) : Ev X (d + 1) 333 (1363, [.ref 900000, .ref 0, .ref 70, .ref 95, .int x4, .int x5, .null], [.int y0, .int y1, .int y2, .ref 70], hS u D J) =
    bI (EvM X d 289 [.ref 70, .int y2, .int y1, .int y0] (hS u D J)) (fun y h => Ev X (d + 1) 333 (1364, [.ref 900000, .ref 0, .ref 70, .ref 95, .int x4, .int x5, .null], [.int y], h)) (fun e h => some (.inr e, h)) := (sy_at X [1364] (d + 1) 333 3 _).trans rfl
set_option maxRecDepth 100000 in
theorem e333_1347 {X : XS} {d u : Nat} {D : Nat → Nat → Int32} {J : Nat → Nat → Int64} (x4 : Int32) (x5 : Int32) : Ev X (d + 1) 333 (1347, [.ref 900000, .ref 0, .ref 70, .ref 95, .int x4, .int x5, .null], [], hS u D J) =
    gd (ob (x4 + 1) X.2) (gd (ob (x4 + 2) X.2) (gd (ob (x4 + 3) X.2) (bI (EvM X d 289 [.ref 70, .int (X.1 (x4 + 1).toNatClampNeg), .int (X.1 (x4 + 2).toNatClampNeg), .int (X.1 (x4 + 3).toNatClampNeg)] (hS u D J)) (fun y h => Ev X (d + 1) 333 (1364, [.ref 900000, .ref 0, .ref 70, .ref 95, .int x4, .int x5, .null], [.int y], h)) (fun e h => some (.inr e, h))))) := by
  refine (f333_1347 _ _).trans ?_
  simp only [f333_1353, f333_1358, f333_1363]
set_option maxRecDepth 100000 in
theorem e333_1364 {X : XS} {d u : Nat} {D : Nat → Nat → Int32} {J : Nat → Nat → Int64} (x4 : Int32) (x5 : Int32) (y0 : Int32) : Ev X d 333 (1364, [.ref 900000, .ref 0, .ref 70, .ref 95, .int x4, .int x5, .null], [.int y0], hS u D J) =
    Ev X d 333 (1365, [.ref 900000, .ref 0, .ref 70, .ref 95, .int x4, .int x5, .int y0], [], hS u D J) := (sy_at X [1365] d 333 3 _).trans rfl
set_option maxRecDepth 100000 in
theorem e333_1365 {X : XS} {d u : Nat} {D : Nat → Nat → Int32} {J : Nat → Nat → Int64} (x4 : Int32) (x5 : Int32) (x6 : Int32) : Ev X (d + 1) 333 (1365, [.ref 900000, .ref 0, .ref 70, .ref 95, .int x4, .int x5, .int x6], [], hS u D J) =
    bI (EvM X d 171 [.ref 70] (hS u D J)) (fun y h => Ev X (d + 1) 333 (1367, [.ref 900000, .ref 0, .ref 70, .ref 95, .int x4, .int x5, .int x6], [.int y], h)) (fun e h => some (.inr e, h)) := (sy_at X [1367] (d + 1) 333 4 _).trans rfl
set_option maxRecDepth 100000 in
theorem e333_1367 {X : XS} {d u : Nat} {D : Nat → Nat → Int32} {J : Nat → Nat → Int64} (x4 : Int32) (x5 : Int32) (x6 : Int32) (y0 : Int32) : Ev X d 333 (1367, [.ref 900000, .ref 0, .ref 70, .ref 95, .int x4, .int x5, .int x6], [.int y0], hS u D J) =
    br (decide (y0 = x5)) (br (decide (¬ x5 = 0)) (Ev X d 333 (1712, [.ref 900000, .ref 0, .ref 70, .ref 95, .int x4, .int x5, .int x6], [], hS u D J)) (br (decide ((lg_cmp (J 95 0) (Int32.toInt64 x6)) = 0)) (Ev X d 333 (1712, [.ref 900000, .ref 0, .ref 70, .ref 95, .int x4, .int x5, .int x6], [], hS u D J)) (some (.inl (some (.int 0)), hS u D J)))) (some (.inl (some (.int 0)), hS u D J)) := (sy_at X [1712] d 333 15 _).trans rfl
set_option maxRecDepth 100000 in
theorem f333_1383 {X : XS} {d u : Nat} {D : Nat → Nat → Int32} {J : Nat → Nat → Int64} (x4 : Int32) : Ev X d 333 (1383, [.ref 900000, .ref 0, .ref 70, .ref 95, .int x4, .null, .null], [], hS u D J) =
    gd (ob (x4 + 1) X.2) (Ev X d 333 (1389, [.ref 900000, .ref 0, .ref 70, .ref 95, .int x4, .null, .null], [.int (X.1 (x4 + 1).toNatClampNeg), .ref 0], hS u D J)) := (sy_at X [1389] d 333 8 _).trans rfl
set_option maxRecDepth 100000 in
theorem f333_1389 {X : XS} {d u : Nat} {D : Nat → Nat → Int32} {J : Nat → Nat → Int64} (x4 : Int32) (y0 : Int32) : Ev X d 333 (1389, [.ref 900000, .ref 0, .ref 70, .ref 95, .int x4, .null, .null], [.int y0, .ref 0], hS u D J) =
    gd (ob (x4 + 2) X.2) (Ev X d 333 (1394, [.ref 900000, .ref 0, .ref 70, .ref 95, .int x4, .null, .null], [.int (X.1 (x4 + 2).toNatClampNeg), .int y0, .ref 0], hS u D J)) := (sy_at X [1394] d 333 7 _).trans rfl
set_option maxRecDepth 100000 in
theorem f333_1394 {X : XS} {d u : Nat} {D : Nat → Nat → Int32} {J : Nat → Nat → Int64} (x4 : Int32) (y0 : Int32) (y1 : Int32) : Ev X d 333 (1394, [.ref 900000, .ref 0, .ref 70, .ref 95, .int x4, .null, .null], [.int y0, .int y1, .ref 0], hS u D J) =
    gd (ob (x4 + 3) X.2) (Ev X d 333 (1399, [.ref 900000, .ref 0, .ref 70, .ref 95, .int x4, .null, .null], [.int (X.1 (x4 + 3).toNatClampNeg), .int y0, .int y1, .ref 0], hS u D J)) := (sy_at X [1399] d 333 7 _).trans rfl
set_option maxRecDepth 100000 in
theorem f333_1399 {X : XS} {d u : Nat} {D : Nat → Nat → Int32} {J : Nat → Nat → Int64} (x4 : Int32) (y0 : Int32) (y1 : Int32) (y2 : Int32) : Ev X (d + 1) 333 (1399, [.ref 900000, .ref 0, .ref 70, .ref 95, .int x4, .null, .null], [.int y0, .int y1, .int y2, .ref 0], hS u D J) =
    bI (EvM X d 324 [.ref 0, .int y2, .int y1, .int y0, .ref 95] (hS u D J)) (fun y h => Ev X (d + 1) 333 (1401, [.ref 900000, .ref 0, .ref 70, .ref 95, .int x4, .null, .null], [.int y], h)) (fun e h => none) := (sy_at X [1401] (d + 1) 333 4 _).trans rfl
set_option maxRecDepth 100000 in
theorem e333_1383 {X : XS} {d u : Nat} {D : Nat → Nat → Int32} {J : Nat → Nat → Int64} (x4 : Int32) : Ev X (d + 1) 333 (1383, [.ref 900000, .ref 0, .ref 70, .ref 95, .int x4, .null, .null], [], hS u D J) =
    gd (ob (x4 + 1) X.2) (gd (ob (x4 + 2) X.2) (gd (ob (x4 + 3) X.2) (bI (EvM X d 324 [.ref 0, .int (X.1 (x4 + 1).toNatClampNeg), .int (X.1 (x4 + 2).toNatClampNeg), .int (X.1 (x4 + 3).toNatClampNeg), .ref 95] (hS u D J)) (fun y h => Ev X (d + 1) 333 (1401, [.ref 900000, .ref 0, .ref 70, .ref 95, .int x4, .null, .null], [.int y], h)) (fun e h => none)))) := by
  refine (f333_1383 _).trans ?_
  simp only [f333_1389, f333_1394, f333_1399]
set_option maxRecDepth 100000 in
theorem e333_1401 {X : XS} {d u : Nat} {D : Nat → Nat → Int32} {J : Nat → Nat → Int64} (x4 : Int32) (y0 : Int32) : Ev X d 333 (1401, [.ref 900000, .ref 0, .ref 70, .ref 95, .int x4, .null, .null], [.int y0], hS u D J) =
    Ev X d 333 (1402, [.ref 900000, .ref 0, .ref 70, .ref 95, .int x4, .int y0, .null], [], hS u D J) := (sy_at X [1402] d 333 3 _).trans rfl
set_option maxRecDepth 100000 in
theorem f333_1402 {X : XS} {d u : Nat} {D : Nat → Nat → Int32} {J : Nat → Nat → Int64} (x4 : Int32) (x5 : Int32) : Ev X d 333 (1402, [.ref 900000, .ref 0, .ref 70, .ref 95, .int x4, .int x5, .null], [], hS u D J) =
    gd (ob (x4 + 1) X.2) (Ev X d 333 (1408, [.ref 900000, .ref 0, .ref 70, .ref 95, .int x4, .int x5, .null], [.int (X.1 (x4 + 1).toNatClampNeg), .ref 70], hS u D J)) := (sy_at X [1408] d 333 8 _).trans rfl
set_option maxRecDepth 100000 in
theorem f333_1408 {X : XS} {d u : Nat} {D : Nat → Nat → Int32} {J : Nat → Nat → Int64} (x4 : Int32) (x5 : Int32) (y0 : Int32) : Ev X d 333 (1408, [.ref 900000, .ref 0, .ref 70, .ref 95, .int x4, .int x5, .null], [.int y0, .ref 70], hS u D J) =
    gd (ob (x4 + 2) X.2) (Ev X d 333 (1413, [.ref 900000, .ref 0, .ref 70, .ref 95, .int x4, .int x5, .null], [.int (X.1 (x4 + 2).toNatClampNeg), .int y0, .ref 70], hS u D J)) := (sy_at X [1413] d 333 7 _).trans rfl
set_option maxRecDepth 100000 in
theorem f333_1413 {X : XS} {d u : Nat} {D : Nat → Nat → Int32} {J : Nat → Nat → Int64} (x4 : Int32) (x5 : Int32) (y0 : Int32) (y1 : Int32) : Ev X d 333 (1413, [.ref 900000, .ref 0, .ref 70, .ref 95, .int x4, .int x5, .null], [.int y0, .int y1, .ref 70], hS u D J) =
    gd (ob (x4 + 3) X.2) (Ev X d 333 (1418, [.ref 900000, .ref 0, .ref 70, .ref 95, .int x4, .int x5, .null], [.int (X.1 (x4 + 3).toNatClampNeg), .int y0, .int y1, .ref 70], hS u D J)) := (sy_at X [1418] d 333 7 _).trans rfl
set_option maxRecDepth 100000 in
theorem f333_1418 {X : XS} {d u : Nat} {D : Nat → Nat → Int32} {J : Nat → Nat → Int64} (x4 : Int32) (x5 : Int32) (y0 : Int32) (y1 : Int32) (y2 : Int32) : Ev X (d + 1) 333 (1418, [.ref 900000, .ref 0, .ref 70, .ref 95, .int x4, .int x5, .null], [.int y0, .int y1, .int y2, .ref 70], hS u D J) =
    bI (EvM X d 292 [.ref 70, .int y2, .int y1, .int y0] (hS u D J)) (fun y h => Ev X (d + 1) 333 (1419, [.ref 900000, .ref 0, .ref 70, .ref 95, .int x4, .int x5, .null], [.int y], h)) (fun e h => some (.inr e, h)) := (sy_at X [1419] (d + 1) 333 3 _).trans rfl
set_option maxRecDepth 100000 in
theorem e333_1402 {X : XS} {d u : Nat} {D : Nat → Nat → Int32} {J : Nat → Nat → Int64} (x4 : Int32) (x5 : Int32) : Ev X (d + 1) 333 (1402, [.ref 900000, .ref 0, .ref 70, .ref 95, .int x4, .int x5, .null], [], hS u D J) =
    gd (ob (x4 + 1) X.2) (gd (ob (x4 + 2) X.2) (gd (ob (x4 + 3) X.2) (bI (EvM X d 292 [.ref 70, .int (X.1 (x4 + 1).toNatClampNeg), .int (X.1 (x4 + 2).toNatClampNeg), .int (X.1 (x4 + 3).toNatClampNeg)] (hS u D J)) (fun y h => Ev X (d + 1) 333 (1419, [.ref 900000, .ref 0, .ref 70, .ref 95, .int x4, .int x5, .null], [.int y], h)) (fun e h => some (.inr e, h))))) := by
  refine (f333_1402 _ _).trans ?_
  simp only [f333_1408, f333_1413, f333_1418]
set_option maxRecDepth 100000 in
theorem e333_1419 {X : XS} {d u : Nat} {D : Nat → Nat → Int32} {J : Nat → Nat → Int64} (x4 : Int32) (x5 : Int32) (y0 : Int32) : Ev X d 333 (1419, [.ref 900000, .ref 0, .ref 70, .ref 95, .int x4, .int x5, .null], [.int y0], hS u D J) =
    Ev X d 333 (1420, [.ref 900000, .ref 0, .ref 70, .ref 95, .int x4, .int x5, .int y0], [], hS u D J) := (sy_at X [1420] d 333 3 _).trans rfl
set_option maxRecDepth 100000 in
theorem e333_1420 {X : XS} {d u : Nat} {D : Nat → Nat → Int32} {J : Nat → Nat → Int64} (x4 : Int32) (x5 : Int32) (x6 : Int32) : Ev X (d + 1) 333 (1420, [.ref 900000, .ref 0, .ref 70, .ref 95, .int x4, .int x5, .int x6], [], hS u D J) =
    bI (EvM X d 171 [.ref 70] (hS u D J)) (fun y h => Ev X (d + 1) 333 (1422, [.ref 900000, .ref 0, .ref 70, .ref 95, .int x4, .int x5, .int x6], [.int y], h)) (fun e h => some (.inr e, h)) := (sy_at X [1422] (d + 1) 333 4 _).trans rfl
set_option maxRecDepth 100000 in
theorem e333_1422 {X : XS} {d u : Nat} {D : Nat → Nat → Int32} {J : Nat → Nat → Int64} (x4 : Int32) (x5 : Int32) (x6 : Int32) (y0 : Int32) : Ev X d 333 (1422, [.ref 900000, .ref 0, .ref 70, .ref 95, .int x4, .int x5, .int x6], [.int y0], hS u D J) =
    br (decide (y0 = x5)) (br (decide (¬ x5 = 0)) (Ev X d 333 (1712, [.ref 900000, .ref 0, .ref 70, .ref 95, .int x4, .int x5, .int x6], [], hS u D J)) (br (decide ((lg_cmp (J 95 0) (Int32.toInt64 x6)) = 0)) (Ev X d 333 (1712, [.ref 900000, .ref 0, .ref 70, .ref 95, .int x4, .int x5, .int x6], [], hS u D J)) (some (.inl (some (.int 0)), hS u D J)))) (some (.inl (some (.int 0)), hS u D J)) := (sy_at X [1712] d 333 15 _).trans rfl
set_option maxRecDepth 100000 in
theorem f333_1438 {X : XS} {d u : Nat} {D : Nat → Nat → Int32} {J : Nat → Nat → Int64} (x4 : Int32) : Ev X d 333 (1438, [.ref 900000, .ref 0, .ref 70, .ref 95, .int x4, .null, .null], [], hS u D J) =
    gd (ob (x4 + 1) X.2) (Ev X d 333 (1444, [.ref 900000, .ref 0, .ref 70, .ref 95, .int x4, .null, .null], [.int (X.1 (x4 + 1).toNatClampNeg), .ref 0], hS u D J)) := (sy_at X [1444] d 333 8 _).trans rfl
set_option maxRecDepth 100000 in
theorem f333_1444 {X : XS} {d u : Nat} {D : Nat → Nat → Int32} {J : Nat → Nat → Int64} (x4 : Int32) (y0 : Int32) : Ev X d 333 (1444, [.ref 900000, .ref 0, .ref 70, .ref 95, .int x4, .null, .null], [.int y0, .ref 0], hS u D J) =
    gd (ob (x4 + 2) X.2) (Ev X d 333 (1449, [.ref 900000, .ref 0, .ref 70, .ref 95, .int x4, .null, .null], [.int (X.1 (x4 + 2).toNatClampNeg), .int y0, .ref 0], hS u D J)) := (sy_at X [1449] d 333 7 _).trans rfl
set_option maxRecDepth 100000 in
theorem f333_1449 {X : XS} {d u : Nat} {D : Nat → Nat → Int32} {J : Nat → Nat → Int64} (x4 : Int32) (y0 : Int32) (y1 : Int32) : Ev X (d + 1) 333 (1449, [.ref 900000, .ref 0, .ref 70, .ref 95, .int x4, .null, .null], [.int y0, .int y1, .ref 0], hS u D J) =
    bI (EvM X d 325 [.ref 0, .int y1, .int y0, .ref 95] (hS u D J)) (fun y h => Ev X (d + 1) 333 (1451, [.ref 900000, .ref 0, .ref 70, .ref 95, .int x4, .null, .null], [.int y], h)) (fun e h => none) := (sy_at X [1451] (d + 1) 333 4 _).trans rfl
set_option maxRecDepth 100000 in
theorem e333_1438 {X : XS} {d u : Nat} {D : Nat → Nat → Int32} {J : Nat → Nat → Int64} (x4 : Int32) : Ev X (d + 1) 333 (1438, [.ref 900000, .ref 0, .ref 70, .ref 95, .int x4, .null, .null], [], hS u D J) =
    gd (ob (x4 + 1) X.2) (gd (ob (x4 + 2) X.2) (bI (EvM X d 325 [.ref 0, .int (X.1 (x4 + 1).toNatClampNeg), .int (X.1 (x4 + 2).toNatClampNeg), .ref 95] (hS u D J)) (fun y h => Ev X (d + 1) 333 (1451, [.ref 900000, .ref 0, .ref 70, .ref 95, .int x4, .null, .null], [.int y], h)) (fun e h => none))) := by
  refine (f333_1438 _).trans ?_
  simp only [f333_1444, f333_1449]
set_option maxRecDepth 100000 in
theorem e333_1451 {X : XS} {d u : Nat} {D : Nat → Nat → Int32} {J : Nat → Nat → Int64} (x4 : Int32) (y0 : Int32) : Ev X d 333 (1451, [.ref 900000, .ref 0, .ref 70, .ref 95, .int x4, .null, .null], [.int y0], hS u D J) =
    Ev X d 333 (1452, [.ref 900000, .ref 0, .ref 70, .ref 95, .int x4, .int y0, .null], [], hS u D J) := (sy_at X [1452] d 333 3 _).trans rfl
set_option maxRecDepth 100000 in
theorem f333_1452 {X : XS} {d u : Nat} {D : Nat → Nat → Int32} {J : Nat → Nat → Int64} (x4 : Int32) (x5 : Int32) : Ev X d 333 (1452, [.ref 900000, .ref 0, .ref 70, .ref 95, .int x4, .int x5, .null], [], hS u D J) =
    gd (ob (x4 + 1) X.2) (Ev X d 333 (1458, [.ref 900000, .ref 0, .ref 70, .ref 95, .int x4, .int x5, .null], [.int (X.1 (x4 + 1).toNatClampNeg), .ref 70], hS u D J)) := (sy_at X [1458] d 333 8 _).trans rfl
set_option maxRecDepth 100000 in
theorem f333_1458 {X : XS} {d u : Nat} {D : Nat → Nat → Int32} {J : Nat → Nat → Int64} (x4 : Int32) (x5 : Int32) (y0 : Int32) : Ev X d 333 (1458, [.ref 900000, .ref 0, .ref 70, .ref 95, .int x4, .int x5, .null], [.int y0, .ref 70], hS u D J) =
    gd (ob (x4 + 2) X.2) (Ev X d 333 (1463, [.ref 900000, .ref 0, .ref 70, .ref 95, .int x4, .int x5, .null], [.int (X.1 (x4 + 2).toNatClampNeg), .int y0, .ref 70], hS u D J)) := (sy_at X [1463] d 333 7 _).trans rfl
set_option maxRecDepth 100000 in
theorem f333_1463 {X : XS} {d u : Nat} {D : Nat → Nat → Int32} {J : Nat → Nat → Int64} (x4 : Int32) (x5 : Int32) (y0 : Int32) (y1 : Int32) : Ev X (d + 1) 333 (1463, [.ref 900000, .ref 0, .ref 70, .ref 95, .int x4, .int x5, .null], [.int y0, .int y1, .ref 70], hS u D J) =
    bI (EvM X d 262 [.ref 70, .int y1, .int y0] (hS u D J)) (fun y h => Ev X (d + 1) 333 (1464, [.ref 900000, .ref 0, .ref 70, .ref 95, .int x4, .int x5, .null], [.int y], h)) (fun e h => some (.inr e, h)) := (sy_at X [1464] (d + 1) 333 3 _).trans rfl
set_option maxRecDepth 100000 in
theorem e333_1452 {X : XS} {d u : Nat} {D : Nat → Nat → Int32} {J : Nat → Nat → Int64} (x4 : Int32) (x5 : Int32) : Ev X (d + 1) 333 (1452, [.ref 900000, .ref 0, .ref 70, .ref 95, .int x4, .int x5, .null], [], hS u D J) =
    gd (ob (x4 + 1) X.2) (gd (ob (x4 + 2) X.2) (bI (EvM X d 262 [.ref 70, .int (X.1 (x4 + 1).toNatClampNeg), .int (X.1 (x4 + 2).toNatClampNeg)] (hS u D J)) (fun y h => Ev X (d + 1) 333 (1464, [.ref 900000, .ref 0, .ref 70, .ref 95, .int x4, .int x5, .null], [.int y], h)) (fun e h => some (.inr e, h)))) := by
  refine (f333_1452 _ _).trans ?_
  simp only [f333_1458, f333_1463]
set_option maxRecDepth 100000 in
theorem e333_1464 {X : XS} {d u : Nat} {D : Nat → Nat → Int32} {J : Nat → Nat → Int64} (x4 : Int32) (x5 : Int32) (y0 : Int32) : Ev X d 333 (1464, [.ref 900000, .ref 0, .ref 70, .ref 95, .int x4, .int x5, .null], [.int y0], hS u D J) =
    Ev X d 333 (1465, [.ref 900000, .ref 0, .ref 70, .ref 95, .int x4, .int x5, .int y0], [], hS u D J) := (sy_at X [1465] d 333 3 _).trans rfl
set_option maxRecDepth 100000 in
theorem e333_1465 {X : XS} {d u : Nat} {D : Nat → Nat → Int32} {J : Nat → Nat → Int64} (x4 : Int32) (x5 : Int32) (x6 : Int32) : Ev X (d + 1) 333 (1465, [.ref 900000, .ref 0, .ref 70, .ref 95, .int x4, .int x5, .int x6], [], hS u D J) =
    bI (EvM X d 171 [.ref 70] (hS u D J)) (fun y h => Ev X (d + 1) 333 (1467, [.ref 900000, .ref 0, .ref 70, .ref 95, .int x4, .int x5, .int x6], [.int y], h)) (fun e h => some (.inr e, h)) := (sy_at X [1467] (d + 1) 333 4 _).trans rfl
set_option maxRecDepth 100000 in
theorem e333_1467 {X : XS} {d u : Nat} {D : Nat → Nat → Int32} {J : Nat → Nat → Int64} (x4 : Int32) (x5 : Int32) (x6 : Int32) (y0 : Int32) : Ev X d 333 (1467, [.ref 900000, .ref 0, .ref 70, .ref 95, .int x4, .int x5, .int x6], [.int y0], hS u D J) =
    br (decide (y0 = x5)) (br (decide (¬ x5 = 0)) (Ev X d 333 (1712, [.ref 900000, .ref 0, .ref 70, .ref 95, .int x4, .int x5, .int x6], [], hS u D J)) (br (decide ((lg_cmp (J 95 0) (Int32.toInt64 x6)) = 0)) (Ev X d 333 (1712, [.ref 900000, .ref 0, .ref 70, .ref 95, .int x4, .int x5, .int x6], [], hS u D J)) (some (.inl (some (.int 0)), hS u D J)))) (some (.inl (some (.int 0)), hS u D J)) := (sy_at X [1712] d 333 15 _).trans rfl
set_option maxRecDepth 100000 in
theorem f333_1483 {X : XS} {d u : Nat} {D : Nat → Nat → Int32} {J : Nat → Nat → Int64} (x4 : Int32) : Ev X d 333 (1483, [.ref 900000, .ref 0, .ref 70, .ref 95, .int x4, .null, .null], [], hS u D J) =
    gd (ob (x4 + 1) X.2) (Ev X d 333 (1489, [.ref 900000, .ref 0, .ref 70, .ref 95, .int x4, .null, .null], [.int (X.1 (x4 + 1).toNatClampNeg), .ref 0], hS u D J)) := (sy_at X [1489] d 333 8 _).trans rfl
set_option maxRecDepth 100000 in
theorem f333_1489 {X : XS} {d u : Nat} {D : Nat → Nat → Int32} {J : Nat → Nat → Int64} (x4 : Int32) (y0 : Int32) : Ev X d 333 (1489, [.ref 900000, .ref 0, .ref 70, .ref 95, .int x4, .null, .null], [.int y0, .ref 0], hS u D J) =
    gd (ob (x4 + 2) X.2) (Ev X d 333 (1494, [.ref 900000, .ref 0, .ref 70, .ref 95, .int x4, .null, .null], [.int (X.1 (x4 + 2).toNatClampNeg), .int y0, .ref 0], hS u D J)) := (sy_at X [1494] d 333 7 _).trans rfl
set_option maxRecDepth 100000 in
theorem f333_1494 {X : XS} {d u : Nat} {D : Nat → Nat → Int32} {J : Nat → Nat → Int64} (x4 : Int32) (y0 : Int32) (y1 : Int32) : Ev X d 333 (1494, [.ref 900000, .ref 0, .ref 70, .ref 95, .int x4, .null, .null], [.int y0, .int y1, .ref 0], hS u D J) =
    gd (ob (x4 + 3) X.2) (Ev X d 333 (1499, [.ref 900000, .ref 0, .ref 70, .ref 95, .int x4, .null, .null], [.int (X.1 (x4 + 3).toNatClampNeg), .int y0, .int y1, .ref 0], hS u D J)) := (sy_at X [1499] d 333 7 _).trans rfl
set_option maxRecDepth 100000 in
theorem f333_1499 {X : XS} {d u : Nat} {D : Nat → Nat → Int32} {J : Nat → Nat → Int64} (x4 : Int32) (y0 : Int32) (y1 : Int32) (y2 : Int32) : Ev X (d + 1) 333 (1499, [.ref 900000, .ref 0, .ref 70, .ref 95, .int x4, .null, .null], [.int y0, .int y1, .int y2, .ref 0], hS u D J) =
    bI (EvM X d 326 [.ref 0, .int y2, .int y1, .int y0, .ref 95] (hS u D J)) (fun y h => Ev X (d + 1) 333 (1501, [.ref 900000, .ref 0, .ref 70, .ref 95, .int x4, .null, .null], [.int y], h)) (fun e h => none) := (sy_at X [1501] (d + 1) 333 4 _).trans rfl
set_option maxRecDepth 100000 in
theorem e333_1483 {X : XS} {d u : Nat} {D : Nat → Nat → Int32} {J : Nat → Nat → Int64} (x4 : Int32) : Ev X (d + 1) 333 (1483, [.ref 900000, .ref 0, .ref 70, .ref 95, .int x4, .null, .null], [], hS u D J) =
    gd (ob (x4 + 1) X.2) (gd (ob (x4 + 2) X.2) (gd (ob (x4 + 3) X.2) (bI (EvM X d 326 [.ref 0, .int (X.1 (x4 + 1).toNatClampNeg), .int (X.1 (x4 + 2).toNatClampNeg), .int (X.1 (x4 + 3).toNatClampNeg), .ref 95] (hS u D J)) (fun y h => Ev X (d + 1) 333 (1501, [.ref 900000, .ref 0, .ref 70, .ref 95, .int x4, .null, .null], [.int y], h)) (fun e h => none)))) := by
  refine (f333_1483 _).trans ?_
  simp only [f333_1489, f333_1494, f333_1499]
set_option maxRecDepth 100000 in
theorem e333_1501 {X : XS} {d u : Nat} {D : Nat → Nat → Int32} {J : Nat → Nat → Int64} (x4 : Int32) (y0 : Int32) : Ev X d 333 (1501, [.ref 900000, .ref 0, .ref 70, .ref 95, .int x4, .null, .null], [.int y0], hS u D J) =
    Ev X d 333 (1502, [.ref 900000, .ref 0, .ref 70, .ref 95, .int x4, .int y0, .null], [], hS u D J) := (sy_at X [1502] d 333 3 _).trans rfl
set_option maxRecDepth 100000 in
theorem f333_1502 {X : XS} {d u : Nat} {D : Nat → Nat → Int32} {J : Nat → Nat → Int64} (x4 : Int32) (x5 : Int32) : Ev X d 333 (1502, [.ref 900000, .ref 0, .ref 70, .ref 95, .int x4, .int x5, .null], [], hS u D J) =
    gd (ob (x4 + 1) X.2) (Ev X d 333 (1508, [.ref 900000, .ref 0, .ref 70, .ref 95, .int x4, .int x5, .null], [.int (X.1 (x4 + 1).toNatClampNeg), .ref 70], hS u D J)) := (sy_at X [1508] d 333 8 _).trans rfl
set_option maxRecDepth 100000 in
theorem f333_1508 {X : XS} {d u : Nat} {D : Nat → Nat → Int32} {J : Nat → Nat → Int64} (x4 : Int32) (x5 : Int32) (y0 : Int32) : Ev X d 333 (1508, [.ref 900000, .ref 0, .ref 70, .ref 95, .int x4, .int x5, .null], [.int y0, .ref 70], hS u D J) =
    gd (ob (x4 + 2) X.2) (Ev X d 333 (1513, [.ref 900000, .ref 0, .ref 70, .ref 95, .int x4, .int x5, .null], [.int (X.1 (x4 + 2).toNatClampNeg), .int y0, .ref 70], hS u D J)) := (sy_at X [1513] d 333 7 _).trans rfl
set_option maxRecDepth 100000 in
theorem f333_1513 {X : XS} {d u : Nat} {D : Nat → Nat → Int32} {J : Nat → Nat → Int64} (x4 : Int32) (x5 : Int32) (y0 : Int32) (y1 : Int32) : Ev X d 333 (1513, [.ref 900000, .ref 0, .ref 70, .ref 95, .int x4, .int x5, .null], [.int y0, .int y1, .ref 70], hS u D J) =
    gd (ob (x4 + 3) X.2) (Ev X d 333 (1518, [.ref 900000, .ref 0, .ref 70, .ref 95, .int x4, .int x5, .null], [.int (X.1 (x4 + 3).toNatClampNeg), .int y0, .int y1, .ref 70], hS u D J)) := (sy_at X [1518] d 333 7 _).trans rfl
set_option maxRecDepth 100000 in
theorem f333_1518 {X : XS} {d u : Nat} {D : Nat → Nat → Int32} {J : Nat → Nat → Int64} (x4 : Int32) (x5 : Int32) (y0 : Int32) (y1 : Int32) (y2 : Int32) : Ev X (d + 1) 333 (1518, [.ref 900000, .ref 0, .ref 70, .ref 95, .int x4, .int x5, .null], [.int y0, .int y1, .int y2, .ref 70], hS u D J) =
    bI (EvM X d 259 [.ref 70, .int y2, .int y1, .int y0] (hS u D J)) (fun y h => Ev X (d + 1) 333 (1519, [.ref 900000, .ref 0, .ref 70, .ref 95, .int x4, .int x5, .null], [.int y], h)) (fun e h => some (.inr e, h)) := (sy_at X [1519] (d + 1) 333 3 _).trans rfl
set_option maxRecDepth 100000 in
theorem e333_1502 {X : XS} {d u : Nat} {D : Nat → Nat → Int32} {J : Nat → Nat → Int64} (x4 : Int32) (x5 : Int32) : Ev X (d + 1) 333 (1502, [.ref 900000, .ref 0, .ref 70, .ref 95, .int x4, .int x5, .null], [], hS u D J) =
    gd (ob (x4 + 1) X.2) (gd (ob (x4 + 2) X.2) (gd (ob (x4 + 3) X.2) (bI (EvM X d 259 [.ref 70, .int (X.1 (x4 + 1).toNatClampNeg), .int (X.1 (x4 + 2).toNatClampNeg), .int (X.1 (x4 + 3).toNatClampNeg)] (hS u D J)) (fun y h => Ev X (d + 1) 333 (1519, [.ref 900000, .ref 0, .ref 70, .ref 95, .int x4, .int x5, .null], [.int y], h)) (fun e h => some (.inr e, h))))) := by
  refine (f333_1502 _ _).trans ?_
  simp only [f333_1508, f333_1513, f333_1518]
set_option maxRecDepth 100000 in
theorem e333_1519 {X : XS} {d u : Nat} {D : Nat → Nat → Int32} {J : Nat → Nat → Int64} (x4 : Int32) (x5 : Int32) (y0 : Int32) : Ev X d 333 (1519, [.ref 900000, .ref 0, .ref 70, .ref 95, .int x4, .int x5, .null], [.int y0], hS u D J) =
    Ev X d 333 (1520, [.ref 900000, .ref 0, .ref 70, .ref 95, .int x4, .int x5, .int y0], [], hS u D J) := (sy_at X [1520] d 333 3 _).trans rfl
set_option maxRecDepth 100000 in
theorem e333_1520 {X : XS} {d u : Nat} {D : Nat → Nat → Int32} {J : Nat → Nat → Int64} (x4 : Int32) (x5 : Int32) (x6 : Int32) : Ev X (d + 1) 333 (1520, [.ref 900000, .ref 0, .ref 70, .ref 95, .int x4, .int x5, .int x6], [], hS u D J) =
    bI (EvM X d 171 [.ref 70] (hS u D J)) (fun y h => Ev X (d + 1) 333 (1522, [.ref 900000, .ref 0, .ref 70, .ref 95, .int x4, .int x5, .int x6], [.int y], h)) (fun e h => some (.inr e, h)) := (sy_at X [1522] (d + 1) 333 4 _).trans rfl
set_option maxRecDepth 100000 in
theorem e333_1522 {X : XS} {d u : Nat} {D : Nat → Nat → Int32} {J : Nat → Nat → Int64} (x4 : Int32) (x5 : Int32) (x6 : Int32) (y0 : Int32) : Ev X d 333 (1522, [.ref 900000, .ref 0, .ref 70, .ref 95, .int x4, .int x5, .int x6], [.int y0], hS u D J) =
    br (decide (y0 = x5)) (br (decide (¬ x5 = 0)) (Ev X d 333 (1712, [.ref 900000, .ref 0, .ref 70, .ref 95, .int x4, .int x5, .int x6], [], hS u D J)) (br (decide ((lg_cmp (J 95 0) (Int32.toInt64 x6)) = 0)) (Ev X d 333 (1712, [.ref 900000, .ref 0, .ref 70, .ref 95, .int x4, .int x5, .int x6], [], hS u D J)) (some (.inl (some (.int 0)), hS u D J)))) (some (.inl (some (.int 0)), hS u D J)) := (sy_at X [1712] d 333 15 _).trans rfl
set_option maxRecDepth 100000 in
theorem f333_1538 {X : XS} {d u : Nat} {D : Nat → Nat → Int32} {J : Nat → Nat → Int64} (x4 : Int32) : Ev X d 333 (1538, [.ref 900000, .ref 0, .ref 70, .ref 95, .int x4, .null, .null], [], hS u D J) =
    gd (ob (x4 + 1) X.2) (Ev X d 333 (1544, [.ref 900000, .ref 0, .ref 70, .ref 95, .int x4, .null, .null], [.int (X.1 (x4 + 1).toNatClampNeg), .ref 0], hS u D J)) := (sy_at X [1544] d 333 8 _).trans rfl
set_option maxRecDepth 100000 in
theorem f333_1544 {X : XS} {d u : Nat} {D : Nat → Nat → Int32} {J : Nat → Nat → Int64} (x4 : Int32) (y0 : Int32) : Ev X d 333 (1544, [.ref 900000, .ref 0, .ref 70, .ref 95, .int x4, .null, .null], [.int y0, .ref 0], hS u D J) =
    gd (ob (x4 + 2) X.2) (Ev X d 333 (1549, [.ref 900000, .ref 0, .ref 70, .ref 95, .int x4, .null, .null], [.int (X.1 (x4 + 2).toNatClampNeg), .int y0, .ref 0], hS u D J)) := (sy_at X [1549] d 333 7 _).trans rfl
set_option maxRecDepth 100000 in
theorem f333_1549 {X : XS} {d u : Nat} {D : Nat → Nat → Int32} {J : Nat → Nat → Int64} (x4 : Int32) (y0 : Int32) (y1 : Int32) : Ev X d 333 (1549, [.ref 900000, .ref 0, .ref 70, .ref 95, .int x4, .null, .null], [.int y0, .int y1, .ref 0], hS u D J) =
    gd (ob (x4 + 3) X.2) (Ev X d 333 (1554, [.ref 900000, .ref 0, .ref 70, .ref 95, .int x4, .null, .null], [.int (X.1 (x4 + 3).toNatClampNeg), .int y0, .int y1, .ref 0], hS u D J)) := (sy_at X [1554] d 333 7 _).trans rfl
set_option maxRecDepth 100000 in
theorem f333_1554 {X : XS} {d u : Nat} {D : Nat → Nat → Int32} {J : Nat → Nat → Int64} (x4 : Int32) (y0 : Int32) (y1 : Int32) (y2 : Int32) : Ev X (d + 1) 333 (1554, [.ref 900000, .ref 0, .ref 70, .ref 95, .int x4, .null, .null], [.int y0, .int y1, .int y2, .ref 0], hS u D J) =
    bI (EvM X d 327 [.ref 0, .int y2, .int y1, .int y0, .ref 95] (hS u D J)) (fun y h => Ev X (d + 1) 333 (1556, [.ref 900000, .ref 0, .ref 70, .ref 95, .int x4, .null, .null], [.int y], h)) (fun e h => none) := (sy_at X [1556] (d + 1) 333 4 _).trans rfl
set_option maxRecDepth 100000 in
theorem e333_1538 {X : XS} {d u : Nat} {D : Nat → Nat → Int32} {J : Nat → Nat → Int64} (x4 : Int32) : Ev X (d + 1) 333 (1538, [.ref 900000, .ref 0, .ref 70, .ref 95, .int x4, .null, .null], [], hS u D J) =
    gd (ob (x4 + 1) X.2) (gd (ob (x4 + 2) X.2) (gd (ob (x4 + 3) X.2) (bI (EvM X d 327 [.ref 0, .int (X.1 (x4 + 1).toNatClampNeg), .int (X.1 (x4 + 2).toNatClampNeg), .int (X.1 (x4 + 3).toNatClampNeg), .ref 95] (hS u D J)) (fun y h => Ev X (d + 1) 333 (1556, [.ref 900000, .ref 0, .ref 70, .ref 95, .int x4, .null, .null], [.int y], h)) (fun e h => none)))) := by
  refine (f333_1538 _).trans ?_
  simp only [f333_1544, f333_1549, f333_1554]
set_option maxRecDepth 100000 in
theorem e333_1556 {X : XS} {d u : Nat} {D : Nat → Nat → Int32} {J : Nat → Nat → Int64} (x4 : Int32) (y0 : Int32) : Ev X d 333 (1556, [.ref 900000, .ref 0, .ref 70, .ref 95, .int x4, .null, .null], [.int y0], hS u D J) =
    Ev X d 333 (1557, [.ref 900000, .ref 0, .ref 70, .ref 95, .int x4, .int y0, .null], [], hS u D J) := (sy_at X [1557] d 333 3 _).trans rfl
set_option maxRecDepth 100000 in
theorem f333_1557 {X : XS} {d u : Nat} {D : Nat → Nat → Int32} {J : Nat → Nat → Int64} (x4 : Int32) (x5 : Int32) : Ev X d 333 (1557, [.ref 900000, .ref 0, .ref 70, .ref 95, .int x4, .int x5, .null], [], hS u D J) =
    gd (ob (x4 + 1) X.2) (Ev X d 333 (1563, [.ref 900000, .ref 0, .ref 70, .ref 95, .int x4, .int x5, .null], [.int (X.1 (x4 + 1).toNatClampNeg), .ref 70], hS u D J)) := (sy_at X [1563] d 333 8 _).trans rfl
set_option maxRecDepth 100000 in
theorem f333_1563 {X : XS} {d u : Nat} {D : Nat → Nat → Int32} {J : Nat → Nat → Int64} (x4 : Int32) (x5 : Int32) (y0 : Int32) : Ev X d 333 (1563, [.ref 900000, .ref 0, .ref 70, .ref 95, .int x4, .int x5, .null], [.int y0, .ref 70], hS u D J) =
    gd (ob (x4 + 2) X.2) (Ev X d 333 (1568, [.ref 900000, .ref 0, .ref 70, .ref 95, .int x4, .int x5, .null], [.int (X.1 (x4 + 2).toNatClampNeg), .int y0, .ref 70], hS u D J)) := (sy_at X [1568] d 333 7 _).trans rfl
set_option maxRecDepth 100000 in
theorem f333_1568 {X : XS} {d u : Nat} {D : Nat → Nat → Int32} {J : Nat → Nat → Int64} (x4 : Int32) (x5 : Int32) (y0 : Int32) (y1 : Int32) : Ev X d 333 (1568, [.ref 900000, .ref 0, .ref 70, .ref 95, .int x4, .int x5, .null], [.int y0, .int y1, .ref 70], hS u D J) =
    gd (ob (x4 + 3) X.2) (Ev X d 333 (1573, [.ref 900000, .ref 0, .ref 70, .ref 95, .int x4, .int x5, .null], [.int (X.1 (x4 + 3).toNatClampNeg), .int y0, .int y1, .ref 70], hS u D J)) := (sy_at X [1573] d 333 7 _).trans rfl
set_option maxRecDepth 100000 in
theorem f333_1573 {X : XS} {d u : Nat} {D : Nat → Nat → Int32} {J : Nat → Nat → Int64} (x4 : Int32) (x5 : Int32) (y0 : Int32) (y1 : Int32) (y2 : Int32) : Ev X (d + 1) 333 (1573, [.ref 900000, .ref 0, .ref 70, .ref 95, .int x4, .int x5, .null], [.int y0, .int y1, .int y2, .ref 70], hS u D J) =
    bI (EvM X d 264 [.ref 70, .int y2, .int y1, .int y0] (hS u D J)) (fun y h => Ev X (d + 1) 333 (1574, [.ref 900000, .ref 0, .ref 70, .ref 95, .int x4, .int x5, .null], [.int y], h)) (fun e h => some (.inr e, h)) := (sy_at X [1574] (d + 1) 333 3 _).trans rfl
set_option maxRecDepth 100000 in
theorem e333_1557 {X : XS} {d u : Nat} {D : Nat → Nat → Int32} {J : Nat → Nat → Int64} (x4 : Int32) (x5 : Int32) : Ev X (d + 1) 333 (1557, [.ref 900000, .ref 0, .ref 70, .ref 95, .int x4, .int x5, .null], [], hS u D J) =
    gd (ob (x4 + 1) X.2) (gd (ob (x4 + 2) X.2) (gd (ob (x4 + 3) X.2) (bI (EvM X d 264 [.ref 70, .int (X.1 (x4 + 1).toNatClampNeg), .int (X.1 (x4 + 2).toNatClampNeg), .int (X.1 (x4 + 3).toNatClampNeg)] (hS u D J)) (fun y h => Ev X (d + 1) 333 (1574, [.ref 900000, .ref 0, .ref 70, .ref 95, .int x4, .int x5, .null], [.int y], h)) (fun e h => some (.inr e, h))))) := by
  refine (f333_1557 _ _).trans ?_
  simp only [f333_1563, f333_1568, f333_1573]
set_option maxRecDepth 100000 in
theorem e333_1574 {X : XS} {d u : Nat} {D : Nat → Nat → Int32} {J : Nat → Nat → Int64} (x4 : Int32) (x5 : Int32) (y0 : Int32) : Ev X d 333 (1574, [.ref 900000, .ref 0, .ref 70, .ref 95, .int x4, .int x5, .null], [.int y0], hS u D J) =
    Ev X d 333 (1575, [.ref 900000, .ref 0, .ref 70, .ref 95, .int x4, .int x5, .int y0], [], hS u D J) := (sy_at X [1575] d 333 3 _).trans rfl
set_option maxRecDepth 100000 in
theorem e333_1575 {X : XS} {d u : Nat} {D : Nat → Nat → Int32} {J : Nat → Nat → Int64} (x4 : Int32) (x5 : Int32) (x6 : Int32) : Ev X (d + 1) 333 (1575, [.ref 900000, .ref 0, .ref 70, .ref 95, .int x4, .int x5, .int x6], [], hS u D J) =
    bI (EvM X d 171 [.ref 70] (hS u D J)) (fun y h => Ev X (d + 1) 333 (1577, [.ref 900000, .ref 0, .ref 70, .ref 95, .int x4, .int x5, .int x6], [.int y], h)) (fun e h => some (.inr e, h)) := (sy_at X [1577] (d + 1) 333 4 _).trans rfl
set_option maxRecDepth 100000 in
theorem e333_1577 {X : XS} {d u : Nat} {D : Nat → Nat → Int32} {J : Nat → Nat → Int64} (x4 : Int32) (x5 : Int32) (x6 : Int32) (y0 : Int32) : Ev X d 333 (1577, [.ref 900000, .ref 0, .ref 70, .ref 95, .int x4, .int x5, .int x6], [.int y0], hS u D J) =
    br (decide (y0 = x5)) (br (decide (¬ x5 = 0)) (Ev X d 333 (1712, [.ref 900000, .ref 0, .ref 70, .ref 95, .int x4, .int x5, .int x6], [], hS u D J)) (br (decide ((lg_cmp (J 95 0) (Int32.toInt64 x6)) = 0)) (Ev X d 333 (1712, [.ref 900000, .ref 0, .ref 70, .ref 95, .int x4, .int x5, .int x6], [], hS u D J)) (some (.inl (some (.int 0)), hS u D J)))) (some (.inl (some (.int 0)), hS u D J)) := (sy_at X [1712] d 333 15 _).trans rfl
set_option maxRecDepth 100000 in
theorem f333_1593 {X : XS} {d u : Nat} {D : Nat → Nat → Int32} {J : Nat → Nat → Int64} (x4 : Int32) : Ev X d 333 (1593, [.ref 900000, .ref 0, .ref 70, .ref 95, .int x4, .null, .null], [], hS u D J) =
    gd (ob (x4 + 1) X.2) (Ev X d 333 (1599, [.ref 900000, .ref 0, .ref 70, .ref 95, .int x4, .null, .null], [.int (X.1 (x4 + 1).toNatClampNeg), .ref 0], hS u D J)) := (sy_at X [1599] d 333 8 _).trans rfl
set_option maxRecDepth 100000 in
theorem f333_1599 {X : XS} {d u : Nat} {D : Nat → Nat → Int32} {J : Nat → Nat → Int64} (x4 : Int32) (y0 : Int32) : Ev X d 333 (1599, [.ref 900000, .ref 0, .ref 70, .ref 95, .int x4, .null, .null], [.int y0, .ref 0], hS u D J) =
    gd (ob (x4 + 2) X.2) (Ev X d 333 (1604, [.ref 900000, .ref 0, .ref 70, .ref 95, .int x4, .null, .null], [.int (X.1 (x4 + 2).toNatClampNeg), .int y0, .ref 0], hS u D J)) := (sy_at X [1604] d 333 7 _).trans rfl
set_option maxRecDepth 100000 in
theorem f333_1604 {X : XS} {d u : Nat} {D : Nat → Nat → Int32} {J : Nat → Nat → Int64} (x4 : Int32) (y0 : Int32) (y1 : Int32) : Ev X (d + 1) 333 (1604, [.ref 900000, .ref 0, .ref 70, .ref 95, .int x4, .null, .null], [.int y0, .int y1, .ref 0], hS u D J) =
    bI (EvM X d 328 [.ref 0, .int y1, .int y0, .ref 95] (hS u D J)) (fun y h => Ev X (d + 1) 333 (1606, [.ref 900000, .ref 0, .ref 70, .ref 95, .int x4, .null, .null], [.int y], h)) (fun e h => none) := (sy_at X [1606] (d + 1) 333 4 _).trans rfl
set_option maxRecDepth 100000 in
theorem e333_1593 {X : XS} {d u : Nat} {D : Nat → Nat → Int32} {J : Nat → Nat → Int64} (x4 : Int32) : Ev X (d + 1) 333 (1593, [.ref 900000, .ref 0, .ref 70, .ref 95, .int x4, .null, .null], [], hS u D J) =
    gd (ob (x4 + 1) X.2) (gd (ob (x4 + 2) X.2) (bI (EvM X d 328 [.ref 0, .int (X.1 (x4 + 1).toNatClampNeg), .int (X.1 (x4 + 2).toNatClampNeg), .ref 95] (hS u D J)) (fun y h => Ev X (d + 1) 333 (1606, [.ref 900000, .ref 0, .ref 70, .ref 95, .int x4, .null, .null], [.int y], h)) (fun e h => none))) := by
  refine (f333_1593 _).trans ?_
  simp only [f333_1599, f333_1604]
set_option maxRecDepth 100000 in
theorem e333_1606 {X : XS} {d u : Nat} {D : Nat → Nat → Int32} {J : Nat → Nat → Int64} (x4 : Int32) (y0 : Int32) : Ev X d 333 (1606, [.ref 900000, .ref 0, .ref 70, .ref 95, .int x4, .null, .null], [.int y0], hS u D J) =
    Ev X d 333 (1607, [.ref 900000, .ref 0, .ref 70, .ref 95, .int x4, .int y0, .null], [], hS u D J) := (sy_at X [1607] d 333 3 _).trans rfl
set_option maxRecDepth 100000 in
theorem f333_1607 {X : XS} {d u : Nat} {D : Nat → Nat → Int32} {J : Nat → Nat → Int64} (x4 : Int32) (x5 : Int32) : Ev X d 333 (1607, [.ref 900000, .ref 0, .ref 70, .ref 95, .int x4, .int x5, .null], [], hS u D J) =
    gd (ob (x4 + 1) X.2) (Ev X d 333 (1613, [.ref 900000, .ref 0, .ref 70, .ref 95, .int x4, .int x5, .null], [.int (X.1 (x4 + 1).toNatClampNeg), .ref 70], hS u D J)) := (sy_at X [1613] d 333 8 _).trans rfl
set_option maxRecDepth 100000 in
theorem f333_1613 {X : XS} {d u : Nat} {D : Nat → Nat → Int32} {J : Nat → Nat → Int64} (x4 : Int32) (x5 : Int32) (y0 : Int32) : Ev X d 333 (1613, [.ref 900000, .ref 0, .ref 70, .ref 95, .int x4, .int x5, .null], [.int y0, .ref 70], hS u D J) =
    gd (ob (x4 + 2) X.2) (Ev X d 333 (1618, [.ref 900000, .ref 0, .ref 70, .ref 95, .int x4, .int x5, .null], [.int (X.1 (x4 + 2).toNatClampNeg), .int y0, .ref 70], hS u D J)) := (sy_at X [1618] d 333 7 _).trans rfl
set_option maxRecDepth 100000 in
theorem f333_1618 {X : XS} {d u : Nat} {D : Nat → Nat → Int32} {J : Nat → Nat → Int64} (x4 : Int32) (x5 : Int32) (y0 : Int32) (y1 : Int32) : Ev X (d + 1) 333 (1618, [.ref 900000, .ref 0, .ref 70, .ref 95, .int x4, .int x5, .null], [.int y0, .int y1, .ref 70], hS u D J) =
    bI (EvM X d 260 [.ref 70, .int y1, .int y0] (hS u D J)) (fun y h => Ev X (d + 1) 333 (1619, [.ref 900000, .ref 0, .ref 70, .ref 95, .int x4, .int x5, .null], [.int y], h)) (fun e h => some (.inr e, h)) := (sy_at X [1619] (d + 1) 333 3 _).trans rfl
set_option maxRecDepth 100000 in
theorem e333_1607 {X : XS} {d u : Nat} {D : Nat → Nat → Int32} {J : Nat → Nat → Int64} (x4 : Int32) (x5 : Int32) : Ev X (d + 1) 333 (1607, [.ref 900000, .ref 0, .ref 70, .ref 95, .int x4, .int x5, .null], [], hS u D J) =
    gd (ob (x4 + 1) X.2) (gd (ob (x4 + 2) X.2) (bI (EvM X d 260 [.ref 70, .int (X.1 (x4 + 1).toNatClampNeg), .int (X.1 (x4 + 2).toNatClampNeg)] (hS u D J)) (fun y h => Ev X (d + 1) 333 (1619, [.ref 900000, .ref 0, .ref 70, .ref 95, .int x4, .int x5, .null], [.int y], h)) (fun e h => some (.inr e, h)))) := by
  refine (f333_1607 _ _).trans ?_
  simp only [f333_1613, f333_1618]
set_option maxRecDepth 100000 in
theorem e333_1619 {X : XS} {d u : Nat} {D : Nat → Nat → Int32} {J : Nat → Nat → Int64} (x4 : Int32) (x5 : Int32) (y0 : Int32) : Ev X d 333 (1619, [.ref 900000, .ref 0, .ref 70, .ref 95, .int x4, .int x5, .null], [.int y0], hS u D J) =
    Ev X d 333 (1620, [.ref 900000, .ref 0, .ref 70, .ref 95, .int x4, .int x5, .int y0], [], hS u D J) := (sy_at X [1620] d 333 3 _).trans rfl
set_option maxRecDepth 100000 in
theorem e333_1620 {X : XS} {d u : Nat} {D : Nat → Nat → Int32} {J : Nat → Nat → Int64} (x4 : Int32) (x5 : Int32) (x6 : Int32) : Ev X (d + 1) 333 (1620, [.ref 900000, .ref 0, .ref 70, .ref 95, .int x4, .int x5, .int x6], [], hS u D J) =
    bI (EvM X d 171 [.ref 70] (hS u D J)) (fun y h => Ev X (d + 1) 333 (1622, [.ref 900000, .ref 0, .ref 70, .ref 95, .int x4, .int x5, .int x6], [.int y], h)) (fun e h => some (.inr e, h)) := (sy_at X [1622] (d + 1) 333 4 _).trans rfl
set_option maxRecDepth 100000 in
theorem e333_1622 {X : XS} {d u : Nat} {D : Nat → Nat → Int32} {J : Nat → Nat → Int64} (x4 : Int32) (x5 : Int32) (x6 : Int32) (y0 : Int32) : Ev X d 333 (1622, [.ref 900000, .ref 0, .ref 70, .ref 95, .int x4, .int x5, .int x6], [.int y0], hS u D J) =
    br (decide (y0 = x5)) (br (decide (¬ x5 = 0)) (Ev X d 333 (1712, [.ref 900000, .ref 0, .ref 70, .ref 95, .int x4, .int x5, .int x6], [], hS u D J)) (br (decide ((lg_cmp (J 95 0) (Int32.toInt64 x6)) = 0)) (Ev X d 333 (1712, [.ref 900000, .ref 0, .ref 70, .ref 95, .int x4, .int x5, .int x6], [], hS u D J)) (some (.inl (some (.int 0)), hS u D J)))) (some (.inl (some (.int 0)), hS u D J)) := (sy_at X [1712] d 333 15 _).trans rfl
set_option maxRecDepth 100000 in
theorem f333_1638 {X : XS} {d u : Nat} {D : Nat → Nat → Int32} {J : Nat → Nat → Int64} (x4 : Int32) : Ev X d 333 (1638, [.ref 900000, .ref 0, .ref 70, .ref 95, .int x4, .null, .null], [], hS u D J) =
    gd (ob (x4 + 1) X.2) (Ev X d 333 (1644, [.ref 900000, .ref 0, .ref 70, .ref 95, .int x4, .null, .null], [.int (X.1 (x4 + 1).toNatClampNeg), .ref 0], hS u D J)) := (sy_at X [1644] d 333 8 _).trans rfl
set_option maxRecDepth 100000 in
theorem f333_1644 {X : XS} {d u : Nat} {D : Nat → Nat → Int32} {J : Nat → Nat → Int64} (x4 : Int32) (y0 : Int32) : Ev X d 333 (1644, [.ref 900000, .ref 0, .ref 70, .ref 95, .int x4, .null, .null], [.int y0, .ref 0], hS u D J) =
    gd (ob (x4 + 2) X.2) (Ev X d 333 (1649, [.ref 900000, .ref 0, .ref 70, .ref 95, .int x4, .null, .null], [.int (X.1 (x4 + 2).toNatClampNeg), .int y0, .ref 0], hS u D J)) := (sy_at X [1649] d 333 7 _).trans rfl
set_option maxRecDepth 100000 in
theorem f333_1649 {X : XS} {d u : Nat} {D : Nat → Nat → Int32} {J : Nat → Nat → Int64} (x4 : Int32) (y0 : Int32) (y1 : Int32) : Ev X d 333 (1649, [.ref 900000, .ref 0, .ref 70, .ref 95, .int x4, .null, .null], [.int y0, .int y1, .ref 0], hS u D J) =
    gd (ob (x4 + 3) X.2) (Ev X d 333 (1654, [.ref 900000, .ref 0, .ref 70, .ref 95, .int x4, .null, .null], [.int (X.1 (x4 + 3).toNatClampNeg), .int y0, .int y1, .ref 0], hS u D J)) := (sy_at X [1654] d 333 7 _).trans rfl
set_option maxRecDepth 100000 in
theorem f333_1654 {X : XS} {d u : Nat} {D : Nat → Nat → Int32} {J : Nat → Nat → Int64} (x4 : Int32) (y0 : Int32) (y1 : Int32) (y2 : Int32) : Ev X (d + 1) 333 (1654, [.ref 900000, .ref 0, .ref 70, .ref 95, .int x4, .null, .null], [.int y0, .int y1, .int y2, .ref 0], hS u D J) =
    bI (EvM X d 329 [.ref 0, .int y2, .int y1, .int y0, .ref 95] (hS u D J)) (fun y h => Ev X (d + 1) 333 (1656, [.ref 900000, .ref 0, .ref 70, .ref 95, .int x4, .null, .null], [.int y], h)) (fun e h => none) := (sy_at X [1656] (d + 1) 333 4 _).trans rfl
set_option maxRecDepth 100000 in
theorem e333_1638 {X : XS} {d u : Nat} {D : Nat → Nat → Int32} {J : Nat → Nat → Int64} (x4 : Int32) : Ev X (d + 1) 333 (1638, [.ref 900000, .ref 0, .ref 70, .ref 95, .int x4, .null, .null], [], hS u D J) =
    gd (ob (x4 + 1) X.2) (gd (ob (x4 + 2) X.2) (gd (ob (x4 + 3) X.2) (bI (EvM X d 329 [.ref 0, .int (X.1 (x4 + 1).toNatClampNeg), .int (X.1 (x4 + 2).toNatClampNeg), .int (X.1 (x4 + 3).toNatClampNeg), .ref 95] (hS u D J)) (fun y h => Ev X (d + 1) 333 (1656, [.ref 900000, .ref 0, .ref 70, .ref 95, .int x4, .null, .null], [.int y], h)) (fun e h => none)))) := by
  refine (f333_1638 _).trans ?_
  simp only [f333_1644, f333_1649, f333_1654]
set_option maxRecDepth 100000 in
theorem e333_1656 {X : XS} {d u : Nat} {D : Nat → Nat → Int32} {J : Nat → Nat → Int64} (x4 : Int32) (y0 : Int32) : Ev X d 333 (1656, [.ref 900000, .ref 0, .ref 70, .ref 95, .int x4, .null, .null], [.int y0], hS u D J) =
    Ev X d 333 (1657, [.ref 900000, .ref 0, .ref 70, .ref 95, .int x4, .int y0, .null], [], hS u D J) := (sy_at X [1657] d 333 3 _).trans rfl
set_option maxRecDepth 100000 in
theorem f333_1657 {X : XS} {d u : Nat} {D : Nat → Nat → Int32} {J : Nat → Nat → Int64} (x4 : Int32) (x5 : Int32) : Ev X d 333 (1657, [.ref 900000, .ref 0, .ref 70, .ref 95, .int x4, .int x5, .null], [], hS u D J) =
    gd (ob (x4 + 1) X.2) (Ev X d 333 (1663, [.ref 900000, .ref 0, .ref 70, .ref 95, .int x4, .int x5, .null], [.int (X.1 (x4 + 1).toNatClampNeg), .ref 70], hS u D J)) := (sy_at X [1663] d 333 8 _).trans rfl
set_option maxRecDepth 100000 in
theorem f333_1663 {X : XS} {d u : Nat} {D : Nat → Nat → Int32} {J : Nat → Nat → Int64} (x4 : Int32) (x5 : Int32) (y0 : Int32) : Ev X d 333 (1663, [.ref 900000, .ref 0, .ref 70, .ref 95, .int x4, .int x5, .null], [.int y0, .ref 70], hS u D J) =
    gd (ob (x4 + 2) X.2) (Ev X d 333 (1668, [.ref 900000, .ref 0, .ref 70, .ref 95, .int x4, .int x5, .null], [.int (X.1 (x4 + 2).toNatClampNeg), .int y0, .ref 70], hS u D J)) := (sy_at X [1668] d 333 7 _).trans rfl
set_option maxRecDepth 100000 in
theorem f333_1668 {X : XS} {d u : Nat} {D : Nat → Nat → Int32} {J : Nat → Nat → Int64} (x4 : Int32) (x5 : Int32) (y0 : Int32) (y1 : Int32) : Ev X d 333 (1668, [.ref 900000, .ref 0, .ref 70, .ref 95, .int x4, .int x5, .null], [.int y0, .int y1, .ref 70], hS u D J) =
    gd (ob (x4 + 3) X.2) (Ev X d 333 (1673, [.ref 900000, .ref 0, .ref 70, .ref 95, .int x4, .int x5, .null], [.int (X.1 (x4 + 3).toNatClampNeg), .int y0, .int y1, .ref 70], hS u D J)) := (sy_at X [1673] d 333 7 _).trans rfl
set_option maxRecDepth 100000 in
theorem f333_1673 {X : XS} {d u : Nat} {D : Nat → Nat → Int32} {J : Nat → Nat → Int64} (x4 : Int32) (x5 : Int32) (y0 : Int32) (y1 : Int32) (y2 : Int32) : Ev X (d + 1) 333 (1673, [.ref 900000, .ref 0, .ref 70, .ref 95, .int x4, .int x5, .null], [.int y0, .int y1, .int y2, .ref 70], hS u D J) =
    bI (EvM X d 265 [.ref 70, .int y2, .int y1, .int y0] (hS u D J)) (fun y h => Ev X (d + 1) 333 (1674, [.ref 900000, .ref 0, .ref 70, .ref 95, .int x4, .int x5, .null], [.int y], h)) (fun e h => some (.inr e, h)) := (sy_at X [1674] (d + 1) 333 3 _).trans rfl
set_option maxRecDepth 100000 in
theorem e333_1657 {X : XS} {d u : Nat} {D : Nat → Nat → Int32} {J : Nat → Nat → Int64} (x4 : Int32) (x5 : Int32) : Ev X (d + 1) 333 (1657, [.ref 900000, .ref 0, .ref 70, .ref 95, .int x4, .int x5, .null], [], hS u D J) =
    gd (ob (x4 + 1) X.2) (gd (ob (x4 + 2) X.2) (gd (ob (x4 + 3) X.2) (bI (EvM X d 265 [.ref 70, .int (X.1 (x4 + 1).toNatClampNeg), .int (X.1 (x4 + 2).toNatClampNeg), .int (X.1 (x4 + 3).toNatClampNeg)] (hS u D J)) (fun y h => Ev X (d + 1) 333 (1674, [.ref 900000, .ref 0, .ref 70, .ref 95, .int x4, .int x5, .null], [.int y], h)) (fun e h => some (.inr e, h))))) := by
  refine (f333_1657 _ _).trans ?_
  simp only [f333_1663, f333_1668, f333_1673]
set_option maxRecDepth 100000 in
theorem e333_1674 {X : XS} {d u : Nat} {D : Nat → Nat → Int32} {J : Nat → Nat → Int64} (x4 : Int32) (x5 : Int32) (y0 : Int32) : Ev X d 333 (1674, [.ref 900000, .ref 0, .ref 70, .ref 95, .int x4, .int x5, .null], [.int y0], hS u D J) =
    Ev X d 333 (1675, [.ref 900000, .ref 0, .ref 70, .ref 95, .int x4, .int x5, .int y0], [], hS u D J) := (sy_at X [1675] d 333 3 _).trans rfl
set_option maxRecDepth 100000 in
theorem e333_1675 {X : XS} {d u : Nat} {D : Nat → Nat → Int32} {J : Nat → Nat → Int64} (x4 : Int32) (x5 : Int32) (x6 : Int32) : Ev X (d + 1) 333 (1675, [.ref 900000, .ref 0, .ref 70, .ref 95, .int x4, .int x5, .int x6], [], hS u D J) =
    bI (EvM X d 171 [.ref 70] (hS u D J)) (fun y h => Ev X (d + 1) 333 (1677, [.ref 900000, .ref 0, .ref 70, .ref 95, .int x4, .int x5, .int x6], [.int y], h)) (fun e h => some (.inr e, h)) := (sy_at X [1677] (d + 1) 333 4 _).trans rfl
set_option maxRecDepth 100000 in
theorem e333_1677 {X : XS} {d u : Nat} {D : Nat → Nat → Int32} {J : Nat → Nat → Int64} (x4 : Int32) (x5 : Int32) (x6 : Int32) (y0 : Int32) : Ev X d 333 (1677, [.ref 900000, .ref 0, .ref 70, .ref 95, .int x4, .int x5, .int x6], [.int y0], hS u D J) =
    br (decide (y0 = x5)) (br (decide (¬ x5 = 0)) (Ev X d 333 (1712, [.ref 900000, .ref 0, .ref 70, .ref 95, .int x4, .int x5, .int x6], [], hS u D J)) (br (decide ((lg_cmp (J 95 0) (Int32.toInt64 x6)) = 0)) (Ev X d 333 (1712, [.ref 900000, .ref 0, .ref 70, .ref 95, .int x4, .int x5, .int x6], [], hS u D J)) (some (.inl (some (.int 0)), hS u D J)))) (some (.inl (some (.int 0)), hS u D J)) := (sy_at X [1712] d 333 15 _).trans rfl
set_option maxRecDepth 100000 in
theorem e333_1693 {X : XS} {d u : Nat} {D : Nat → Nat → Int32} {J : Nat → Nat → Int64} (x4 : Int32) : Ev X (d + 1) 333 (1693, [.ref 900000, .ref 0, .ref 70, .ref 95, .int x4, .null, .null], [], hS u D J) =
    bI (EvM X d 161 [.ref 0] (hS u D J)) (fun y h => Ev X (d + 1) 333 (1695, [.ref 900000, .ref 0, .ref 70, .ref 95, .int x4, .null, .null], [.int y], h)) (fun e h => some (.inr e, h)) := (sy_at X [1695] (d + 1) 333 4 _).trans rfl
set_option maxRecDepth 100000 in
theorem e333_1695 {X : XS} {d u : Nat} {D : Nat → Nat → Int32} {J : Nat → Nat → Int64} (x4 : Int32) (y0 : Int32) : Ev X (d + 1) 333 (1695, [.ref 900000, .ref 0, .ref 70, .ref 95, .int x4, .null, .null], [.int y0], hS u D J) =
    bI (EvM X d 274 [.ref 70] (hS u D J)) (fun y h => Ev X (d + 1) 333 (1697, [.ref 900000, .ref 0, .ref 70, .ref 95, .int x4, .null, .null], [.int y, .int y0], h)) (fun e h => some (.inr e, h)) := (sy_at X [1697] (d + 1) 333 4 _).trans rfl
set_option maxRecDepth 100000 in
theorem e333_1697 {X : XS} {d u : Nat} {D : Nat → Nat → Int32} {J : Nat → Nat → Int64} (x4 : Int32) (y0 : Int32) (y1 : Int32) : Ev X d 333 (1697, [.ref 900000, .ref 0, .ref 70, .ref 95, .int x4, .null, .null], [.int y0, .int y1], hS u D J) =
    br (decide (y1 = y0)) (Ev X d 333 (1712, [.ref 900000, .ref 0, .ref 70, .ref 95, .int x4, .null, .null], [], hS u D J)) (some (.inl (some (.int 0)), hS u D J)) := (sy_at X [1712] d 333 5 _).trans rfl
set_option maxRecDepth 100000 in
theorem e333_1700 {X : XS} {d u : Nat} {D : Nat → Nat → Int32} {J : Nat → Nat → Int64} (x4 : Int32) : Ev X (d + 1) 333 (1700, [.ref 900000, .ref 0, .ref 70, .ref 95, .int x4, .null, .null], [], hS u D J) =
    bV (EvM X d 162 [.ref 0] (hS u D J)) (fun h => Ev X (d + 1) 333 (1702, [.ref 900000, .ref 0, .ref 70, .ref 95, .int x4, .null, .null], [], h)) (fun e h => some (.inr e, h)) := (sy_at X [1702] (d + 1) 333 4 _).trans rfl
set_option maxRecDepth 100000 in
theorem e333_1702 {X : XS} {d u : Nat} {D : Nat → Nat → Int32} {J : Nat → Nat → Int64} (x4 : Int32) : Ev X (d + 1) 333 (1702, [.ref 900000, .ref 0, .ref 70, .ref 95, .int x4, .null, .null], [], hS u D J) =
    bV (EvM X d 293 [.ref 70] (hS u D J)) (fun h => Ev X (d + 1) 333 (1704, [.ref 900000, .ref 0, .ref 70, .ref 95, .int x4, .null, .null], [], h)) (fun e h => some (.inr e, h)) := (sy_at X [1704] (d + 1) 333 4 _).trans rfl
set_option maxRecDepth 100000 in
theorem e333_1704 {X : XS} {d u : Nat} {D : Nat → Nat → Int32} {J : Nat → Nat → Int64} (x4 : Int32) : Ev X d 333 (1704, [.ref 900000, .ref 0, .ref 70, .ref 95, .int x4, .null, .null], [], hS u D J) =
    Ev X d 333 (1712, [.ref 900000, .ref 0, .ref 70, .ref 95, .int x4, .null, .null], [], hS u D J) := (sy_at X [1712] d 333 3 _).trans rfl
set_option maxRecDepth 100000 in
theorem e333_1705 {X : XS} {d u : Nat} {D : Nat → Nat → Int32} {J : Nat → Nat → Int64} (x4 : Int32) : Ev X (d + 1) 333 (1705, [.ref 900000, .ref 0, .ref 70, .ref 95, .int x4, .null, .null], [], hS u D J) =
    bI (EvM X d 163 [.ref 0] (hS u D J)) (fun y h => Ev X (d + 1) 333 (1707, [.ref 900000, .ref 0, .ref 70, .ref 95, .int x4, .null, .null], [.int y], h)) (fun e h => some (.inr e, h)) := (sy_at X [1707] (d + 1) 333 4 _).trans rfl
set_option maxRecDepth 100000 in
theorem e333_1707 {X : XS} {d u : Nat} {D : Nat → Nat → Int32} {J : Nat → Nat → Int64} (x4 : Int32) (y0 : Int32) : Ev X (d + 1) 333 (1707, [.ref 900000, .ref 0, .ref 70, .ref 95, .int x4, .null, .null], [.int y0], hS u D J) =
    bI (EvM X d 294 [.ref 70] (hS u D J)) (fun y h => Ev X (d + 1) 333 (1709, [.ref 900000, .ref 0, .ref 70, .ref 95, .int x4, .null, .null], [.int y, .int y0], h)) (fun e h => some (.inr e, h)) := (sy_at X [1709] (d + 1) 333 4 _).trans rfl
set_option maxRecDepth 100000 in
theorem e333_1709 {X : XS} {d u : Nat} {D : Nat → Nat → Int32} {J : Nat → Nat → Int64} (x4 : Int32) (y0 : Int32) (y1 : Int32) : Ev X d 333 (1709, [.ref 900000, .ref 0, .ref 70, .ref 95, .int x4, .null, .null], [.int y0, .int y1], hS u D J) =
    br (decide (y1 = y0)) (Ev X d 333 (1712, [.ref 900000, .ref 0, .ref 70, .ref 95, .int x4, .null, .null], [], hS u D J)) (some (.inl (some (.int 0)), hS u D J)) := (sy_at X [1712] d 333 5 _).trans rfl
set_option maxRecDepth 100000 in
theorem e333_1712 {X : XS} {d u : Nat} {D : Nat → Nat → Int32} {J : Nat → Nat → Int64} (x4 : Int32) : Ev X d 333 (1712, [.ref 900000, .ref 0, .ref 70, .ref 95, .int x4, .null, .null], [], hS u D J) =
    Ev X d 333 (13, [.ref 900000, .ref 0, .ref 70, .ref 95, .int (x4 + 6), .null, .null], [], hS u D J) := (sy_at X [13] d 333 4 _).trans rfl
set_option maxRecDepth 100000 in
theorem e333_1714 {X : XS} {d u : Nat} {D : Nat → Nat → Int32} {J : Nat → Nat → Int64} (x4 : Int32) : Ev X d 333 (1714, [.ref 900000, .ref 0, .ref 70, .ref 95, .int x4, .null, .null], [], hS u D J) =
    some (.inl (some (.int 1)), hS u D J) := (sy_at X [] d 333 4 _).trans rfl
