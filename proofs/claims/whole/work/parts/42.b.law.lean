/-! ===== printed by wip/gen/eqparts.py: equations of the law, 2 ===== -/
set_option maxRecDepth 100000 in
theorem f333_443 {X : XS} {d u : Nat} {D : Nat → Nat → Int32} {J : Nat → Nat → Int64} (x4 : Int32) (x5 : Int32) : Ev X d 333 (443, [.ref 900000, .ref 0, .ref 70, .ref 95, .int x4, .int x5, .null], [], hS u D J) =
    gd (ob (x4 + 1) X.2) (Ev X d 333 (449, [.ref 900000, .ref 0, .ref 70, .ref 95, .int x4, .int x5, .null], [.int (X.1 (x4 + 1).toNatClampNeg), .ref 70], hS u D J)) := (sy_at X [449] d 333 8 _).trans rfl
set_option maxRecDepth 100000 in
theorem f333_449 {X : XS} {d u : Nat} {D : Nat → Nat → Int32} {J : Nat → Nat → Int64} (x4 : Int32) (x5 : Int32) (y0 : Int32) : Ev X d 333 (449, [.ref 900000, .ref 0, .ref 70, .ref 95, .int x4, .int x5, .null], [.int y0, .ref 70], hS u D J) =
    gd (ob (x4 + 2) X.2) (Ev X d 333 (454, [.ref 900000, .ref 0, .ref 70, .ref 95, .int x4, .int x5, .null], [.int (X.1 (x4 + 2).toNatClampNeg), .int y0, .ref 70], hS u D J)) := (sy_at X [454] d 333 7 _).trans rfl
set_option maxRecDepth 100000 in
theorem f333_454 {X : XS} {d u : Nat} {D : Nat → Nat → Int32} {J : Nat → Nat → Int64} (x4 : Int32) (x5 : Int32) (y0 : Int32) (y1 : Int32) : Ev X (d + 1) 333 (454, [.ref 900000, .ref 0, .ref 70, .ref 95, .int x4, .int x5, .null], [.int y0, .int y1, .ref 70], hS u D J) =
    bI (EvM X d 245 [.ref 70, .int y1, .int y0] (hS u D J)) (fun y h => Ev X (d + 1) 333 (455, [.ref 900000, .ref 0, .ref 70, .ref 95, .int x4, .int x5, .null], [.int y], h)) (fun e h => some (.inr e, h)) := (sy_at X [455] (d + 1) 333 3 _).trans rfl
set_option maxRecDepth 100000 in
theorem e333_443 {X : XS} {d u : Nat} {D : Nat → Nat → Int32} {J : Nat → Nat → Int64} (x4 : Int32) (x5 : Int32) : Ev X (d + 1) 333 (443, [.ref 900000, .ref 0, .ref 70, .ref 95, .int x4, .int x5, .null], [], hS u D J) =
    gd (ob (x4 + 1) X.2) (gd (ob (x4 + 2) X.2) (bI (EvM X d 245 [.ref 70, .int (X.1 (x4 + 1).toNatClampNeg), .int (X.1 (x4 + 2).toNatClampNeg)] (hS u D J)) (fun y h => Ev X (d + 1) 333 (455, [.ref 900000, .ref 0, .ref 70, .ref 95, .int x4, .int x5, .null], [.int y], h)) (fun e h => some (.inr e, h)))) := by
  refine (f333_443 _ _).trans ?_
  simp only [f333_449, f333_454]
set_option maxRecDepth 100000 in
theorem e333_455 {X : XS} {d u : Nat} {D : Nat → Nat → Int32} {J : Nat → Nat → Int64} (x4 : Int32) (x5 : Int32) (y0 : Int32) : Ev X d 333 (455, [.ref 900000, .ref 0, .ref 70, .ref 95, .int x4, .int x5, .null], [.int y0], hS u D J) =
    Ev X d 333 (456, [.ref 900000, .ref 0, .ref 70, .ref 95, .int x4, .int x5, .int y0], [], hS u D J) := (sy_at X [456] d 333 3 _).trans rfl
set_option maxRecDepth 100000 in
theorem e333_456 {X : XS} {d u : Nat} {D : Nat → Nat → Int32} {J : Nat → Nat → Int64} (x4 : Int32) (x5 : Int32) (x6 : Int32) : Ev X (d + 1) 333 (456, [.ref 900000, .ref 0, .ref 70, .ref 95, .int x4, .int x5, .int x6], [], hS u D J) =
    bI (EvM X d 171 [.ref 70] (hS u D J)) (fun y h => Ev X (d + 1) 333 (458, [.ref 900000, .ref 0, .ref 70, .ref 95, .int x4, .int x5, .int x6], [.int y], h)) (fun e h => some (.inr e, h)) := (sy_at X [458] (d + 1) 333 4 _).trans rfl
set_option maxRecDepth 100000 in
theorem e333_458 {X : XS} {d u : Nat} {D : Nat → Nat → Int32} {J : Nat → Nat → Int64} (x4 : Int32) (x5 : Int32) (x6 : Int32) (y0 : Int32) : Ev X d 333 (458, [.ref 900000, .ref 0, .ref 70, .ref 95, .int x4, .int x5, .int x6], [.int y0], hS u D J) =
    br (decide (y0 = x5)) (br (decide (¬ x5 = 0)) (Ev X d 333 (1712, [.ref 900000, .ref 0, .ref 70, .ref 95, .int x4, .int x5, .int x6], [], hS u D J)) (br (decide ((lg_cmp (J 95 0) (Int32.toInt64 x6)) = 0)) (Ev X d 333 (1712, [.ref 900000, .ref 0, .ref 70, .ref 95, .int x4, .int x5, .int x6], [], hS u D J)) (some (.inl (some (.int 0)), hS u D J)))) (some (.inl (some (.int 0)), hS u D J)) := (sy_at X [1712] d 333 15 _).trans rfl
set_option maxRecDepth 100000 in
theorem e333_474 {X : XS} {d u : Nat} {D : Nat → Nat → Int32} {J : Nat → Nat → Int64} (x4 : Int32) : Ev X (d + 1) 333 (474, [.ref 900000, .ref 0, .ref 70, .ref 95, .int x4, .null, .null], [], hS u D J) =
    bI (EvM X d 119 [.ref 0] (hS u D J)) (fun y h => Ev X (d + 1) 333 (476, [.ref 900000, .ref 0, .ref 70, .ref 95, .int x4, .null, .null], [.int y], h)) (fun e h => some (.inr e, h)) := (sy_at X [476] (d + 1) 333 4 _).trans rfl
set_option maxRecDepth 100000 in
theorem e333_476 {X : XS} {d u : Nat} {D : Nat → Nat → Int32} {J : Nat → Nat → Int64} (x4 : Int32) (y0 : Int32) : Ev X (d + 1) 333 (476, [.ref 900000, .ref 0, .ref 70, .ref 95, .int x4, .null, .null], [.int y0], hS u D J) =
    bI (EvM X d 210 [.ref 70] (hS u D J)) (fun y h => Ev X (d + 1) 333 (478, [.ref 900000, .ref 0, .ref 70, .ref 95, .int x4, .null, .null], [.int y, .int y0], h)) (fun e h => some (.inr e, h)) := (sy_at X [478] (d + 1) 333 4 _).trans rfl
set_option maxRecDepth 100000 in
theorem e333_478 {X : XS} {d u : Nat} {D : Nat → Nat → Int32} {J : Nat → Nat → Int64} (x4 : Int32) (y0 : Int32) (y1 : Int32) : Ev X d 333 (478, [.ref 900000, .ref 0, .ref 70, .ref 95, .int x4, .null, .null], [.int y0, .int y1], hS u D J) =
    br (decide (y1 = y0)) (Ev X d 333 (1712, [.ref 900000, .ref 0, .ref 70, .ref 95, .int x4, .null, .null], [], hS u D J)) (some (.inl (some (.int 0)), hS u D J)) := (sy_at X [1712] d 333 5 _).trans rfl
set_option maxRecDepth 100000 in
theorem f333_481 {X : XS} {d u : Nat} {D : Nat → Nat → Int32} {J : Nat → Nat → Int64} (x4 : Int32) : Ev X d 333 (481, [.ref 900000, .ref 0, .ref 70, .ref 95, .int x4, .null, .null], [], hS u D J) =
    gd (ob (x4 + 1) X.2) (Ev X d 333 (487, [.ref 900000, .ref 0, .ref 70, .ref 95, .int x4, .null, .null], [.int (X.1 (x4 + 1).toNatClampNeg), .ref 0], hS u D J)) := (sy_at X [487] d 333 8 _).trans rfl
set_option maxRecDepth 100000 in
theorem f333_487 {X : XS} {d u : Nat} {D : Nat → Nat → Int32} {J : Nat → Nat → Int64} (x4 : Int32) (y0 : Int32) : Ev X d 333 (487, [.ref 900000, .ref 0, .ref 70, .ref 95, .int x4, .null, .null], [.int y0, .ref 0], hS u D J) =
    gd (ob (x4 + 2) X.2) (Ev X d 333 (492, [.ref 900000, .ref 0, .ref 70, .ref 95, .int x4, .null, .null], [.int (X.1 (x4 + 2).toNatClampNeg), .int y0, .ref 0], hS u D J)) := (sy_at X [492] d 333 7 _).trans rfl
set_option maxRecDepth 100000 in
theorem f333_492 {X : XS} {d u : Nat} {D : Nat → Nat → Int32} {J : Nat → Nat → Int64} (x4 : Int32) (y0 : Int32) (y1 : Int32) : Ev X d 333 (492, [.ref 900000, .ref 0, .ref 70, .ref 95, .int x4, .null, .null], [.int y0, .int y1, .ref 0], hS u D J) =
    gd (ob (x4 + 3) X.2) (Ev X d 333 (497, [.ref 900000, .ref 0, .ref 70, .ref 95, .int x4, .null, .null], [.int (X.1 (x4 + 3).toNatClampNeg), .int y0, .int y1, .ref 0], hS u D J)) := (sy_at X [497] d 333 7 _).trans rfl
set_option maxRecDepth 100000 in
theorem f333_497 {X : XS} {d u : Nat} {D : Nat → Nat → Int32} {J : Nat → Nat → Int64} (x4 : Int32) (y0 : Int32) (y1 : Int32) (y2 : Int32) : Ev X (d + 1) 333 (497, [.ref 900000, .ref 0, .ref 70, .ref 95, .int x4, .null, .null], [.int y0, .int y1, .int y2, .ref 0], hS u D J) =
    bI (EvM X d 304 [.ref 0, .int y2, .int y1, .int y0, .ref 95] (hS u D J)) (fun y h => Ev X (d + 1) 333 (499, [.ref 900000, .ref 0, .ref 70, .ref 95, .int x4, .null, .null], [.int y], h)) (fun e h => none) := (sy_at X [499] (d + 1) 333 4 _).trans rfl
set_option maxRecDepth 100000 in
theorem e333_481 {X : XS} {d u : Nat} {D : Nat → Nat → Int32} {J : Nat → Nat → Int64} (x4 : Int32) : Ev X (d + 1) 333 (481, [.ref 900000, .ref 0, .ref 70, .ref 95, .int x4, .null, .null], [], hS u D J) =
    gd (ob (x4 + 1) X.2) (gd (ob (x4 + 2) X.2) (gd (ob (x4 + 3) X.2) (bI (EvM X d 304 [.ref 0, .int (X.1 (x4 + 1).toNatClampNeg), .int (X.1 (x4 + 2).toNatClampNeg), .int (X.1 (x4 + 3).toNatClampNeg), .ref 95] (hS u D J)) (fun y h => Ev X (d + 1) 333 (499, [.ref 900000, .ref 0, .ref 70, .ref 95, .int x4, .null, .null], [.int y], h)) (fun e h => none)))) := by
  refine (f333_481 _).trans ?_
  simp only [f333_487, f333_492, f333_497]
set_option maxRecDepth 100000 in
theorem e333_499 {X : XS} {d u : Nat} {D : Nat → Nat → Int32} {J : Nat → Nat → Int64} (x4 : Int32) (y0 : Int32) : Ev X d 333 (499, [.ref 900000, .ref 0, .ref 70, .ref 95, .int x4, .null, .null], [.int y0], hS u D J) =
    Ev X d 333 (500, [.ref 900000, .ref 0, .ref 70, .ref 95, .int x4, .int y0, .null], [], hS u D J) := (sy_at X [500] d 333 3 _).trans rfl
set_option maxRecDepth 100000 in
theorem f333_500 {X : XS} {d u : Nat} {D : Nat → Nat → Int32} {J : Nat → Nat → Int64} (x4 : Int32) (x5 : Int32) : Ev X d 333 (500, [.ref 900000, .ref 0, .ref 70, .ref 95, .int x4, .int x5, .null], [], hS u D J) =
    gd (ob (x4 + 1) X.2) (Ev X d 333 (506, [.ref 900000, .ref 0, .ref 70, .ref 95, .int x4, .int x5, .null], [.int (X.1 (x4 + 1).toNatClampNeg), .ref 70], hS u D J)) := (sy_at X [506] d 333 8 _).trans rfl
set_option maxRecDepth 100000 in
theorem f333_506 {X : XS} {d u : Nat} {D : Nat → Nat → Int32} {J : Nat → Nat → Int64} (x4 : Int32) (x5 : Int32) (y0 : Int32) : Ev X d 333 (506, [.ref 900000, .ref 0, .ref 70, .ref 95, .int x4, .int x5, .null], [.int y0, .ref 70], hS u D J) =
    gd (ob (x4 + 2) X.2) (Ev X d 333 (511, [.ref 900000, .ref 0, .ref 70, .ref 95, .int x4, .int x5, .null], [.int (X.1 (x4 + 2).toNatClampNeg), .int y0, .ref 70], hS u D J)) := (sy_at X [511] d 333 7 _).trans rfl
set_option maxRecDepth 100000 in
theorem f333_511 {X : XS} {d u : Nat} {D : Nat → Nat → Int32} {J : Nat → Nat → Int64} (x4 : Int32) (x5 : Int32) (y0 : Int32) (y1 : Int32) : Ev X d 333 (511, [.ref 900000, .ref 0, .ref 70, .ref 95, .int x4, .int x5, .null], [.int y0, .int y1, .ref 70], hS u D J) =
    gd (ob (x4 + 3) X.2) (Ev X d 333 (516, [.ref 900000, .ref 0, .ref 70, .ref 95, .int x4, .int x5, .null], [.int (X.1 (x4 + 3).toNatClampNeg), .int y0, .int y1, .ref 70], hS u D J)) := (sy_at X [516] d 333 7 _).trans rfl
set_option maxRecDepth 100000 in
theorem f333_516 {X : XS} {d u : Nat} {D : Nat → Nat → Int32} {J : Nat → Nat → Int64} (x4 : Int32) (x5 : Int32) (y0 : Int32) (y1 : Int32) (y2 : Int32) : Ev X (d + 1) 333 (516, [.ref 900000, .ref 0, .ref 70, .ref 95, .int x4, .int x5, .null], [.int y0, .int y1, .int y2, .ref 70], hS u D J) =
    bI (EvM X d 246 [.ref 70, .int y2, .int y1, .int y0] (hS u D J)) (fun y h => Ev X (d + 1) 333 (517, [.ref 900000, .ref 0, .ref 70, .ref 95, .int x4, .int x5, .null], [.int y], h)) (fun e h => some (.inr e, h)) := (sy_at X [517] (d + 1) 333 3 _).trans rfl
set_option maxRecDepth 100000 in
theorem e333_500 {X : XS} {d u : Nat} {D : Nat → Nat → Int32} {J : Nat → Nat → Int64} (x4 : Int32) (x5 : Int32) : Ev X (d + 1) 333 (500, [.ref 900000, .ref 0, .ref 70, .ref 95, .int x4, .int x5, .null], [], hS u D J) =
    gd (ob (x4 + 1) X.2) (gd (ob (x4 + 2) X.2) (gd (ob (x4 + 3) X.2) (bI (EvM X d 246 [.ref 70, .int (X.1 (x4 + 1).toNatClampNeg), .int (X.1 (x4 + 2).toNatClampNeg), .int (X.1 (x4 + 3).toNatClampNeg)] (hS u D J)) (fun y h => Ev X (d + 1) 333 (517, [.ref 900000, .ref 0, .ref 70, .ref 95, .int x4, .int x5, .null], [.int y], h)) (fun e h => some (.inr e, h))))) := by
  refine (f333_500 _ _).trans ?_
  simp only [f333_506, f333_511, f333_516]
set_option maxRecDepth 100000 in
theorem e333_517 {X : XS} {d u : Nat} {D : Nat → Nat → Int32} {J : Nat → Nat → Int64} (x4 : Int32) (x5 : Int32) (y0 : Int32) : Ev X d 333 (517, [.ref 900000, .ref 0, .ref 70, .ref 95, .int x4, .int x5, .null], [.int y0], hS u D J) =
    Ev X d 333 (518, [.ref 900000, .ref 0, .ref 70, .ref 95, .int x4, .int x5, .int y0], [], hS u D J) := (sy_at X [518] d 333 3 _).trans rfl
set_option maxRecDepth 100000 in
theorem e333_518 {X : XS} {d u : Nat} {D : Nat → Nat → Int32} {J : Nat → Nat → Int64} (x4 : Int32) (x5 : Int32) (x6 : Int32) : Ev X (d + 1) 333 (518, [.ref 900000, .ref 0, .ref 70, .ref 95, .int x4, .int x5, .int x6], [], hS u D J) =
    bI (EvM X d 171 [.ref 70] (hS u D J)) (fun y h => Ev X (d + 1) 333 (520, [.ref 900000, .ref 0, .ref 70, .ref 95, .int x4, .int x5, .int x6], [.int y], h)) (fun e h => some (.inr e, h)) := (sy_at X [520] (d + 1) 333 4 _).trans rfl
set_option maxRecDepth 100000 in
theorem e333_520 {X : XS} {d u : Nat} {D : Nat → Nat → Int32} {J : Nat → Nat → Int64} (x4 : Int32) (x5 : Int32) (x6 : Int32) (y0 : Int32) : Ev X d 333 (520, [.ref 900000, .ref 0, .ref 70, .ref 95, .int x4, .int x5, .int x6], [.int y0], hS u D J) =
    br (decide (y0 = x5)) (br (decide (¬ x5 = 0)) (Ev X d 333 (1712, [.ref 900000, .ref 0, .ref 70, .ref 95, .int x4, .int x5, .int x6], [], hS u D J)) (br (decide ((lg_cmp (J 95 0) (Int32.toInt64 x6)) = 0)) (Ev X d 333 (1712, [.ref 900000, .ref 0, .ref 70, .ref 95, .int x4, .int x5, .int x6], [], hS u D J)) (some (.inl (some (.int 0)), hS u D J)))) (some (.inl (some (.int 0)), hS u D J)) := (sy_at X [1712] d 333 15 _).trans rfl
set_option maxRecDepth 100000 in
theorem f333_536 {X : XS} {d u : Nat} {D : Nat → Nat → Int32} {J : Nat → Nat → Int64} (x4 : Int32) : Ev X d 333 (536, [.ref 900000, .ref 0, .ref 70, .ref 95, .int x4, .null, .null], [], hS u D J) =
    gd (ob (x4 + 1) X.2) (Ev X d 333 (542, [.ref 900000, .ref 0, .ref 70, .ref 95, .int x4, .null, .null], [.int (X.1 (x4 + 1).toNatClampNeg), .ref 0], hS u D J)) := (sy_at X [542] d 333 8 _).trans rfl
set_option maxRecDepth 100000 in
theorem f333_542 {X : XS} {d u : Nat} {D : Nat → Nat → Int32} {J : Nat → Nat → Int64} (x4 : Int32) (y0 : Int32) : Ev X d 333 (542, [.ref 900000, .ref 0, .ref 70, .ref 95, .int x4, .null, .null], [.int y0, .ref 0], hS u D J) =
    gd (ob (x4 + 2) X.2) (Ev X d 333 (547, [.ref 900000, .ref 0, .ref 70, .ref 95, .int x4, .null, .null], [.int (X.1 (x4 + 2).toNatClampNeg), .int y0, .ref 0], hS u D J)) := (sy_at X [547] d 333 7 _).trans rfl
set_option maxRecDepth 100000 in
theorem f333_547 {X : XS} {d u : Nat} {D : Nat → Nat → Int32} {J : Nat → Nat → Int64} (x4 : Int32) (y0 : Int32) (y1 : Int32) : Ev X d 333 (547, [.ref 900000, .ref 0, .ref 70, .ref 95, .int x4, .null, .null], [.int y0, .int y1, .ref 0], hS u D J) =
    gd (ob (x4 + 3) X.2) (Ev X d 333 (552, [.ref 900000, .ref 0, .ref 70, .ref 95, .int x4, .null, .null], [.int (X.1 (x4 + 3).toNatClampNeg), .int y0, .int y1, .ref 0], hS u D J)) := (sy_at X [552] d 333 7 _).trans rfl
set_option maxRecDepth 100000 in
theorem f333_552 {X : XS} {d u : Nat} {D : Nat → Nat → Int32} {J : Nat → Nat → Int64} (x4 : Int32) (y0 : Int32) (y1 : Int32) (y2 : Int32) : Ev X (d + 1) 333 (552, [.ref 900000, .ref 0, .ref 70, .ref 95, .int x4, .null, .null], [.int y0, .int y1, .int y2, .ref 0], hS u D J) =
    bI (EvM X d 305 [.ref 0, .int y2, .int y1, .int y0, .ref 95] (hS u D J)) (fun y h => Ev X (d + 1) 333 (554, [.ref 900000, .ref 0, .ref 70, .ref 95, .int x4, .null, .null], [.int y], h)) (fun e h => none) := (sy_at X [554] (d + 1) 333 4 _).trans rfl
set_option maxRecDepth 100000 in
theorem e333_536 {X : XS} {d u : Nat} {D : Nat → Nat → Int32} {J : Nat → Nat → Int64} (x4 : Int32) : Ev X (d + 1) 333 (536, [.ref 900000, .ref 0, .ref 70, .ref 95, .int x4, .null, .null], [], hS u D J) =
    gd (ob (x4 + 1) X.2) (gd (ob (x4 + 2) X.2) (gd (ob (x4 + 3) X.2) (bI (EvM X d 305 [.ref 0, .int (X.1 (x4 + 1).toNatClampNeg), .int (X.1 (x4 + 2).toNatClampNeg), .int (X.1 (x4 + 3).toNatClampNeg), .ref 95] (hS u D J)) (fun y h => Ev X (d + 1) 333 (554, [.ref 900000, .ref 0, .ref 70, .ref 95, .int x4, .null, .null], [.int y], h)) (fun e h => none)))) := by
  refine (f333_536 _).trans ?_
  simp only [f333_542, f333_547, f333_552]
set_option maxRecDepth 100000 in
theorem e333_554 {X : XS} {d u : Nat} {D : Nat → Nat → Int32} {J : Nat → Nat → Int64} (x4 : Int32) (y0 : Int32) : Ev X d 333 (554, [.ref 900000, .ref 0, .ref 70, .ref 95, .int x4, .null, .null], [.int y0], hS u D J) =
    Ev X d 333 (555, [.ref 900000, .ref 0, .ref 70, .ref 95, .int x4, .int y0, .null], [], hS u D J) := (sy_at X [555] d 333 3 _).trans rfl
set_option maxRecDepth 100000 in
theorem f333_555 {X : XS} {d u : Nat} {D : Nat → Nat → Int32} {J : Nat → Nat → Int64} (x4 : Int32) (x5 : Int32) : Ev X d 333 (555, [.ref 900000, .ref 0, .ref 70, .ref 95, .int x4, .int x5, .null], [], hS u D J) =
    gd (ob (x4 + 1) X.2) (Ev X d 333 (561, [.ref 900000, .ref 0, .ref 70, .ref 95, .int x4, .int x5, .null], [.int (X.1 (x4 + 1).toNatClampNeg), .ref 70], hS u D J)) := (sy_at X [561] d 333 8 _).trans rfl
set_option maxRecDepth 100000 in
theorem f333_561 {X : XS} {d u : Nat} {D : Nat → Nat → Int32} {J : Nat → Nat → Int64} (x4 : Int32) (x5 : Int32) (y0 : Int32) : Ev X d 333 (561, [.ref 900000, .ref 0, .ref 70, .ref 95, .int x4, .int x5, .null], [.int y0, .ref 70], hS u D J) =
    gd (ob (x4 + 2) X.2) (Ev X d 333 (566, [.ref 900000, .ref 0, .ref 70, .ref 95, .int x4, .int x5, .null], [.int (X.1 (x4 + 2).toNatClampNeg), .int y0, .ref 70], hS u D J)) := (sy_at X [566] d 333 7 _).trans rfl
set_option maxRecDepth 100000 in
theorem f333_566 {X : XS} {d u : Nat} {D : Nat → Nat → Int32} {J : Nat → Nat → Int64} (x4 : Int32) (x5 : Int32) (y0 : Int32) (y1 : Int32) : Ev X d 333 (566, [.ref 900000, .ref 0, .ref 70, .ref 95, .int x4, .int x5, .null], [.int y0, .int y1, .ref 70], hS u D J) =
    gd (ob (x4 + 3) X.2) (Ev X d 333 (571, [.ref 900000, .ref 0, .ref 70, .ref 95, .int x4, .int x5, .null], [.int (X.1 (x4 + 3).toNatClampNeg), .int y0, .int y1, .ref 70], hS u D J)) := (sy_at X [571] d 333 7 _).trans rfl
set_option maxRecDepth 100000 in
theorem f333_571 {X : XS} {d u : Nat} {D : Nat → Nat → Int32} {J : Nat → Nat → Int64} (x4 : Int32) (x5 : Int32) (y0 : Int32) (y1 : Int32) (y2 : Int32) : Ev X (d + 1) 333 (571, [.ref 900000, .ref 0, .ref 70, .ref 95, .int x4, .int x5, .null], [.int y0, .int y1, .int y2, .ref 70], hS u D J) =
    bI (EvM X d 247 [.ref 70, .int y2, .int y1, .int y0] (hS u D J)) (fun y h => Ev X (d + 1) 333 (572, [.ref 900000, .ref 0, .ref 70, .ref 95, .int x4, .int x5, .null], [.int y], h)) (fun e h => some (.inr e, h)) := (sy_at X [572] (d + 1) 333 3 _).trans rfl
set_option maxRecDepth 100000 in
theorem e333_555 {X : XS} {d u : Nat} {D : Nat → Nat → Int32} {J : Nat → Nat → Int64} (x4 : Int32) (x5 : Int32) : Ev X (d + 1) 333 (555, [.ref 900000, .ref 0, .ref 70, .ref 95, .int x4, .int x5, .null], [], hS u D J) =
    gd (ob (x4 + 1) X.2) (gd (ob (x4 + 2) X.2) (gd (ob (x4 + 3) X.2) (bI (EvM X d 247 [.ref 70, .int (X.1 (x4 + 1).toNatClampNeg), .int (X.1 (x4 + 2).toNatClampNeg), .int (X.1 (x4 + 3).toNatClampNeg)] (hS u D J)) (fun y h => Ev X (d + 1) 333 (572, [.ref 900000, .ref 0, .ref 70, .ref 95, .int x4, .int x5, .null], [.int y], h)) (fun e h => some (.inr e, h))))) := by
  refine (f333_555 _ _).trans ?_
  simp only [f333_561, f333_566, f333_571]
set_option maxRecDepth 100000 in
theorem e333_572 {X : XS} {d u : Nat} {D : Nat → Nat → Int32} {J : Nat → Nat → Int64} (x4 : Int32) (x5 : Int32) (y0 : Int32) : Ev X d 333 (572, [.ref 900000, .ref 0, .ref 70, .ref 95, .int x4, .int x5, .null], [.int y0], hS u D J) =
    Ev X d 333 (573, [.ref 900000, .ref 0, .ref 70, .ref 95, .int x4, .int x5, .int y0], [], hS u D J) := (sy_at X [573] d 333 3 _).trans rfl
set_option maxRecDepth 100000 in
theorem e333_573 {X : XS} {d u : Nat} {D : Nat → Nat → Int32} {J : Nat → Nat → Int64} (x4 : Int32) (x5 : Int32) (x6 : Int32) : Ev X (d + 1) 333 (573, [.ref 900000, .ref 0, .ref 70, .ref 95, .int x4, .int x5, .int x6], [], hS u D J) =
    bI (EvM X d 171 [.ref 70] (hS u D J)) (fun y h => Ev X (d + 1) 333 (575, [.ref 900000, .ref 0, .ref 70, .ref 95, .int x4, .int x5, .int x6], [.int y], h)) (fun e h => some (.inr e, h)) := (sy_at X [575] (d + 1) 333 4 _).trans rfl
set_option maxRecDepth 100000 in
theorem e333_575 {X : XS} {d u : Nat} {D : Nat → Nat → Int32} {J : Nat → Nat → Int64} (x4 : Int32) (x5 : Int32) (x6 : Int32) (y0 : Int32) : Ev X d 333 (575, [.ref 900000, .ref 0, .ref 70, .ref 95, .int x4, .int x5, .int x6], [.int y0], hS u D J) =
    br (decide (y0 = x5)) (br (decide (¬ x5 = 0)) (Ev X d 333 (1712, [.ref 900000, .ref 0, .ref 70, .ref 95, .int x4, .int x5, .int x6], [], hS u D J)) (br (decide ((lg_cmp (J 95 0) (Int32.toInt64 x6)) = 0)) (Ev X d 333 (1712, [.ref 900000, .ref 0, .ref 70, .ref 95, .int x4, .int x5, .int x6], [], hS u D J)) (some (.inl (some (.int 0)), hS u D J)))) (some (.inl (some (.int 0)), hS u D J)) := (sy_at X [1712] d 333 15 _).trans rfl
set_option maxRecDepth 100000 in
theorem f333_591 {X : XS} {d u : Nat} {D : Nat → Nat → Int32} {J : Nat → Nat → Int64} (x4 : Int32) : Ev X d 333 (591, [.ref 900000, .ref 0, .ref 70, .ref 95, .int x4, .null, .null], [], hS u D J) =
    gd (ob (x4 + 1) X.2) (Ev X d 333 (597, [.ref 900000, .ref 0, .ref 70, .ref 95, .int x4, .null, .null], [.int (X.1 (x4 + 1).toNatClampNeg), .ref 0], hS u D J)) := (sy_at X [597] d 333 8 _).trans rfl
set_option maxRecDepth 100000 in
theorem f333_597 {X : XS} {d u : Nat} {D : Nat → Nat → Int32} {J : Nat → Nat → Int64} (x4 : Int32) (y0 : Int32) : Ev X d 333 (597, [.ref 900000, .ref 0, .ref 70, .ref 95, .int x4, .null, .null], [.int y0, .ref 0], hS u D J) =
    gd (ob (x4 + 2) X.2) (Ev X d 333 (602, [.ref 900000, .ref 0, .ref 70, .ref 95, .int x4, .null, .null], [.int (X.1 (x4 + 2).toNatClampNeg), .int y0, .ref 0], hS u D J)) := (sy_at X [602] d 333 7 _).trans rfl
set_option maxRecDepth 100000 in
theorem f333_602 {X : XS} {d u : Nat} {D : Nat → Nat → Int32} {J : Nat → Nat → Int64} (x4 : Int32) (y0 : Int32) (y1 : Int32) : Ev X (d + 1) 333 (602, [.ref 900000, .ref 0, .ref 70, .ref 95, .int x4, .null, .null], [.int y0, .int y1, .ref 0], hS u D J) =
    bI (EvM X d 306 [.ref 0, .int y1, .int y0, .ref 95] (hS u D J)) (fun y h => Ev X (d + 1) 333 (604, [.ref 900000, .ref 0, .ref 70, .ref 95, .int x4, .null, .null], [.int y], h)) (fun e h => none) := (sy_at X [604] (d + 1) 333 4 _).trans rfl
set_option maxRecDepth 100000 in
theorem e333_591 {X : XS} {d u : Nat} {D : Nat → Nat → Int32} {J : Nat → Nat → Int64} (x4 : Int32) : Ev X (d + 1) 333 (591, [.ref 900000, .ref 0, .ref 70, .ref 95, .int x4, .null, .null], [], hS u D J) =
    gd (ob (x4 + 1) X.2) (gd (ob (x4 + 2) X.2) (bI (EvM X d 306 [.ref 0, .int (X.1 (x4 + 1).toNatClampNeg), .int (X.1 (x4 + 2).toNatClampNeg), .ref 95] (hS u D J)) (fun y h => Ev X (d + 1) 333 (604, [.ref 900000, .ref 0, .ref 70, .ref 95, .int x4, .null, .null], [.int y], h)) (fun e h => none))) := by
  refine (f333_591 _).trans ?_
  simp only [f333_597, f333_602]
set_option maxRecDepth 100000 in
theorem e333_604 {X : XS} {d u : Nat} {D : Nat → Nat → Int32} {J : Nat → Nat → Int64} (x4 : Int32) (y0 : Int32) : Ev X d 333 (604, [.ref 900000, .ref 0, .ref 70, .ref 95, .int x4, .null, .null], [.int y0], hS u D J) =
    Ev X d 333 (605, [.ref 900000, .ref 0, .ref 70, .ref 95, .int x4, .int y0, .null], [], hS u D J) := (sy_at X [605] d 333 3 _).trans rfl
set_option maxRecDepth 100000 in
theorem f333_605 {X : XS} {d u : Nat} {D : Nat → Nat → Int32} {J : Nat → Nat → Int64} (x4 : Int32) (x5 : Int32) : Ev X d 333 (605, [.ref 900000, .ref 0, .ref 70, .ref 95, .int x4, .int x5, .null], [], hS u D J) =
    gd (ob (x4 + 1) X.2) (Ev X d 333 (611, [.ref 900000, .ref 0, .ref 70, .ref 95, .int x4, .int x5, .null], [.int (X.1 (x4 + 1).toNatClampNeg), .ref 70], hS u D J)) := (sy_at X [611] d 333 8 _).trans rfl
set_option maxRecDepth 100000 in
theorem f333_611 {X : XS} {d u : Nat} {D : Nat → Nat → Int32} {J : Nat → Nat → Int64} (x4 : Int32) (x5 : Int32) (y0 : Int32) : Ev X d 333 (611, [.ref 900000, .ref 0, .ref 70, .ref 95, .int x4, .int x5, .null], [.int y0, .ref 70], hS u D J) =
    gd (ob (x4 + 2) X.2) (Ev X d 333 (616, [.ref 900000, .ref 0, .ref 70, .ref 95, .int x4, .int x5, .null], [.int (X.1 (x4 + 2).toNatClampNeg), .int y0, .ref 70], hS u D J)) := (sy_at X [616] d 333 7 _).trans rfl
set_option maxRecDepth 100000 in
theorem f333_616 {X : XS} {d u : Nat} {D : Nat → Nat → Int32} {J : Nat → Nat → Int64} (x4 : Int32) (x5 : Int32) (y0 : Int32) (y1 : Int32) : Ev X (d + 1) 333 (616, [.ref 900000, .ref 0, .ref 70, .ref 95, .int x4, .int x5, .null], [.int y0, .int y1, .ref 70], hS u D J) =
    bI (EvM X d 249 [.ref 70, .int y1, .int y0] (hS u D J)) (fun y h => Ev X (d + 1) 333 (617, [.ref 900000, .ref 0, .ref 70, .ref 95, .int x4, .int x5, .null], [.int y], h)) (fun e h => some (.inr e, h)) := (sy_at X [617] (d + 1) 333 3 _).trans rfl
set_option maxRecDepth 100000 in
theorem e333_605 {X : XS} {d u : Nat} {D : Nat → Nat → Int32} {J : Nat → Nat → Int64} (x4 : Int32) (x5 : Int32) : Ev X (d + 1) 333 (605, [.ref 900000, .ref 0, .ref 70, .ref 95, .int x4, .int x5, .null], [], hS u D J) =
    gd (ob (x4 + 1) X.2) (gd (ob (x4 + 2) X.2) (bI (EvM X d 249 [.ref 70, .int (X.1 (x4 + 1).toNatClampNeg), .int (X.1 (x4 + 2).toNatClampNeg)] (hS u D J)) (fun y h => Ev X (d + 1) 333 (617, [.ref 900000, .ref 0, .ref 70, .ref 95, .int x4, .int x5, .null], [.int y], h)) (fun e h => some (.inr e, h)))) := by
  refine (f333_605 _ _).trans ?_
  simp only [f333_611, f333_616]
set_option maxRecDepth 100000 in
theorem e333_617 {X : XS} {d u : Nat} {D : Nat → Nat → Int32} {J : Nat → Nat → Int64} (x4 : Int32) (x5 : Int32) (y0 : Int32) : Ev X d 333 (617, [.ref 900000, .ref 0, .ref 70, .ref 95, .int x4, .int x5, .null], [.int y0], hS u D J) =
    Ev X d 333 (618, [.ref 900000, .ref 0, .ref 70, .ref 95, .int x4, .int x5, .int y0], [], hS u D J) := (sy_at X [618] d 333 3 _).trans rfl
set_option maxRecDepth 100000 in
theorem e333_618 {X : XS} {d u : Nat} {D : Nat → Nat → Int32} {J : Nat → Nat → Int64} (x4 : Int32) (x5 : Int32) (x6 : Int32) : Ev X (d + 1) 333 (618, [.ref 900000, .ref 0, .ref 70, .ref 95, .int x4, .int x5, .int x6], [], hS u D J) =
    bI (EvM X d 171 [.ref 70] (hS u D J)) (fun y h => Ev X (d + 1) 333 (620, [.ref 900000, .ref 0, .ref 70, .ref 95, .int x4, .int x5, .int x6], [.int y], h)) (fun e h => some (.inr e, h)) := (sy_at X [620] (d + 1) 333 4 _).trans rfl
set_option maxRecDepth 100000 in
theorem e333_620 {X : XS} {d u : Nat} {D : Nat → Nat → Int32} {J : Nat → Nat → Int64} (x4 : Int32) (x5 : Int32) (x6 : Int32) (y0 : Int32) : Ev X d 333 (620, [.ref 900000, .ref 0, .ref 70, .ref 95, .int x4, .int x5, .int x6], [.int y0], hS u D J) =
    br (decide (y0 = x5)) (br (decide (¬ x5 = 0)) (Ev X d 333 (1712, [.ref 900000, .ref 0, .ref 70, .ref 95, .int x4, .int x5, .int x6], [], hS u D J)) (br (decide ((lg_cmp (J 95 0) (Int32.toInt64 x6)) = 0)) (Ev X d 333 (1712, [.ref 900000, .ref 0, .ref 70, .ref 95, .int x4, .int x5, .int x6], [], hS u D J)) (some (.inl (some (.int 0)), hS u D J)))) (some (.inl (some (.int 0)), hS u D J)) := (sy_at X [1712] d 333 15 _).trans rfl
set_option maxRecDepth 100000 in
theorem f333_636 {X : XS} {d u : Nat} {D : Nat → Nat → Int32} {J : Nat → Nat → Int64} (x4 : Int32) : Ev X d 333 (636, [.ref 900000, .ref 0, .ref 70, .ref 95, .int x4, .null, .null], [], hS u D J) =
    gd (ob (x4 + 1) X.2) (Ev X d 333 (642, [.ref 900000, .ref 0, .ref 70, .ref 95, .int x4, .null, .null], [.int (X.1 (x4 + 1).toNatClampNeg), .ref 0], hS u D J)) := (sy_at X [642] d 333 8 _).trans rfl
set_option maxRecDepth 100000 in
theorem f333_642 {X : XS} {d u : Nat} {D : Nat → Nat → Int32} {J : Nat → Nat → Int64} (x4 : Int32) (y0 : Int32) : Ev X d 333 (642, [.ref 900000, .ref 0, .ref 70, .ref 95, .int x4, .null, .null], [.int y0, .ref 0], hS u D J) =
    gd (ob (x4 + 2) X.2) (Ev X d 333 (647, [.ref 900000, .ref 0, .ref 70, .ref 95, .int x4, .null, .null], [.int (X.1 (x4 + 2).toNatClampNeg), .int y0, .ref 0], hS u D J)) := (sy_at X [647] d 333 7 _).trans rfl
set_option maxRecDepth 100000 in
theorem f333_647 {X : XS} {d u : Nat} {D : Nat → Nat → Int32} {J : Nat → Nat → Int64} (x4 : Int32) (y0 : Int32) (y1 : Int32) : Ev X (d + 1) 333 (647, [.ref 900000, .ref 0, .ref 70, .ref 95, .int x4, .null, .null], [.int y0, .int y1, .ref 0], hS u D J) =
    bI (EvM X d 307 [.ref 0, .int y1, .int y0, .ref 95] (hS u D J)) (fun y h => Ev X (d + 1) 333 (649, [.ref 900000, .ref 0, .ref 70, .ref 95, .int x4, .null, .null], [.int y], h)) (fun e h => none) := (sy_at X [649] (d + 1) 333 4 _).trans rfl
set_option maxRecDepth 100000 in
theorem e333_636 {X : XS} {d u : Nat} {D : Nat → Nat → Int32} {J : Nat → Nat → Int64} (x4 : Int32) : Ev X (d + 1) 333 (636, [.ref 900000, .ref 0, .ref 70, .ref 95, .int x4, .null, .null], [], hS u D J) =
    gd (ob (x4 + 1) X.2) (gd (ob (x4 + 2) X.2) (bI (EvM X d 307 [.ref 0, .int (X.1 (x4 + 1).toNatClampNeg), .int (X.1 (x4 + 2).toNatClampNeg), .ref 95] (hS u D J)) (fun y h => Ev X (d + 1) 333 (649, [.ref 900000, .ref 0, .ref 70, .ref 95, .int x4, .null, .null], [.int y], h)) (fun e h => none))) := by
  refine (f333_636 _).trans ?_
  simp only [f333_642, f333_647]
set_option maxRecDepth 100000 in
theorem e333_649 {X : XS} {d u : Nat} {D : Nat → Nat → Int32} {J : Nat → Nat → Int64} (x4 : Int32) (y0 : Int32) : Ev X d 333 (649, [.ref 900000, .ref 0, .ref 70, .ref 95, .int x4, .null, .null], [.int y0], hS u D J) =
    Ev X d 333 (650, [.ref 900000, .ref 0, .ref 70, .ref 95, .int x4, .int y0, .null], [], hS u D J) := (sy_at X [650] d 333 3 _).trans rfl
set_option maxRecDepth 100000 in
theorem f333_650 {X : XS} {d u : Nat} {D : Nat → Nat → Int32} {J : Nat → Nat → Int64} (x4 : Int32) (x5 : Int32) : Ev X d 333 (650, [.ref 900000, .ref 0, .ref 70, .ref 95, .int x4, .int x5, .null], [], hS u D J) =
    gd (ob (x4 + 1) X.2) (Ev X d 333 (656, [.ref 900000, .ref 0, .ref 70, .ref 95, .int x4, .int x5, .null], [.int (X.1 (x4 + 1).toNatClampNeg), .ref 70], hS u D J)) := (sy_at X [656] d 333 8 _).trans rfl
set_option maxRecDepth 100000 in
theorem f333_656 {X : XS} {d u : Nat} {D : Nat → Nat → Int32} {J : Nat → Nat → Int64} (x4 : Int32) (x5 : Int32) (y0 : Int32) : Ev X d 333 (656, [.ref 900000, .ref 0, .ref 70, .ref 95, .int x4, .int x5, .null], [.int y0, .ref 70], hS u D J) =
    gd (ob (x4 + 2) X.2) (Ev X d 333 (661, [.ref 900000, .ref 0, .ref 70, .ref 95, .int x4, .int x5, .null], [.int (X.1 (x4 + 2).toNatClampNeg), .int y0, .ref 70], hS u D J)) := (sy_at X [661] d 333 7 _).trans rfl
set_option maxRecDepth 100000 in
theorem f333_661 {X : XS} {d u : Nat} {D : Nat → Nat → Int32} {J : Nat → Nat → Int64} (x4 : Int32) (x5 : Int32) (y0 : Int32) (y1 : Int32) : Ev X (d + 1) 333 (661, [.ref 900000, .ref 0, .ref 70, .ref 95, .int x4, .int x5, .null], [.int y0, .int y1, .ref 70], hS u D J) =
    bI (EvM X d 248 [.ref 70, .int y1, .int y0] (hS u D J)) (fun y h => Ev X (d + 1) 333 (662, [.ref 900000, .ref 0, .ref 70, .ref 95, .int x4, .int x5, .null], [.int y], h)) (fun e h => some (.inr e, h)) := (sy_at X [662] (d + 1) 333 3 _).trans rfl
set_option maxRecDepth 100000 in
theorem e333_650 {X : XS} {d u : Nat} {D : Nat → Nat → Int32} {J : Nat → Nat → Int64} (x4 : Int32) (x5 : Int32) : Ev X (d + 1) 333 (650, [.ref 900000, .ref 0, .ref 70, .ref 95, .int x4, .int x5, .null], [], hS u D J) =
    gd (ob (x4 + 1) X.2) (gd (ob (x4 + 2) X.2) (bI (EvM X d 248 [.ref 70, .int (X.1 (x4 + 1).toNatClampNeg), .int (X.1 (x4 + 2).toNatClampNeg)] (hS u D J)) (fun y h => Ev X (d + 1) 333 (662, [.ref 900000, .ref 0, .ref 70, .ref 95, .int x4, .int x5, .null], [.int y], h)) (fun e h => some (.inr e, h)))) := by
  refine (f333_650 _ _).trans ?_
  simp only [f333_656, f333_661]
set_option maxRecDepth 100000 in
theorem e333_662 {X : XS} {d u : Nat} {D : Nat → Nat → Int32} {J : Nat → Nat → Int64} (x4 : Int32) (x5 : Int32) (y0 : Int32) : Ev X d 333 (662, [.ref 900000, .ref 0, .ref 70, .ref 95, .int x4, .int x5, .null], [.int y0], hS u D J) =
    Ev X d 333 (663, [.ref 900000, .ref 0, .ref 70, .ref 95, .int x4, .int x5, .int y0], [], hS u D J) := (sy_at X [663] d 333 3 _).trans rfl
set_option maxRecDepth 100000 in
theorem e333_663 {X : XS} {d u : Nat} {D : Nat → Nat → Int32} {J : Nat → Nat → Int64} (x4 : Int32) (x5 : Int32) (x6 : Int32) : Ev X (d + 1) 333 (663, [.ref 900000, .ref 0, .ref 70, .ref 95, .int x4, .int x5, .int x6], [], hS u D J) =
    bI (EvM X d 171 [.ref 70] (hS u D J)) (fun y h => Ev X (d + 1) 333 (665, [.ref 900000, .ref 0, .ref 70, .ref 95, .int x4, .int x5, .int x6], [.int y], h)) (fun e h => some (.inr e, h)) := (sy_at X [665] (d + 1) 333 4 _).trans rfl
set_option maxRecDepth 100000 in
theorem e333_665 {X : XS} {d u : Nat} {D : Nat → Nat → Int32} {J : Nat → Nat → Int64} (x4 : Int32) (x5 : Int32) (x6 : Int32) (y0 : Int32) : Ev X d 333 (665, [.ref 900000, .ref 0, .ref 70, .ref 95, .int x4, .int x5, .int x6], [.int y0], hS u D J) =
    br (decide (y0 = x5)) (br (decide (¬ x5 = 0)) (Ev X d 333 (1712, [.ref 900000, .ref 0, .ref 70, .ref 95, .int x4, .int x5, .int x6], [], hS u D J)) (br (decide ((lg_cmp (J 95 0) (Int32.toInt64 x6)) = 0)) (Ev X d 333 (1712, [.ref 900000, .ref 0, .ref 70, .ref 95, .int x4, .int x5, .int x6], [], hS u D J)) (some (.inl (some (.int 0)), hS u D J)))) (some (.inl (some (.int 0)), hS u D J)) := (sy_at X [1712] d 333 15 _).trans rfl
set_option maxRecDepth 100000 in
theorem f333_681 {X : XS} {d u : Nat} {D : Nat → Nat → Int32} {J : Nat → Nat → Int64} (x4 : Int32) : Ev X d 333 (681, [.ref 900000, .ref 0, .ref 70, .ref 95, .int x4, .null, .null], [], hS u D J) =
    gd (ob (x4 + 1) X.2) (Ev X d 333 (687, [.ref 900000, .ref 0, .ref 70, .ref 95, .int x4, .null, .null], [.int (X.1 (x4 + 1).toNatClampNeg), .ref 0], hS u D J)) := (sy_at X [687] d 333 8 _).trans rfl
set_option maxRecDepth 100000 in
theorem f333_687 {X : XS} {d u : Nat} {D : Nat → Nat → Int32} {J : Nat → Nat → Int64} (x4 : Int32) (y0 : Int32) : Ev X d 333 (687, [.ref 900000, .ref 0, .ref 70, .ref 95, .int x4, .null, .null], [.int y0, .ref 0], hS u D J) =
    gd (ob (x4 + 2) X.2) (Ev X d 333 (692, [.ref 900000, .ref 0, .ref 70, .ref 95, .int x4, .null, .null], [.int (X.1 (x4 + 2).toNatClampNeg), .int y0, .ref 0], hS u D J)) := (sy_at X [692] d 333 7 _).trans rfl
set_option maxRecDepth 100000 in
theorem f333_692 {X : XS} {d u : Nat} {D : Nat → Nat → Int32} {J : Nat → Nat → Int64} (x4 : Int32) (y0 : Int32) (y1 : Int32) : Ev X (d + 1) 333 (692, [.ref 900000, .ref 0, .ref 70, .ref 95, .int x4, .null, .null], [.int y0, .int y1, .ref 0], hS u D J) =
    bI (EvM X d 308 [.ref 0, .int y1, .int y0, .ref 95] (hS u D J)) (fun y h => Ev X (d + 1) 333 (694, [.ref 900000, .ref 0, .ref 70, .ref 95, .int x4, .null, .null], [.int y], h)) (fun e h => none) := (sy_at X [694] (d + 1) 333 4 _).trans rfl
set_option maxRecDepth 100000 in
theorem e333_681 {X : XS} {d u : Nat} {D : Nat → Nat → Int32} {J : Nat → Nat → Int64} (x4 : Int32) : Ev X (d + 1) 333 (681, [.ref 900000, .ref 0, .ref 70, .ref 95, .int x4, .null, .null], [], hS u D J) =
    gd (ob (x4 + 1) X.2) (gd (ob (x4 + 2) X.2) (bI (EvM X d 308 [.ref 0, .int (X.1 (x4 + 1).toNatClampNeg), .int (X.1 (x4 + 2).toNatClampNeg), .ref 95] (hS u D J)) (fun y h => Ev X (d + 1) 333 (694, [.ref 900000, .ref 0, .ref 70, .ref 95, .int x4, .null, .null], [.int y], h)) (fun e h => none))) := by
  refine (f333_681 _).trans ?_
  simp only [f333_687, f333_692]
set_option maxRecDepth 100000 in
theorem e333_694 {X : XS} {d u : Nat} {D : Nat → Nat → Int32} {J : Nat → Nat → Int64} (x4 : Int32) (y0 : Int32) : Ev X d 333 (694, [.ref 900000, .ref 0, .ref 70, .ref 95, .int x4, .null, .null], [.int y0], hS u D J) =
    Ev X d 333 (695, [.ref 900000, .ref 0, .ref 70, .ref 95, .int x4, .int y0, .null], [], hS u D J) := (sy_at X [695] d 333 3 _).trans rfl
set_option maxRecDepth 100000 in
theorem f333_695 {X : XS} {d u : Nat} {D : Nat → Nat → Int32} {J : Nat → Nat → Int64} (x4 : Int32) (x5 : Int32) : Ev X d 333 (695, [.ref 900000, .ref 0, .ref 70, .ref 95, .int x4, .int x5, .null], [], hS u D J) =
    gd (ob (x4 + 1) X.2) (Ev X d 333 (701, [.ref 900000, .ref 0, .ref 70, .ref 95, .int x4, .int x5, .null], [.int (X.1 (x4 + 1).toNatClampNeg), .ref 70], hS u D J)) := (sy_at X [701] d 333 8 _).trans rfl
set_option maxRecDepth 100000 in
theorem f333_701 {X : XS} {d u : Nat} {D : Nat → Nat → Int32} {J : Nat → Nat → Int64} (x4 : Int32) (x5 : Int32) (y0 : Int32) : Ev X d 333 (701, [.ref 900000, .ref 0, .ref 70, .ref 95, .int x4, .int x5, .null], [.int y0, .ref 70], hS u D J) =
    gd (ob (x4 + 2) X.2) (Ev X d 333 (706, [.ref 900000, .ref 0, .ref 70, .ref 95, .int x4, .int x5, .null], [.int (X.1 (x4 + 2).toNatClampNeg), .int y0, .ref 70], hS u D J)) := (sy_at X [706] d 333 7 _).trans rfl
set_option maxRecDepth 100000 in
theorem f333_706 {X : XS} {d u : Nat} {D : Nat → Nat → Int32} {J : Nat → Nat → Int64} (x4 : Int32) (x5 : Int32) (y0 : Int32) (y1 : Int32) : Ev X (d + 1) 333 (706, [.ref 900000, .ref 0, .ref 70, .ref 95, .int x4, .int x5, .null], [.int y0, .int y1, .ref 70], hS u D J) =
    bI (EvM X d 251 [.ref 70, .int y1, .int y0] (hS u D J)) (fun y h => Ev X (d + 1) 333 (707, [.ref 900000, .ref 0, .ref 70, .ref 95, .int x4, .int x5, .null], [.int y], h)) (fun e h => some (.inr e, h)) := (sy_at X [707] (d + 1) 333 3 _).trans rfl
set_option maxRecDepth 100000 in
theorem e333_695 {X : XS} {d u : Nat} {D : Nat → Nat → Int32} {J : Nat → Nat → Int64} (x4 : Int32) (x5 : Int32) : Ev X (d + 1) 333 (695, [.ref 900000, .ref 0, .ref 70, .ref 95, .int x4, .int x5, .null], [], hS u D J) =
    gd (ob (x4 + 1) X.2) (gd (ob (x4 + 2) X.2) (bI (EvM X d 251 [.ref 70, .int (X.1 (x4 + 1).toNatClampNeg), .int (X.1 (x4 + 2).toNatClampNeg)] (hS u D J)) (fun y h => Ev X (d + 1) 333 (707, [.ref 900000, .ref 0, .ref 70, .ref 95, .int x4, .int x5, .null], [.int y], h)) (fun e h => some (.inr e, h)))) := by
  refine (f333_695 _ _).trans ?_
  simp only [f333_701, f333_706]
set_option maxRecDepth 100000 in
theorem e333_707 {X : XS} {d u : Nat} {D : Nat → Nat → Int32} {J : Nat → Nat → Int64} (x4 : Int32) (x5 : Int32) (y0 : Int32) : Ev X d 333 (707, [.ref 900000, .ref 0, .ref 70, .ref 95, .int x4, .int x5, .null], [.int y0], hS u D J) =
    Ev X d 333 (708, [.ref 900000, .ref 0, .ref 70, .ref 95, .int x4, .int x5, .int y0], [], hS u D J) := (sy_at X [708] d 333 3 _).trans rfl
set_option maxRecDepth 100000 in
theorem e333_708 {X : XS} {d u : Nat} {D : Nat → Nat → Int32} {J : Nat → Nat → Int64} (x4 : Int32) (x5 : Int32) (x6 : Int32) : Ev X (d + 1) 333 (708, [.ref 900000, .ref 0, .ref 70, .ref 95, .int x4, .int x5, .int x6], [], hS u D J) =
    bI (EvM X d 171 [.ref 70] (hS u D J)) (fun y h => Ev X (d + 1) 333 (710, [.ref 900000, .ref 0, .ref 70, .ref 95, .int x4, .int x5, .int x6], [.int y], h)) (fun e h => some (.inr e, h)) := (sy_at X [710] (d + 1) 333 4 _).trans rfl
set_option maxRecDepth 100000 in
theorem e333_710 {X : XS} {d u : Nat} {D : Nat → Nat → Int32} {J : Nat → Nat → Int64} (x4 : Int32) (x5 : Int32) (x6 : Int32) (y0 : Int32) : Ev X d 333 (710, [.ref 900000, .ref 0, .ref 70, .ref 95, .int x4, .int x5, .int x6], [.int y0], hS u D J) =
    br (decide (y0 = x5)) (br (decide (¬ x5 = 0)) (Ev X d 333 (1712, [.ref 900000, .ref 0, .ref 70, .ref 95, .int x4, .int x5, .int x6], [], hS u D J)) (br (decide ((lg_cmp (J 95 0) (Int32.toInt64 x6)) = 0)) (Ev X d 333 (1712, [.ref 900000, .ref 0, .ref 70, .ref 95, .int x4, .int x5, .int x6], [], hS u D J)) (some (.inl (some (.int 0)), hS u D J)))) (some (.inl (some (.int 0)), hS u D J)) := (sy_at X [1712] d 333 15 _).trans rfl
set_option maxRecDepth 100000 in
theorem e333_726 {X : XS} {d u : Nat} {D : Nat → Nat → Int32} {J : Nat → Nat → Int64} (x4 : Int32) : Ev X (d + 1) 333 (726, [.ref 900000, .ref 0, .ref 70, .ref 95, .int x4, .null, .null], [], hS u D J) =
    gd (ob (x4 + 1) X.2) (bI (EvM X d 309 [.ref 0, .int (X.1 (x4 + 1).toNatClampNeg), .ref 95] (hS u D J)) (fun y h => Ev X (d + 1) 333 (734, [.ref 900000, .ref 0, .ref 70, .ref 95, .int x4, .null, .null], [.int y], h)) (fun e h => none)) := (sy_at X [734] (d + 1) 333 10 _).trans rfl
set_option maxRecDepth 100000 in
theorem e333_734 {X : XS} {d u : Nat} {D : Nat → Nat → Int32} {J : Nat → Nat → Int64} (x4 : Int32) (y0 : Int32) : Ev X d 333 (734, [.ref 900000, .ref 0, .ref 70, .ref 95, .int x4, .null, .null], [.int y0], hS u D J) =
    Ev X d 333 (735, [.ref 900000, .ref 0, .ref 70, .ref 95, .int x4, .int y0, .null], [], hS u D J) := (sy_at X [735] d 333 3 _).trans rfl
set_option maxRecDepth 100000 in
theorem e333_735 {X : XS} {d u : Nat} {D : Nat → Nat → Int32} {J : Nat → Nat → Int64} (x4 : Int32) (x5 : Int32) : Ev X (d + 1) 333 (735, [.ref 900000, .ref 0, .ref 70, .ref 95, .int x4, .int x5, .null], [], hS u D J) =
    gd (ob (x4 + 1) X.2) (bI (EvM X d 252 [.ref 70, .int (X.1 (x4 + 1).toNatClampNeg)] (hS u D J)) (fun y h => Ev X (d + 1) 333 (742, [.ref 900000, .ref 0, .ref 70, .ref 95, .int x4, .int x5, .null], [.int y], h)) (fun e h => some (.inr e, h))) := (sy_at X [742] (d + 1) 333 9 _).trans rfl
set_option maxRecDepth 100000 in
theorem e333_742 {X : XS} {d u : Nat} {D : Nat → Nat → Int32} {J : Nat → Nat → Int64} (x4 : Int32) (x5 : Int32) (y0 : Int32) : Ev X d 333 (742, [.ref 900000, .ref 0, .ref 70, .ref 95, .int x4, .int x5, .null], [.int y0], hS u D J) =
    Ev X d 333 (743, [.ref 900000, .ref 0, .ref 70, .ref 95, .int x4, .int x5, .int y0], [], hS u D J) := (sy_at X [743] d 333 3 _).trans rfl
set_option maxRecDepth 100000 in
theorem e333_743 {X : XS} {d u : Nat} {D : Nat → Nat → Int32} {J : Nat → Nat → Int64} (x4 : Int32) (x5 : Int32) (x6 : Int32) : Ev X (d + 1) 333 (743, [.ref 900000, .ref 0, .ref 70, .ref 95, .int x4, .int x5, .int x6], [], hS u D J) =
    bI (EvM X d 171 [.ref 70] (hS u D J)) (fun y h => Ev X (d + 1) 333 (745, [.ref 900000, .ref 0, .ref 70, .ref 95, .int x4, .int x5, .int x6], [.int y], h)) (fun e h => some (.inr e, h)) := (sy_at X [745] (d + 1) 333 4 _).trans rfl
set_option maxRecDepth 100000 in
theorem e333_745 {X : XS} {d u : Nat} {D : Nat → Nat → Int32} {J : Nat → Nat → Int64} (x4 : Int32) (x5 : Int32) (x6 : Int32) (y0 : Int32) : Ev X d 333 (745, [.ref 900000, .ref 0, .ref 70, .ref 95, .int x4, .int x5, .int x6], [.int y0], hS u D J) =
    br (decide (y0 = x5)) (br (decide (¬ x5 = 0)) (Ev X d 333 (1712, [.ref 900000, .ref 0, .ref 70, .ref 95, .int x4, .int x5, .int x6], [], hS u D J)) (br (decide ((lg_cmp (J 95 0) (Int32.toInt64 x6)) = 0)) (Ev X d 333 (1712, [.ref 900000, .ref 0, .ref 70, .ref 95, .int x4, .int x5, .int x6], [], hS u D J)) (some (.inl (some (.int 0)), hS u D J)))) (some (.inl (some (.int 0)), hS u D J)) := (sy_at X [1712] d 333 15 _).trans rfl
set_option maxRecDepth 100000 in
theorem f333_761 {X : XS} {d u : Nat} {D : Nat → Nat → Int32} {J : Nat → Nat → Int64} (x4 : Int32) : Ev X d 333 (761, [.ref 900000, .ref 0, .ref 70, .ref 95, .int x4, .null, .null], [], hS u D J) =
    gd (ob (x4 + 1) X.2) (Ev X d 333 (767, [.ref 900000, .ref 0, .ref 70, .ref 95, .int x4, .null, .null], [.int (X.1 (x4 + 1).toNatClampNeg), .ref 0], hS u D J)) := (sy_at X [767] d 333 8 _).trans rfl
set_option maxRecDepth 100000 in
theorem f333_767 {X : XS} {d u : Nat} {D : Nat → Nat → Int32} {J : Nat → Nat → Int64} (x4 : Int32) (y0 : Int32) : Ev X d 333 (767, [.ref 900000, .ref 0, .ref 70, .ref 95, .int x4, .null, .null], [.int y0, .ref 0], hS u D J) =
    gd (ob (x4 + 2) X.2) (Ev X d 333 (772, [.ref 900000, .ref 0, .ref 70, .ref 95, .int x4, .null, .null], [.int (X.1 (x4 + 2).toNatClampNeg), .int y0, .ref 0], hS u D J)) := (sy_at X [772] d 333 7 _).trans rfl
set_option maxRecDepth 100000 in
theorem f333_772 {X : XS} {d u : Nat} {D : Nat → Nat → Int32} {J : Nat → Nat → Int64} (x4 : Int32) (y0 : Int32) (y1 : Int32) : Ev X (d + 1) 333 (772, [.ref 900000, .ref 0, .ref 70, .ref 95, .int x4, .null, .null], [.int y0, .int y1, .ref 0], hS u D J) =
    bI (EvM X d 310 [.ref 0, .int y1, .int y0, .ref 95] (hS u D J)) (fun y h => Ev X (d + 1) 333 (774, [.ref 900000, .ref 0, .ref 70, .ref 95, .int x4, .null, .null], [.int y], h)) (fun e h => none) := (sy_at X [774] (d + 1) 333 4 _).trans rfl
set_option maxRecDepth 100000 in
theorem e333_761 {X : XS} {d u : Nat} {D : Nat → Nat → Int32} {J : Nat → Nat → Int64} (x4 : Int32) : Ev X (d + 1) 333 (761, [.ref 900000, .ref 0, .ref 70, .ref 95, .int x4, .null, .null], [], hS u D J) =
    gd (ob (x4 + 1) X.2) (gd (ob (x4 + 2) X.2) (bI (EvM X d 310 [.ref 0, .int (X.1 (x4 + 1).toNatClampNeg), .int (X.1 (x4 + 2).toNatClampNeg), .ref 95] (hS u D J)) (fun y h => Ev X (d + 1) 333 (774, [.ref 900000, .ref 0, .ref 70, .ref 95, .int x4, .null, .null], [.int y], h)) (fun e h => none))) := by
  refine (f333_761 _).trans ?_
  simp only [f333_767, f333_772]
set_option maxRecDepth 100000 in
theorem e333_774 {X : XS} {d u : Nat} {D : Nat → Nat → Int32} {J : Nat → Nat → Int64} (x4 : Int32) (y0 : Int32) : Ev X d 333 (774, [.ref 900000, .ref 0, .ref 70, .ref 95, .int x4, .null, .null], [.int y0], hS u D J) =
    Ev X d 333 (775, [.ref 900000, .ref 0, .ref 70, .ref 95, .int x4, .int y0, .null], [], hS u D J) := (sy_at X [775] d 333 3 _).trans rfl
set_option maxRecDepth 100000 in
theorem f333_775 {X : XS} {d u : Nat} {D : Nat → Nat → Int32} {J : Nat → Nat → Int64} (x4 : Int32) (x5 : Int32) : Ev X d 333 (775, [.ref 900000, .ref 0, .ref 70, .ref 95, .int x4, .int x5, .null], [], hS u D J) =
    gd (ob (x4 + 1) X.2) (Ev X d 333 (781, [.ref 900000, .ref 0, .ref 70, .ref 95, .int x4, .int x5, .null], [.int (X.1 (x4 + 1).toNatClampNeg), .ref 70], hS u D J)) := (sy_at X [781] d 333 8 _).trans rfl
set_option maxRecDepth 100000 in
theorem f333_781 {X : XS} {d u : Nat} {D : Nat → Nat → Int32} {J : Nat → Nat → Int64} (x4 : Int32) (x5 : Int32) (y0 : Int32) : Ev X d 333 (781, [.ref 900000, .ref 0, .ref 70, .ref 95, .int x4, .int x5, .null], [.int y0, .ref 70], hS u D J) =
    gd (ob (x4 + 2) X.2) (Ev X d 333 (786, [.ref 900000, .ref 0, .ref 70, .ref 95, .int x4, .int x5, .null], [.int (X.1 (x4 + 2).toNatClampNeg), .int y0, .ref 70], hS u D J)) := (sy_at X [786] d 333 7 _).trans rfl
set_option maxRecDepth 100000 in
theorem f333_786 {X : XS} {d u : Nat} {D : Nat → Nat → Int32} {J : Nat → Nat → Int64} (x4 : Int32) (x5 : Int32) (y0 : Int32) (y1 : Int32) : Ev X (d + 1) 333 (786, [.ref 900000, .ref 0, .ref 70, .ref 95, .int x4, .int x5, .null], [.int y0, .int y1, .ref 70], hS u D J) =
    bI (EvM X d 255 [.ref 70, .int y1, .int y0] (hS u D J)) (fun y h => Ev X (d + 1) 333 (787, [.ref 900000, .ref 0, .ref 70, .ref 95, .int x4, .int x5, .null], [.int y], h)) (fun e h => some (.inr e, h)) := (sy_at X [787] (d + 1) 333 3 _).trans rfl
set_option maxRecDepth 100000 in
theorem e333_775 {X : XS} {d u : Nat} {D : Nat → Nat → Int32} {J : Nat → Nat → Int64} (x4 : Int32) (x5 : Int32) : Ev X (d + 1) 333 (775, [.ref 900000, .ref 0, .ref 70, .ref 95, .int x4, .int x5, .null], [], hS u D J) =
    gd (ob (x4 + 1) X.2) (gd (ob (x4 + 2) X.2) (bI (EvM X d 255 [.ref 70, .int (X.1 (x4 + 1).toNatClampNeg), .int (X.1 (x4 + 2).toNatClampNeg)] (hS u D J)) (fun y h => Ev X (d + 1) 333 (787, [.ref 900000, .ref 0, .ref 70, .ref 95, .int x4, .int x5, .null], [.int y], h)) (fun e h => some (.inr e, h)))) := by
  refine (f333_775 _ _).trans ?_
  simp only [f333_781, f333_786]
set_option maxRecDepth 100000 in
theorem e333_787 {X : XS} {d u : Nat} {D : Nat → Nat → Int32} {J : Nat → Nat → Int64} (x4 : Int32) (x5 : Int32) (y0 : Int32) : Ev X d 333 (787, [.ref 900000, .ref 0, .ref 70, .ref 95, .int x4, .int x5, .null], [.int y0], hS u D J) =
    Ev X d 333 (788, [.ref 900000, .ref 0, .ref 70, .ref 95, .int x4, .int x5, .int y0], [], hS u D J) := (sy_at X [788] d 333 3 _).trans rfl
set_option maxRecDepth 100000 in
theorem e333_788 {X : XS} {d u : Nat} {D : Nat → Nat → Int32} {J : Nat → Nat → Int64} (x4 : Int32) (x5 : Int32) (x6 : Int32) : Ev X (d + 1) 333 (788, [.ref 900000, .ref 0, .ref 70, .ref 95, .int x4, .int x5, .int x6], [], hS u D J) =
    bI (EvM X d 171 [.ref 70] (hS u D J)) (fun y h => Ev X (d + 1) 333 (790, [.ref 900000, .ref 0, .ref 70, .ref 95, .int x4, .int x5, .int x6], [.int y], h)) (fun e h => some (.inr e, h)) := (sy_at X [790] (d + 1) 333 4 _).trans rfl
set_option maxRecDepth 100000 in
theorem e333_790 {X : XS} {d u : Nat} {D : Nat → Nat → Int32} {J : Nat → Nat → Int64} (x4 : Int32) (x5 : Int32) (x6 : Int32) (y0 : Int32) : Ev X d 333 (790, [.ref 900000, .ref 0, .ref 70, .ref 95, .int x4, .int x5, .int x6], [.int y0], hS u D J) =
    br (decide (y0 = x5)) (br (decide (¬ x5 = 0)) (Ev X d 333 (1712, [.ref 900000, .ref 0, .ref 70, .ref 95, .int x4, .int x5, .int x6], [], hS u D J)) (br (decide ((lg_cmp (J 95 0) (Int32.toInt64 x6)) = 0)) (Ev X d 333 (1712, [.ref 900000, .ref 0, .ref 70, .ref 95, .int x4, .int x5, .int x6], [], hS u D J)) (some (.inl (some (.int 0)), hS u D J)))) (some (.inl (some (.int 0)), hS u D J)) := (sy_at X [1712] d 333 15 _).trans rfl
set_option maxRecDepth 100000 in
theorem f333_806 {X : XS} {d u : Nat} {D : Nat → Nat → Int32} {J : Nat → Nat → Int64} (x4 : Int32) : Ev X d 333 (806, [.ref 900000, .ref 0, .ref 70, .ref 95, .int x4, .null, .null], [], hS u D J) =
    gd (ob (x4 + 1) X.2) (Ev X d 333 (812, [.ref 900000, .ref 0, .ref 70, .ref 95, .int x4, .null, .null], [.int (X.1 (x4 + 1).toNatClampNeg), .ref 0], hS u D J)) := (sy_at X [812] d 333 8 _).trans rfl
set_option maxRecDepth 100000 in
theorem f333_812 {X : XS} {d u : Nat} {D : Nat → Nat → Int32} {J : Nat → Nat → Int64} (x4 : Int32) (y0 : Int32) : Ev X d 333 (812, [.ref 900000, .ref 0, .ref 70, .ref 95, .int x4, .null, .null], [.int y0, .ref 0], hS u D J) =
    gd (ob (x4 + 2) X.2) (Ev X d 333 (817, [.ref 900000, .ref 0, .ref 70, .ref 95, .int x4, .null, .null], [.int (X.1 (x4 + 2).toNatClampNeg), .int y0, .ref 0], hS u D J)) := (sy_at X [817] d 333 7 _).trans rfl
set_option maxRecDepth 100000 in
theorem f333_817 {X : XS} {d u : Nat} {D : Nat → Nat → Int32} {J : Nat → Nat → Int64} (x4 : Int32) (y0 : Int32) (y1 : Int32) : Ev X d 333 (817, [.ref 900000, .ref 0, .ref 70, .ref 95, .int x4, .null, .null], [.int y0, .int y1, .ref 0], hS u D J) =
    gd (ob (x4 + 3) X.2) (Ev X d 333 (822, [.ref 900000, .ref 0, .ref 70, .ref 95, .int x4, .null, .null], [.int (X.1 (x4 + 3).toNatClampNeg), .int y0, .int y1, .ref 0], hS u D J)) := (sy_at X [822] d 333 7 _).trans rfl
set_option maxRecDepth 100000 in
theorem f333_822 {X : XS} {d u : Nat} {D : Nat → Nat → Int32} {J : Nat → Nat → Int64} (x4 : Int32) (y0 : Int32) (y1 : Int32) (y2 : Int32) : Ev X (d + 1) 333 (822, [.ref 900000, .ref 0, .ref 70, .ref 95, .int x4, .null, .null], [.int y0, .int y1, .int y2, .ref 0], hS u D J) =
    bI (EvM X d 311 [.ref 0, .int y2, .int y1, .int y0, .ref 95] (hS u D J)) (fun y h => Ev X (d + 1) 333 (824, [.ref 900000, .ref 0, .ref 70, .ref 95, .int x4, .null, .null], [.int y], h)) (fun e h => none) := (sy_at X [824] (d + 1) 333 4 _).trans rfl
set_option maxRecDepth 100000 in
theorem e333_806 {X : XS} {d u : Nat} {D : Nat → Nat → Int32} {J : Nat → Nat → Int64} (x4 : Int32) : Ev X (d + 1) 333 (806, [.ref 900000, .ref 0, .ref 70, .ref 95, .int x4, .null, .null], [], hS u D J) =
    gd (ob (x4 + 1) X.2) (gd (ob (x4 + 2) X.2) (gd (ob (x4 + 3) X.2) (bI (EvM X d 311 [.ref 0, .int (X.1 (x4 + 1).toNatClampNeg), .int (X.1 (x4 + 2).toNatClampNeg), .int (X.1 (x4 + 3).toNatClampNeg), .ref 95] (hS u D J)) (fun y h => Ev X (d + 1) 333 (824, [.ref 900000, .ref 0, .ref 70, .ref 95, .int x4, .null, .null], [.int y], h)) (fun e h => none)))) := by
  refine (f333_806 _).trans ?_
  simp only [f333_812, f333_817, f333_822]
set_option maxRecDepth 100000 in
theorem e333_824 {X : XS} {d u : Nat} {D : Nat → Nat → Int32} {J : Nat → Nat → Int64} (x4 : Int32) (y0 : Int32) : Ev X d 333 (824, [.ref 900000, .ref 0, .ref 70, .ref 95, .int x4, .null, .null], [.int y0], hS u D J) =
    Ev X d 333 (825, [.ref 900000, .ref 0, .ref 70, .ref 95, .int x4, .int y0, .null], [], hS u D J) := (sy_at X [825] d 333 3 _).trans rfl
set_option maxRecDepth 100000 in
theorem f333_825 {X : XS} {d u : Nat} {D : Nat → Nat → Int32} {J : Nat → Nat → Int64} (x4 : Int32) (x5 : Int32) : Ev X d 333 (825, [.ref 900000, .ref 0, .ref 70, .ref 95, .int x4, .int x5, .null], [], hS u D J) =
    gd (ob (x4 + 1) X.2) (Ev X d 333 (831, [.ref 900000, .ref 0, .ref 70, .ref 95, .int x4, .int x5, .null], [.int (X.1 (x4 + 1).toNatClampNeg), .ref 70], hS u D J)) := (sy_at X [831] d 333 8 _).trans rfl
set_option maxRecDepth 100000 in
theorem f333_831 {X : XS} {d u : Nat} {D : Nat → Nat → Int32} {J : Nat → Nat → Int64} (x4 : Int32) (x5 : Int32) (y0 : Int32) : Ev X d 333 (831, [.ref 900000, .ref 0, .ref 70, .ref 95, .int x4, .int x5, .null], [.int y0, .ref 70], hS u D J) =
    gd (ob (x4 + 2) X.2) (Ev X d 333 (836, [.ref 900000, .ref 0, .ref 70, .ref 95, .int x4, .int x5, .null], [.int (X.1 (x4 + 2).toNatClampNeg), .int y0, .ref 70], hS u D J)) := (sy_at X [836] d 333 7 _).trans rfl
set_option maxRecDepth 100000 in
theorem f333_836 {X : XS} {d u : Nat} {D : Nat → Nat → Int32} {J : Nat → Nat → Int64} (x4 : Int32) (x5 : Int32) (y0 : Int32) (y1 : Int32) : Ev X d 333 (836, [.ref 900000, .ref 0, .ref 70, .ref 95, .int x4, .int x5, .null], [.int y0, .int y1, .ref 70], hS u D J) =
    gd (ob (x4 + 3) X.2) (Ev X d 333 (841, [.ref 900000, .ref 0, .ref 70, .ref 95, .int x4, .int x5, .null], [.int (X.1 (x4 + 3).toNatClampNeg), .int y0, .int y1, .ref 70], hS u D J)) := (sy_at X [841] d 333 7 _).trans rfl
set_option maxRecDepth 100000 in
theorem f333_841 {X : XS} {d u : Nat} {D : Nat → Nat → Int32} {J : Nat → Nat → Int64} (x4 : Int32) (x5 : Int32) (y0 : Int32) (y1 : Int32) (y2 : Int32) : Ev X (d + 1) 333 (841, [.ref 900000, .ref 0, .ref 70, .ref 95, .int x4, .int x5, .null], [.int y0, .int y1, .int y2, .ref 70], hS u D J) =
    bI (EvM X d 256 [.ref 70, .int y2, .int y1, .int y0] (hS u D J)) (fun y h => Ev X (d + 1) 333 (842, [.ref 900000, .ref 0, .ref 70, .ref 95, .int x4, .int x5, .null], [.int y], h)) (fun e h => some (.inr e, h)) := (sy_at X [842] (d + 1) 333 3 _).trans rfl
set_option maxRecDepth 100000 in
theorem e333_825 {X : XS} {d u : Nat} {D : Nat → Nat → Int32} {J : Nat → Nat → Int64} (x4 : Int32) (x5 : Int32) : Ev X (d + 1) 333 (825, [.ref 900000, .ref 0, .ref 70, .ref 95, .int x4, .int x5, .null], [], hS u D J) =
    gd (ob (x4 + 1) X.2) (gd (ob (x4 + 2) X.2) (gd (ob (x4 + 3) X.2) (bI (EvM X d 256 [.ref 70, .int (X.1 (x4 + 1).toNatClampNeg), .int (X.1 (x4 + 2).toNatClampNeg), .int (X.1 (x4 + 3).toNatClampNeg)] (hS u D J)) (fun y h => Ev X (d + 1) 333 (842, [.ref 900000, .ref 0, .ref 70, .ref 95, .int x4, .int x5, .null], [.int y], h)) (fun e h => some (.inr e, h))))) := by
  refine (f333_825 _ _).trans ?_
  simp only [f333_831, f333_836, f333_841]
set_option maxRecDepth 100000 in
theorem e333_842 {X : XS} {d u : Nat} {D : Nat → Nat → Int32} {J : Nat → Nat → Int64} (x4 : Int32) (x5 : Int32) (y0 : Int32) : Ev X d 333 (842, [.ref 900000, .ref 0, .ref 70, .ref 95, .int x4, .int x5, .null], [.int y0], hS u D J) =
    Ev X d 333 (843, [.ref 900000, .ref 0, .ref 70, .ref 95, .int x4, .int x5, .int y0], [], hS u D J) := (sy_at X [843] d 333 3 _).trans rfl
set_option maxRecDepth 100000 in
theorem e333_843 {X : XS} {d u : Nat} {D : Nat → Nat → Int32} {J : Nat → Nat → Int64} (x4 : Int32) (x5 : Int32) (x6 : Int32) : Ev X (d + 1) 333 (843, [.ref 900000, .ref 0, .ref 70, .ref 95, .int x4, .int x5, .int x6], [], hS u D J) =
    bI (EvM X d 171 [.ref 70] (hS u D J)) (fun y h => Ev X (d + 1) 333 (845, [.ref 900000, .ref 0, .ref 70, .ref 95, .int x4, .int x5, .int x6], [.int y], h)) (fun e h => some (.inr e, h)) := (sy_at X [845] (d + 1) 333 4 _).trans rfl
set_option maxRecDepth 100000 in
theorem e333_845 {X : XS} {d u : Nat} {D : Nat → Nat → Int32} {J : Nat → Nat → Int64} (x4 : Int32) (x5 : Int32) (x6 : Int32) (y0 : Int32) : Ev X d 333 (845, [.ref 900000, .ref 0, .ref 70, .ref 95, .int x4, .int x5, .int x6], [.int y0], hS u D J) =
    br (decide (y0 = x5)) (br (decide (¬ x5 = 0)) (Ev X d 333 (1712, [.ref 900000, .ref 0, .ref 70, .ref 95, .int x4, .int x5, .int x6], [], hS u D J)) (br (decide ((lg_cmp (J 95 0) (Int32.toInt64 x6)) = 0)) (Ev X d 333 (1712, [.ref 900000, .ref 0, .ref 70, .ref 95, .int x4, .int x5, .int x6], [], hS u D J)) (some (.inl (some (.int 0)), hS u D J)))) (some (.inl (some (.int 0)), hS u D J)) := (sy_at X [1712] d 333 15 _).trans rfl
set_option maxRecDepth 100000 in
theorem e333_861 {X : XS} {d u : Nat} {D : Nat → Nat → Int32} {J : Nat → Nat → Int64} (x4 : Int32) : Ev X (d + 1) 333 (861, [.ref 900000, .ref 0, .ref 70, .ref 95, .int x4, .null, .null], [], hS u D J) =
    bI (EvM X d 128 [.ref 0] (hS u D J)) (fun y h => Ev X (d + 1) 333 (863, [.ref 900000, .ref 0, .ref 70, .ref 95, .int x4, .null, .null], [.int y], h)) (fun e h => some (.inr e, h)) := (sy_at X [863] (d + 1) 333 4 _).trans rfl
set_option maxRecDepth 100000 in
theorem e333_863 {X : XS} {d u : Nat} {D : Nat → Nat → Int32} {J : Nat → Nat → Int64} (x4 : Int32) (y0 : Int32) : Ev X (d + 1) 333 (863, [.ref 900000, .ref 0, .ref 70, .ref 95, .int x4, .null, .null], [.int y0], hS u D J) =
    bI (EvM X d 257 [.ref 70] (hS u D J)) (fun y h => Ev X (d + 1) 333 (865, [.ref 900000, .ref 0, .ref 70, .ref 95, .int x4, .null, .null], [.int y, .int y0], h)) (fun e h => some (.inr e, h)) := (sy_at X [865] (d + 1) 333 4 _).trans rfl
set_option maxRecDepth 100000 in
theorem e333_865 {X : XS} {d u : Nat} {D : Nat → Nat → Int32} {J : Nat → Nat → Int64} (x4 : Int32) (y0 : Int32) (y1 : Int32) : Ev X d 333 (865, [.ref 900000, .ref 0, .ref 70, .ref 95, .int x4, .null, .null], [.int y0, .int y1], hS u D J) =
    br (decide (y1 = y0)) (Ev X d 333 (1712, [.ref 900000, .ref 0, .ref 70, .ref 95, .int x4, .null, .null], [], hS u D J)) (some (.inl (some (.int 0)), hS u D J)) := (sy_at X [1712] d 333 5 _).trans rfl
set_option maxRecDepth 100000 in
theorem f333_868 {X : XS} {d u : Nat} {D : Nat → Nat → Int32} {J : Nat → Nat → Int64} (x4 : Int32) : Ev X d 333 (868, [.ref 900000, .ref 0, .ref 70, .ref 95, .int x4, .null, .null], [], hS u D J) =
    gd (ob (x4 + 1) X.2) (Ev X d 333 (874, [.ref 900000, .ref 0, .ref 70, .ref 95, .int x4, .null, .null], [.int (X.1 (x4 + 1).toNatClampNeg), .ref 0], hS u D J)) := (sy_at X [874] d 333 8 _).trans rfl
set_option maxRecDepth 100000 in
theorem f333_874 {X : XS} {d u : Nat} {D : Nat → Nat → Int32} {J : Nat → Nat → Int64} (x4 : Int32) (y0 : Int32) : Ev X d 333 (874, [.ref 900000, .ref 0, .ref 70, .ref 95, .int x4, .null, .null], [.int y0, .ref 0], hS u D J) =
    gd (ob (x4 + 2) X.2) (Ev X d 333 (879, [.ref 900000, .ref 0, .ref 70, .ref 95, .int x4, .null, .null], [.int (X.1 (x4 + 2).toNatClampNeg), .int y0, .ref 0], hS u D J)) := (sy_at X [879] d 333 7 _).trans rfl
set_option maxRecDepth 100000 in
theorem f333_879 {X : XS} {d u : Nat} {D : Nat → Nat → Int32} {J : Nat → Nat → Int64} (x4 : Int32) (y0 : Int32) (y1 : Int32) : Ev X (d + 1) 333 (879, [.ref 900000, .ref 0, .ref 70, .ref 95, .int x4, .null, .null], [.int y0, .int y1, .ref 0], hS u D J) =
    bI (EvM X d 312 [.ref 0, .int y1, .int y0, .ref 95] (hS u D J)) (fun y h => Ev X (d + 1) 333 (881, [.ref 900000, .ref 0, .ref 70, .ref 95, .int x4, .null, .null], [.int y], h)) (fun e h => none) := (sy_at X [881] (d + 1) 333 4 _).trans rfl
set_option maxRecDepth 100000 in
theorem e333_868 {X : XS} {d u : Nat} {D : Nat → Nat → Int32} {J : Nat → Nat → Int64} (x4 : Int32) : Ev X (d + 1) 333 (868, [.ref 900000, .ref 0, .ref 70, .ref 95, .int x4, .null, .null], [], hS u D J) =
    gd (ob (x4 + 1) X.2) (gd (ob (x4 + 2) X.2) (bI (EvM X d 312 [.ref 0, .int (X.1 (x4 + 1).toNatClampNeg), .int (X.1 (x4 + 2).toNatClampNeg), .ref 95] (hS u D J)) (fun y h => Ev X (d + 1) 333 (881, [.ref 900000, .ref 0, .ref 70, .ref 95, .int x4, .null, .null], [.int y], h)) (fun e h => none))) := by
  refine (f333_868 _).trans ?_
  simp only [f333_874, f333_879]
set_option maxRecDepth 100000 in
theorem e333_881 {X : XS} {d u : Nat} {D : Nat → Nat → Int32} {J : Nat → Nat → Int64} (x4 : Int32) (y0 : Int32) : Ev X d 333 (881, [.ref 900000, .ref 0, .ref 70, .ref 95, .int x4, .null, .null], [.int y0], hS u D J) =
    Ev X d 333 (882, [.ref 900000, .ref 0, .ref 70, .ref 95, .int x4, .int y0, .null], [], hS u D J) := (sy_at X [882] d 333 3 _).trans rfl
