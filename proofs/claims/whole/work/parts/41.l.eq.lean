/-! ===== printed by wip/gen/eqparts.py: equations of the law ===== -/
theorem e295_0 {X : XS} {d u : Nat} {D : Nat → Nat → Int32} {J : Nat → Nat → Int64} (x1 : Int32) : Ev X (d + 1) 295 (0, [.ref 0, .int x1, .ref 95, .null], [], hS u D J) =
    bI (EvM X d 102 [.ref 0, .int x1] (hS u D J)) (fun y h => Ev X (d + 1) 295 (5, [.ref 0, .int x1, .ref 95, .null], [.int y, .int 0, .ref 95], h)) (fun e h => if e = 2 then Ev X (d + 1) 295 (9, [.ref 0, .int x1, .ref 95, .null], [], h) else none) := (sy_at X [0, 5, 9] (d + 1) 295 7 _).trans rfl
theorem e295_5 {X : XS} {d u : Nat} {D : Nat → Nat → Int32} {J : Nat → Nat → Int64} (x1 : Int32) (y0 : Int32) (y1 : Int32) : Ev X d 295 (5, [.ref 0, .int x1, .ref 95, .null], [.int y0, .int y1, .ref 95], hS u D J) =
    gd (ob y1 1) (some (.inl (some (.int 0)), hS u D (uj J 95 y1.toNatClampNeg (Int32.toInt64 y0)))) := (sy_at X [0, 5, 9] d 295 7 _).trans rfl
theorem e295_9 {X : XS} {d u : Nat} {D : Nat → Nat → Int32} {J : Nat → Nat → Int64} (x1 : Int32) : Ev X d 295 (9, [.ref 0, .int x1, .ref 95, .null], [], hS u D J) =
    some (.inl (some (.int 1)), hS u D J) := (sy_at X [0, 5, 9] d 295 4 _).trans rfl
theorem e296_0 {X : XS} {d u : Nat} {D : Nat → Nat → Int32} {J : Nat → Nat → Int64} (x1 : Int32) : Ev X (d + 1) 296 (0, [.ref 0, .int x1, .ref 95, .null], [], hS u D J) =
    bI (EvM X d 105 [.ref 0, .int x1] (hS u D J)) (fun y h => Ev X (d + 1) 296 (5, [.ref 0, .int x1, .ref 95, .null], [.int y, .int 0, .ref 95], h)) (fun e h => if e = 1 then Ev X (d + 1) 296 (9, [.ref 0, .int x1, .ref 95, .null], [], h) else none) := (sy_at X [0, 5, 9] (d + 1) 296 7 _).trans rfl
theorem e296_5 {X : XS} {d u : Nat} {D : Nat → Nat → Int32} {J : Nat → Nat → Int64} (x1 : Int32) (y0 : Int32) (y1 : Int32) : Ev X d 296 (5, [.ref 0, .int x1, .ref 95, .null], [.int y0, .int y1, .ref 95], hS u D J) =
    gd (ob y1 1) (some (.inl (some (.int 0)), hS u D (uj J 95 y1.toNatClampNeg (Int32.toInt64 y0)))) := (sy_at X [0, 5, 9] d 296 7 _).trans rfl
theorem e296_9 {X : XS} {d u : Nat} {D : Nat → Nat → Int32} {J : Nat → Nat → Int64} (x1 : Int32) : Ev X d 296 (9, [.ref 0, .int x1, .ref 95, .null], [], hS u D J) =
    some (.inl (some (.int 1)), hS u D J) := (sy_at X [0, 5, 9] d 296 4 _).trans rfl
theorem e297_0 {X : XS} {d u : Nat} {D : Nat → Nat → Int32} {J : Nat → Nat → Int64} (x1 : Int32) (x2 : Int32) : Ev X (d + 1) 297 (0, [.ref 0, .int x1, .int x2, .ref 95, .null], [], hS u D J) =
    bI (EvM X d 108 [.ref 0, .int x1, .int x2] (hS u D J)) (fun y h => Ev X (d + 1) 297 (6, [.ref 0, .int x1, .int x2, .ref 95, .null], [.int y, .int 0, .ref 95], h)) (fun e h => if e = 1 then Ev X (d + 1) 297 (10, [.ref 0, .int x1, .int x2, .ref 95, .null], [], h) else none) := (sy_at X [0, 6, 10] (d + 1) 297 8 _).trans rfl
theorem e297_6 {X : XS} {d u : Nat} {D : Nat → Nat → Int32} {J : Nat → Nat → Int64} (x1 : Int32) (x2 : Int32) (y0 : Int32) (y1 : Int32) : Ev X d 297 (6, [.ref 0, .int x1, .int x2, .ref 95, .null], [.int y0, .int y1, .ref 95], hS u D J) =
    gd (ob y1 1) (some (.inl (some (.int 0)), hS u D (uj J 95 y1.toNatClampNeg (Int32.toInt64 y0)))) := (sy_at X [0, 6, 10] d 297 7 _).trans rfl
theorem e297_10 {X : XS} {d u : Nat} {D : Nat → Nat → Int32} {J : Nat → Nat → Int64} (x1 : Int32) (x2 : Int32) : Ev X d 297 (10, [.ref 0, .int x1, .int x2, .ref 95, .null], [], hS u D J) =
    some (.inl (some (.int 1)), hS u D J) := (sy_at X [0, 6, 10] d 297 4 _).trans rfl
theorem e298_0 {X : XS} {d u : Nat} {D : Nat → Nat → Int32} {J : Nat → Nat → Int64} (x1 : Int32) (x2 : Int32) : Ev X (d + 1) 298 (0, [.ref 0, .int x1, .int x2, .ref 95, .null], [], hS u D J) =
    bI (EvM X d 109 [.ref 0, .int x1, .int x2] (hS u D J)) (fun y h => Ev X (d + 1) 298 (6, [.ref 0, .int x1, .int x2, .ref 95, .null], [.int y, .int 0, .ref 95], h)) (fun e h => if e = 1 then Ev X (d + 1) 298 (10, [.ref 0, .int x1, .int x2, .ref 95, .null], [], h) else none) := (sy_at X [0, 6, 10] (d + 1) 298 8 _).trans rfl
theorem e298_6 {X : XS} {d u : Nat} {D : Nat → Nat → Int32} {J : Nat → Nat → Int64} (x1 : Int32) (x2 : Int32) (y0 : Int32) (y1 : Int32) : Ev X d 298 (6, [.ref 0, .int x1, .int x2, .ref 95, .null], [.int y0, .int y1, .ref 95], hS u D J) =
    gd (ob y1 1) (some (.inl (some (.int 0)), hS u D (uj J 95 y1.toNatClampNeg (Int32.toInt64 y0)))) := (sy_at X [0, 6, 10] d 298 7 _).trans rfl
theorem e298_10 {X : XS} {d u : Nat} {D : Nat → Nat → Int32} {J : Nat → Nat → Int64} (x1 : Int32) (x2 : Int32) : Ev X d 298 (10, [.ref 0, .int x1, .int x2, .ref 95, .null], [], hS u D J) =
    some (.inl (some (.int 1)), hS u D J) := (sy_at X [0, 6, 10] d 298 4 _).trans rfl
theorem e299_0 {X : XS} {d u : Nat} {D : Nat → Nat → Int32} {J : Nat → Nat → Int64} (x1 : Int32) : Ev X (d + 1) 299 (0, [.ref 0, .int x1, .ref 95, .null], [], hS u D J) =
    bI (EvM X d 113 [.ref 0, .int x1] (hS u D J)) (fun y h => Ev X (d + 1) 299 (5, [.ref 0, .int x1, .ref 95, .null], [.int y, .int 0, .ref 95], h)) (fun e h => if e = 1 then Ev X (d + 1) 299 (9, [.ref 0, .int x1, .ref 95, .null], [], h) else none) := (sy_at X [0, 5, 9] (d + 1) 299 7 _).trans rfl
theorem e299_5 {X : XS} {d u : Nat} {D : Nat → Nat → Int32} {J : Nat → Nat → Int64} (x1 : Int32) (y0 : Int32) (y1 : Int32) : Ev X d 299 (5, [.ref 0, .int x1, .ref 95, .null], [.int y0, .int y1, .ref 95], hS u D J) =
    gd (ob y1 1) (some (.inl (some (.int 0)), hS u D (uj J 95 y1.toNatClampNeg (Int32.toInt64 y0)))) := (sy_at X [0, 5, 9] d 299 7 _).trans rfl
theorem e299_9 {X : XS} {d u : Nat} {D : Nat → Nat → Int32} {J : Nat → Nat → Int64} (x1 : Int32) : Ev X d 299 (9, [.ref 0, .int x1, .ref 95, .null], [], hS u D J) =
    some (.inl (some (.int 1)), hS u D J) := (sy_at X [0, 5, 9] d 299 4 _).trans rfl
theorem e300_0 {X : XS} {d u : Nat} {D : Nat → Nat → Int32} {J : Nat → Nat → Int64} (x1 : Int32) : Ev X (d + 1) 300 (0, [.ref 0, .int x1, .ref 95, .null], [], hS u D J) =
    bI (EvM X d 114 [.ref 0, .int x1] (hS u D J)) (fun y h => Ev X (d + 1) 300 (5, [.ref 0, .int x1, .ref 95, .null], [.int y, .int 0, .ref 95], h)) (fun e h => if e = 1 then Ev X (d + 1) 300 (9, [.ref 0, .int x1, .ref 95, .null], [], h) else none) := (sy_at X [0, 5, 9] (d + 1) 300 7 _).trans rfl
theorem e300_5 {X : XS} {d u : Nat} {D : Nat → Nat → Int32} {J : Nat → Nat → Int64} (x1 : Int32) (y0 : Int32) (y1 : Int32) : Ev X d 300 (5, [.ref 0, .int x1, .ref 95, .null], [.int y0, .int y1, .ref 95], hS u D J) =
    gd (ob y1 1) (some (.inl (some (.int 0)), hS u D (uj J 95 y1.toNatClampNeg (Int32.toInt64 y0)))) := (sy_at X [0, 5, 9] d 300 7 _).trans rfl
theorem e300_9 {X : XS} {d u : Nat} {D : Nat → Nat → Int32} {J : Nat → Nat → Int64} (x1 : Int32) : Ev X d 300 (9, [.ref 0, .int x1, .ref 95, .null], [], hS u D J) =
    some (.inl (some (.int 1)), hS u D J) := (sy_at X [0, 5, 9] d 300 4 _).trans rfl
theorem e301_0 {X : XS} {d u : Nat} {D : Nat → Nat → Int32} {J : Nat → Nat → Int64} (x1 : Int32) (x2 : Int32) : Ev X (d + 1) 301 (0, [.ref 0, .int x1, .int x2, .ref 95, .null], [], hS u D J) =
    bI (EvM X d 115 [.ref 0, .int x1, .int x2] (hS u D J)) (fun y h => Ev X (d + 1) 301 (6, [.ref 0, .int x1, .int x2, .ref 95, .null], [.int y, .int 0, .ref 95], h)) (fun e h => if e = 1 then Ev X (d + 1) 301 (13, [.ref 0, .int x1, .int x2, .ref 95, .null], [], h) else none) := (sy_at X [0, 6, 13] (d + 1) 301 8 _).trans rfl
theorem e301_6 {X : XS} {d u : Nat} {D : Nat → Nat → Int32} {J : Nat → Nat → Int64} (x1 : Int32) (x2 : Int32) (y0 : Int32) (y1 : Int32) : Ev X d 301 (6, [.ref 0, .int x1, .int x2, .ref 95, .null], [.int y0, .int y1, .ref 95], hS u D J) =
    br (decide (y0 = 0)) (gd (ob y1 1) (some (.inl (some (.int 0)), hS u D (uj J 95 y1.toNatClampNeg (Int64.ofNat 0))))) (gd (ob y1 1) (some (.inl (some (.int 0)), hS u D (uj J 95 y1.toNatClampNeg (Int64.ofNat 1))))) := (sy_at X [0, 6, 13] d 301 9 _).trans rfl
theorem e301_13 {X : XS} {d u : Nat} {D : Nat → Nat → Int32} {J : Nat → Nat → Int64} (x1 : Int32) (x2 : Int32) : Ev X d 301 (13, [.ref 0, .int x1, .int x2, .ref 95, .null], [], hS u D J) =
    some (.inl (some (.int 1)), hS u D J) := (sy_at X [0, 6, 13] d 301 4 _).trans rfl
theorem e302_0 {X : XS} {d u : Nat} {D : Nat → Nat → Int32} {J : Nat → Nat → Int64} (x1 : Int32) (x2 : Int32) : Ev X (d + 1) 302 (0, [.ref 0, .int x1, .int x2, .ref 95, .null], [], hS u D J) =
    bI (EvM X d 116 [.ref 0, .int x1, .int x2] (hS u D J)) (fun y h => Ev X (d + 1) 302 (6, [.ref 0, .int x1, .int x2, .ref 95, .null], [.int y, .int 0, .ref 95], h)) (fun e h => if e = 1 then Ev X (d + 1) 302 (10, [.ref 0, .int x1, .int x2, .ref 95, .null], [], h) else none) := (sy_at X [0, 6, 10] (d + 1) 302 8 _).trans rfl
theorem e302_6 {X : XS} {d u : Nat} {D : Nat → Nat → Int32} {J : Nat → Nat → Int64} (x1 : Int32) (x2 : Int32) (y0 : Int32) (y1 : Int32) : Ev X d 302 (6, [.ref 0, .int x1, .int x2, .ref 95, .null], [.int y0, .int y1, .ref 95], hS u D J) =
    gd (ob y1 1) (some (.inl (some (.int 0)), hS u D (uj J 95 y1.toNatClampNeg (Int32.toInt64 y0)))) := (sy_at X [0, 6, 10] d 302 7 _).trans rfl
theorem e302_10 {X : XS} {d u : Nat} {D : Nat → Nat → Int32} {J : Nat → Nat → Int64} (x1 : Int32) (x2 : Int32) : Ev X d 302 (10, [.ref 0, .int x1, .int x2, .ref 95, .null], [], hS u D J) =
    some (.inl (some (.int 1)), hS u D J) := (sy_at X [0, 6, 10] d 302 4 _).trans rfl
theorem e303_0 {X : XS} {d u : Nat} {D : Nat → Nat → Int32} {J : Nat → Nat → Int64} (x1 : Int32) (x2 : Int32) : Ev X (d + 1) 303 (0, [.ref 0, .int x1, .int x2, .ref 95, .null], [], hS u D J) =
    bI (EvM X d 117 [.ref 0, .int x1, .int x2] (hS u D J)) (fun y h => Ev X (d + 1) 303 (6, [.ref 0, .int x1, .int x2, .ref 95, .null], [.int y, .int 0, .ref 95], h)) (fun e h => if e = 1 then Ev X (d + 1) 303 (10, [.ref 0, .int x1, .int x2, .ref 95, .null], [], h) else none) := (sy_at X [0, 6, 10] (d + 1) 303 8 _).trans rfl
theorem e303_6 {X : XS} {d u : Nat} {D : Nat → Nat → Int32} {J : Nat → Nat → Int64} (x1 : Int32) (x2 : Int32) (y0 : Int32) (y1 : Int32) : Ev X d 303 (6, [.ref 0, .int x1, .int x2, .ref 95, .null], [.int y0, .int y1, .ref 95], hS u D J) =
    gd (ob y1 1) (some (.inl (some (.int 0)), hS u D (uj J 95 y1.toNatClampNeg (Int32.toInt64 y0)))) := (sy_at X [0, 6, 10] d 303 7 _).trans rfl
theorem e303_10 {X : XS} {d u : Nat} {D : Nat → Nat → Int32} {J : Nat → Nat → Int64} (x1 : Int32) (x2 : Int32) : Ev X d 303 (10, [.ref 0, .int x1, .int x2, .ref 95, .null], [], hS u D J) =
    some (.inl (some (.int 1)), hS u D J) := (sy_at X [0, 6, 10] d 303 4 _).trans rfl
theorem e304_0 {X : XS} {d u : Nat} {D : Nat → Nat → Int32} {J : Nat → Nat → Int64} (x1 : Int32) (x2 : Int32) (x3 : Int32) : Ev X (d + 1) 304 (0, [.ref 0, .int x1, .int x2, .int x3, .ref 95, .null], [], hS u D J) =
    bI (EvM X d 120 [.ref 0, .int x1, .int x2, .int x3] (hS u D J)) (fun y h => Ev X (d + 1) 304 (7, [.ref 0, .int x1, .int x2, .int x3, .ref 95, .null], [.int y, .int 0, .ref 95], h)) (fun e h => if e = 1 then Ev X (d + 1) 304 (11, [.ref 0, .int x1, .int x2, .int x3, .ref 95, .null], [], h) else if e = 2 then Ev X (d + 1) 304 (14, [.ref 0, .int x1, .int x2, .int x3, .ref 95, .null], [], h) else none) := (sy_at X [0, 7, 11, 14] (d + 1) 304 9 _).trans rfl
theorem e304_7 {X : XS} {d u : Nat} {D : Nat → Nat → Int32} {J : Nat → Nat → Int64} (x1 : Int32) (x2 : Int32) (x3 : Int32) (y0 : Int32) (y1 : Int32) : Ev X d 304 (7, [.ref 0, .int x1, .int x2, .int x3, .ref 95, .null], [.int y0, .int y1, .ref 95], hS u D J) =
    gd (ob y1 1) (some (.inl (some (.int 0)), hS u D (uj J 95 y1.toNatClampNeg (Int32.toInt64 y0)))) := (sy_at X [0, 7, 11, 14] d 304 7 _).trans rfl
theorem e304_11 {X : XS} {d u : Nat} {D : Nat → Nat → Int32} {J : Nat → Nat → Int64} (x1 : Int32) (x2 : Int32) (x3 : Int32) : Ev X d 304 (11, [.ref 0, .int x1, .int x2, .int x3, .ref 95, .null], [], hS u D J) =
    some (.inl (some (.int 1)), hS u D J) := (sy_at X [0, 7, 11, 14] d 304 4 _).trans rfl
theorem e304_14 {X : XS} {d u : Nat} {D : Nat → Nat → Int32} {J : Nat → Nat → Int64} (x1 : Int32) (x2 : Int32) (x3 : Int32) : Ev X d 304 (14, [.ref 0, .int x1, .int x2, .int x3, .ref 95, .null], [], hS u D J) =
    some (.inl (some (.int 2)), hS u D J) := (sy_at X [0, 7, 11, 14] d 304 4 _).trans rfl
theorem e305_0 {X : XS} {d u : Nat} {D : Nat → Nat → Int32} {J : Nat → Nat → Int64} (x1 : Int32) (x2 : Int32) (x3 : Int32) : Ev X (d + 1) 305 (0, [.ref 0, .int x1, .int x2, .int x3, .ref 95, .null], [], hS u D J) =
    bI (EvM X d 121 [.ref 0, .int x1, .int x2, .int x3] (hS u D J)) (fun y h => Ev X (d + 1) 305 (7, [.ref 0, .int x1, .int x2, .int x3, .ref 95, .null], [.int y, .int 0, .ref 95], h)) (fun e h => if e = 2 then Ev X (d + 1) 305 (11, [.ref 0, .int x1, .int x2, .int x3, .ref 95, .null], [], h) else none) := (sy_at X [0, 7, 11] (d + 1) 305 9 _).trans rfl
theorem e305_7 {X : XS} {d u : Nat} {D : Nat → Nat → Int32} {J : Nat → Nat → Int64} (x1 : Int32) (x2 : Int32) (x3 : Int32) (y0 : Int32) (y1 : Int32) : Ev X d 305 (7, [.ref 0, .int x1, .int x2, .int x3, .ref 95, .null], [.int y0, .int y1, .ref 95], hS u D J) =
    gd (ob y1 1) (some (.inl (some (.int 0)), hS u D (uj J 95 y1.toNatClampNeg (Int32.toInt64 y0)))) := (sy_at X [0, 7, 11] d 305 7 _).trans rfl
theorem e305_11 {X : XS} {d u : Nat} {D : Nat → Nat → Int32} {J : Nat → Nat → Int64} (x1 : Int32) (x2 : Int32) (x3 : Int32) : Ev X d 305 (11, [.ref 0, .int x1, .int x2, .int x3, .ref 95, .null], [], hS u D J) =
    some (.inl (some (.int 1)), hS u D J) := (sy_at X [0, 7, 11] d 305 4 _).trans rfl
theorem e306_0 {X : XS} {d u : Nat} {D : Nat → Nat → Int32} {J : Nat → Nat → Int64} (x1 : Int32) (x2 : Int32) : Ev X (d + 1) 306 (0, [.ref 0, .int x1, .int x2, .ref 95, .null], [], hS u D J) =
    bI (EvM X d 122 [.ref 0, .int x1, .int x2] (hS u D J)) (fun y h => Ev X (d + 1) 306 (6, [.ref 0, .int x1, .int x2, .ref 95, .null], [.int y, .int 0, .ref 95], h)) (fun e h => if e = 1 then Ev X (d + 1) 306 (10, [.ref 0, .int x1, .int x2, .ref 95, .null], [], h) else if e = 2 then Ev X (d + 1) 306 (13, [.ref 0, .int x1, .int x2, .ref 95, .null], [], h) else none) := (sy_at X [0, 6, 10, 13] (d + 1) 306 8 _).trans rfl
theorem e306_6 {X : XS} {d u : Nat} {D : Nat → Nat → Int32} {J : Nat → Nat → Int64} (x1 : Int32) (x2 : Int32) (y0 : Int32) (y1 : Int32) : Ev X d 306 (6, [.ref 0, .int x1, .int x2, .ref 95, .null], [.int y0, .int y1, .ref 95], hS u D J) =
    gd (ob y1 1) (some (.inl (some (.int 0)), hS u D (uj J 95 y1.toNatClampNeg (Int32.toInt64 y0)))) := (sy_at X [0, 6, 10, 13] d 306 7 _).trans rfl
theorem e306_10 {X : XS} {d u : Nat} {D : Nat → Nat → Int32} {J : Nat → Nat → Int64} (x1 : Int32) (x2 : Int32) : Ev X d 306 (10, [.ref 0, .int x1, .int x2, .ref 95, .null], [], hS u D J) =
    some (.inl (some (.int 1)), hS u D J) := (sy_at X [0, 6, 10, 13] d 306 4 _).trans rfl
theorem e306_13 {X : XS} {d u : Nat} {D : Nat → Nat → Int32} {J : Nat → Nat → Int64} (x1 : Int32) (x2 : Int32) : Ev X d 306 (13, [.ref 0, .int x1, .int x2, .ref 95, .null], [], hS u D J) =
    some (.inl (some (.int 2)), hS u D J) := (sy_at X [0, 6, 10, 13] d 306 4 _).trans rfl
theorem e307_0 {X : XS} {d u : Nat} {D : Nat → Nat → Int32} {J : Nat → Nat → Int64} (x1 : Int32) (x2 : Int32) : Ev X (d + 1) 307 (0, [.ref 0, .int x1, .int x2, .ref 95, .null], [], hS u D J) =
    bI (EvM X d 123 [.ref 0, .int x1, .int x2] (hS u D J)) (fun y h => Ev X (d + 1) 307 (6, [.ref 0, .int x1, .int x2, .ref 95, .null], [.int y, .int 0, .ref 95], h)) (fun e h => if e = 2 then Ev X (d + 1) 307 (10, [.ref 0, .int x1, .int x2, .ref 95, .null], [], h) else none) := (sy_at X [0, 6, 10] (d + 1) 307 8 _).trans rfl
theorem e307_6 {X : XS} {d u : Nat} {D : Nat → Nat → Int32} {J : Nat → Nat → Int64} (x1 : Int32) (x2 : Int32) (y0 : Int32) (y1 : Int32) : Ev X d 307 (6, [.ref 0, .int x1, .int x2, .ref 95, .null], [.int y0, .int y1, .ref 95], hS u D J) =
    gd (ob y1 1) (some (.inl (some (.int 0)), hS u D (uj J 95 y1.toNatClampNeg (Int32.toInt64 y0)))) := (sy_at X [0, 6, 10] d 307 7 _).trans rfl
theorem e307_10 {X : XS} {d u : Nat} {D : Nat → Nat → Int32} {J : Nat → Nat → Int64} (x1 : Int32) (x2 : Int32) : Ev X d 307 (10, [.ref 0, .int x1, .int x2, .ref 95, .null], [], hS u D J) =
    some (.inl (some (.int 1)), hS u D J) := (sy_at X [0, 6, 10] d 307 4 _).trans rfl
theorem e308_0 {X : XS} {d u : Nat} {D : Nat → Nat → Int32} {J : Nat → Nat → Int64} (x1 : Int32) (x2 : Int32) : Ev X (d + 1) 308 (0, [.ref 0, .int x1, .int x2, .ref 95, .null], [], hS u D J) =
    bI (EvM X d 124 [.ref 0, .int x1, .int x2] (hS u D J)) (fun y h => Ev X (d + 1) 308 (6, [.ref 0, .int x1, .int x2, .ref 95, .null], [.int y, .int 0, .ref 95], h)) (fun e h => if e = 1 then Ev X (d + 1) 308 (10, [.ref 0, .int x1, .int x2, .ref 95, .null], [], h) else if e = 2 then Ev X (d + 1) 308 (13, [.ref 0, .int x1, .int x2, .ref 95, .null], [], h) else none) := (sy_at X [0, 6, 10, 13] (d + 1) 308 8 _).trans rfl
theorem e308_6 {X : XS} {d u : Nat} {D : Nat → Nat → Int32} {J : Nat → Nat → Int64} (x1 : Int32) (x2 : Int32) (y0 : Int32) (y1 : Int32) : Ev X d 308 (6, [.ref 0, .int x1, .int x2, .ref 95, .null], [.int y0, .int y1, .ref 95], hS u D J) =
    gd (ob y1 1) (some (.inl (some (.int 0)), hS u D (uj J 95 y1.toNatClampNeg (Int32.toInt64 y0)))) := (sy_at X [0, 6, 10, 13] d 308 7 _).trans rfl
theorem e308_10 {X : XS} {d u : Nat} {D : Nat → Nat → Int32} {J : Nat → Nat → Int64} (x1 : Int32) (x2 : Int32) : Ev X d 308 (10, [.ref 0, .int x1, .int x2, .ref 95, .null], [], hS u D J) =
    some (.inl (some (.int 1)), hS u D J) := (sy_at X [0, 6, 10, 13] d 308 4 _).trans rfl
theorem e308_13 {X : XS} {d u : Nat} {D : Nat → Nat → Int32} {J : Nat → Nat → Int64} (x1 : Int32) (x2 : Int32) : Ev X d 308 (13, [.ref 0, .int x1, .int x2, .ref 95, .null], [], hS u D J) =
    some (.inl (some (.int 2)), hS u D J) := (sy_at X [0, 6, 10, 13] d 308 4 _).trans rfl
theorem e309_0 {X : XS} {d u : Nat} {D : Nat → Nat → Int32} {J : Nat → Nat → Int64} (x1 : Int32) : Ev X (d + 1) 309 (0, [.ref 0, .int x1, .ref 95, .null], [], hS u D J) =
    bI (EvM X d 125 [.ref 0, .int x1] (hS u D J)) (fun y h => Ev X (d + 1) 309 (5, [.ref 0, .int x1, .ref 95, .null], [.int y, .int 0, .ref 95], h)) (fun e h => if e = 1 then Ev X (d + 1) 309 (9, [.ref 0, .int x1, .ref 95, .null], [], h) else none) := (sy_at X [0, 5, 9] (d + 1) 309 7 _).trans rfl
theorem e309_5 {X : XS} {d u : Nat} {D : Nat → Nat → Int32} {J : Nat → Nat → Int64} (x1 : Int32) (y0 : Int32) (y1 : Int32) : Ev X d 309 (5, [.ref 0, .int x1, .ref 95, .null], [.int y0, .int y1, .ref 95], hS u D J) =
    gd (ob y1 1) (some (.inl (some (.int 0)), hS u D (uj J 95 y1.toNatClampNeg (Int32.toInt64 y0)))) := (sy_at X [0, 5, 9] d 309 7 _).trans rfl
theorem e309_9 {X : XS} {d u : Nat} {D : Nat → Nat → Int32} {J : Nat → Nat → Int64} (x1 : Int32) : Ev X d 309 (9, [.ref 0, .int x1, .ref 95, .null], [], hS u D J) =
    some (.inl (some (.int 1)), hS u D J) := (sy_at X [0, 5, 9] d 309 4 _).trans rfl
theorem e310_0 {X : XS} {d u : Nat} {D : Nat → Nat → Int32} {J : Nat → Nat → Int64} (x1 : Int32) (x2 : Int32) : Ev X (d + 1) 310 (0, [.ref 0, .int x1, .int x2, .ref 95, .null], [], hS u D J) =
    bI (EvM X d 126 [.ref 0, .int x1, .int x2] (hS u D J)) (fun y h => Ev X (d + 1) 310 (6, [.ref 0, .int x1, .int x2, .ref 95, .null], [.int y, .int 0, .ref 95], h)) (fun e h => if e = 1 then Ev X (d + 1) 310 (10, [.ref 0, .int x1, .int x2, .ref 95, .null], [], h) else none) := (sy_at X [0, 6, 10] (d + 1) 310 8 _).trans rfl
theorem e310_6 {X : XS} {d u : Nat} {D : Nat → Nat → Int32} {J : Nat → Nat → Int64} (x1 : Int32) (x2 : Int32) (y0 : Int32) (y1 : Int32) : Ev X d 310 (6, [.ref 0, .int x1, .int x2, .ref 95, .null], [.int y0, .int y1, .ref 95], hS u D J) =
    gd (ob y1 1) (some (.inl (some (.int 0)), hS u D (uj J 95 y1.toNatClampNeg (Int32.toInt64 y0)))) := (sy_at X [0, 6, 10] d 310 7 _).trans rfl
theorem e310_10 {X : XS} {d u : Nat} {D : Nat → Nat → Int32} {J : Nat → Nat → Int64} (x1 : Int32) (x2 : Int32) : Ev X d 310 (10, [.ref 0, .int x1, .int x2, .ref 95, .null], [], hS u D J) =
    some (.inl (some (.int 1)), hS u D J) := (sy_at X [0, 6, 10] d 310 4 _).trans rfl
theorem e311_0 {X : XS} {d u : Nat} {D : Nat → Nat → Int32} {J : Nat → Nat → Int64} (x1 : Int32) (x2 : Int32) (x3 : Int32) : Ev X (d + 1) 311 (0, [.ref 0, .int x1, .int x2, .int x3, .ref 95, .null], [], hS u D J) =
    bI (EvM X d 127 [.ref 0, .int x1, .int x2, .int x3] (hS u D J)) (fun y h => Ev X (d + 1) 311 (7, [.ref 0, .int x1, .int x2, .int x3, .ref 95, .null], [.int y, .int 0, .ref 95], h)) (fun e h => if e = 1 then Ev X (d + 1) 311 (11, [.ref 0, .int x1, .int x2, .int x3, .ref 95, .null], [], h) else if e = 2 then Ev X (d + 1) 311 (14, [.ref 0, .int x1, .int x2, .int x3, .ref 95, .null], [], h) else none) := (sy_at X [0, 7, 11, 14] (d + 1) 311 9 _).trans rfl
theorem e311_7 {X : XS} {d u : Nat} {D : Nat → Nat → Int32} {J : Nat → Nat → Int64} (x1 : Int32) (x2 : Int32) (x3 : Int32) (y0 : Int32) (y1 : Int32) : Ev X d 311 (7, [.ref 0, .int x1, .int x2, .int x3, .ref 95, .null], [.int y0, .int y1, .ref 95], hS u D J) =
    gd (ob y1 1) (some (.inl (some (.int 0)), hS u D (uj J 95 y1.toNatClampNeg (Int32.toInt64 y0)))) := (sy_at X [0, 7, 11, 14] d 311 7 _).trans rfl
theorem e311_11 {X : XS} {d u : Nat} {D : Nat → Nat → Int32} {J : Nat → Nat → Int64} (x1 : Int32) (x2 : Int32) (x3 : Int32) : Ev X d 311 (11, [.ref 0, .int x1, .int x2, .int x3, .ref 95, .null], [], hS u D J) =
    some (.inl (some (.int 1)), hS u D J) := (sy_at X [0, 7, 11, 14] d 311 4 _).trans rfl
theorem e311_14 {X : XS} {d u : Nat} {D : Nat → Nat → Int32} {J : Nat → Nat → Int64} (x1 : Int32) (x2 : Int32) (x3 : Int32) : Ev X d 311 (14, [.ref 0, .int x1, .int x2, .int x3, .ref 95, .null], [], hS u D J) =
    some (.inl (some (.int 2)), hS u D J) := (sy_at X [0, 7, 11, 14] d 311 4 _).trans rfl
theorem e312_0 {X : XS} {d u : Nat} {D : Nat → Nat → Int32} {J : Nat → Nat → Int64} (x1 : Int32) (x2 : Int32) : Ev X (d + 1) 312 (0, [.ref 0, .int x1, .int x2, .ref 95, .null], [], hS u D J) =
    bI (EvM X d 129 [.ref 0, .int x1, .int x2] (hS u D J)) (fun y h => Ev X (d + 1) 312 (6, [.ref 0, .int x1, .int x2, .ref 95, .null], [.int y, .int 0, .ref 95], h)) (fun e h => if e = 1 then Ev X (d + 1) 312 (10, [.ref 0, .int x1, .int x2, .ref 95, .null], [], h) else if e = 2 then Ev X (d + 1) 312 (13, [.ref 0, .int x1, .int x2, .ref 95, .null], [], h) else none) := (sy_at X [0, 6, 10, 13] (d + 1) 312 8 _).trans rfl
theorem e312_6 {X : XS} {d u : Nat} {D : Nat → Nat → Int32} {J : Nat → Nat → Int64} (x1 : Int32) (x2 : Int32) (y0 : Int32) (y1 : Int32) : Ev X d 312 (6, [.ref 0, .int x1, .int x2, .ref 95, .null], [.int y0, .int y1, .ref 95], hS u D J) =
    gd (ob y1 1) (some (.inl (some (.int 0)), hS u D (uj J 95 y1.toNatClampNeg (Int32.toInt64 y0)))) := (sy_at X [0, 6, 10, 13] d 312 7 _).trans rfl
theorem e312_10 {X : XS} {d u : Nat} {D : Nat → Nat → Int32} {J : Nat → Nat → Int64} (x1 : Int32) (x2 : Int32) : Ev X d 312 (10, [.ref 0, .int x1, .int x2, .ref 95, .null], [], hS u D J) =
    some (.inl (some (.int 1)), hS u D J) := (sy_at X [0, 6, 10, 13] d 312 4 _).trans rfl
theorem e312_13 {X : XS} {d u : Nat} {D : Nat → Nat → Int32} {J : Nat → Nat → Int64} (x1 : Int32) (x2 : Int32) : Ev X d 312 (13, [.ref 0, .int x1, .int x2, .ref 95, .null], [], hS u D J) =
    some (.inl (some (.int 2)), hS u D J) := (sy_at X [0, 6, 10, 13] d 312 4 _).trans rfl
theorem e313_0 {X : XS} {d u : Nat} {D : Nat → Nat → Int32} {J : Nat → Nat → Int64} (x1 : Int32) (x2 : Int32) : Ev X (d + 1) 313 (0, [.ref 0, .int x1, .int x2, .ref 95, .null], [], hS u D J) =
    bI (EvM X d 130 [.ref 0, .int x1, .int x2] (hS u D J)) (fun y h => Ev X (d + 1) 313 (6, [.ref 0, .int x1, .int x2, .ref 95, .null], [.int y, .int 0, .ref 95], h)) (fun e h => if e = 1 then Ev X (d + 1) 313 (10, [.ref 0, .int x1, .int x2, .ref 95, .null], [], h) else none) := (sy_at X [0, 6, 10] (d + 1) 313 8 _).trans rfl
theorem e313_6 {X : XS} {d u : Nat} {D : Nat → Nat → Int32} {J : Nat → Nat → Int64} (x1 : Int32) (x2 : Int32) (y0 : Int32) (y1 : Int32) : Ev X d 313 (6, [.ref 0, .int x1, .int x2, .ref 95, .null], [.int y0, .int y1, .ref 95], hS u D J) =
    gd (ob y1 1) (some (.inl (some (.int 0)), hS u D (uj J 95 y1.toNatClampNeg (Int32.toInt64 y0)))) := (sy_at X [0, 6, 10] d 313 7 _).trans rfl
theorem e313_10 {X : XS} {d u : Nat} {D : Nat → Nat → Int32} {J : Nat → Nat → Int64} (x1 : Int32) (x2 : Int32) : Ev X d 313 (10, [.ref 0, .int x1, .int x2, .ref 95, .null], [], hS u D J) =
    some (.inl (some (.int 1)), hS u D J) := (sy_at X [0, 6, 10] d 313 4 _).trans rfl
theorem e314_0 {X : XS} {d u : Nat} {D : Nat → Nat → Int32} {J : Nat → Nat → Int64} (x1 : Int32) : Ev X (d + 1) 314 (0, [.ref 0, .int x1, .ref 95, .null], [], hS u D J) =
    bI (EvM X d 131 [.ref 0, .int x1] (hS u D J)) (fun y h => Ev X (d + 1) 314 (5, [.ref 0, .int x1, .ref 95, .null], [.int y, .int 0, .ref 95], h)) (fun e h => if e = 2 then Ev X (d + 1) 314 (9, [.ref 0, .int x1, .ref 95, .null], [], h) else none) := (sy_at X [0, 5, 9] (d + 1) 314 7 _).trans rfl
theorem e314_5 {X : XS} {d u : Nat} {D : Nat → Nat → Int32} {J : Nat → Nat → Int64} (x1 : Int32) (y0 : Int32) (y1 : Int32) : Ev X d 314 (5, [.ref 0, .int x1, .ref 95, .null], [.int y0, .int y1, .ref 95], hS u D J) =
    gd (ob y1 1) (some (.inl (some (.int 0)), hS u D (uj J 95 y1.toNatClampNeg (Int32.toInt64 y0)))) := (sy_at X [0, 5, 9] d 314 7 _).trans rfl
theorem e314_9 {X : XS} {d u : Nat} {D : Nat → Nat → Int32} {J : Nat → Nat → Int64} (x1 : Int32) : Ev X d 314 (9, [.ref 0, .int x1, .ref 95, .null], [], hS u D J) =
    some (.inl (some (.int 1)), hS u D J) := (sy_at X [0, 5, 9] d 314 4 _).trans rfl
theorem e315_0 {X : XS} {d u : Nat} {D : Nat → Nat → Int32} {J : Nat → Nat → Int64} (x1 : Int32) : Ev X (d + 1) 315 (0, [.ref 0, .int x1, .ref 95, .null], [], hS u D J) =
    bI (EvM X d 132 [.ref 0, .int x1] (hS u D J)) (fun y h => Ev X (d + 1) 315 (5, [.ref 0, .int x1, .ref 95, .null], [.int y, .int 0, .ref 95], h)) (fun e h => if e = 1 then Ev X (d + 1) 315 (9, [.ref 0, .int x1, .ref 95, .null], [], h) else none) := (sy_at X [0, 5, 9] (d + 1) 315 7 _).trans rfl
theorem e315_5 {X : XS} {d u : Nat} {D : Nat → Nat → Int32} {J : Nat → Nat → Int64} (x1 : Int32) (y0 : Int32) (y1 : Int32) : Ev X d 315 (5, [.ref 0, .int x1, .ref 95, .null], [.int y0, .int y1, .ref 95], hS u D J) =
    gd (ob y1 1) (some (.inl (some (.int 0)), hS u D (uj J 95 y1.toNatClampNeg (Int32.toInt64 y0)))) := (sy_at X [0, 5, 9] d 315 7 _).trans rfl
theorem e315_9 {X : XS} {d u : Nat} {D : Nat → Nat → Int32} {J : Nat → Nat → Int64} (x1 : Int32) : Ev X d 315 (9, [.ref 0, .int x1, .ref 95, .null], [], hS u D J) =
    some (.inl (some (.int 1)), hS u D J) := (sy_at X [0, 5, 9] d 315 4 _).trans rfl
theorem e316_0 {X : XS} {d u : Nat} {D : Nat → Nat → Int32} {J : Nat → Nat → Int64} (x1 : Int32) (x2 : Int32) : Ev X (d + 1) 316 (0, [.ref 0, .int x1, .int x2, .ref 95, .null], [], hS u D J) =
    bI (EvM X d 133 [.ref 0, .int x1, .int x2] (hS u D J)) (fun y h => Ev X (d + 1) 316 (6, [.ref 0, .int x1, .int x2, .ref 95, .null], [.int y, .int 0, .ref 95], h)) (fun e h => if e = 1 then Ev X (d + 1) 316 (10, [.ref 0, .int x1, .int x2, .ref 95, .null], [], h) else none) := (sy_at X [0, 6, 10] (d + 1) 316 8 _).trans rfl
theorem e316_6 {X : XS} {d u : Nat} {D : Nat → Nat → Int32} {J : Nat → Nat → Int64} (x1 : Int32) (x2 : Int32) (y0 : Int32) (y1 : Int32) : Ev X d 316 (6, [.ref 0, .int x1, .int x2, .ref 95, .null], [.int y0, .int y1, .ref 95], hS u D J) =
    gd (ob y1 1) (some (.inl (some (.int 0)), hS u D (uj J 95 y1.toNatClampNeg (Int32.toInt64 y0)))) := (sy_at X [0, 6, 10] d 316 7 _).trans rfl
theorem e316_10 {X : XS} {d u : Nat} {D : Nat → Nat → Int32} {J : Nat → Nat → Int64} (x1 : Int32) (x2 : Int32) : Ev X d 316 (10, [.ref 0, .int x1, .int x2, .ref 95, .null], [], hS u D J) =
    some (.inl (some (.int 1)), hS u D J) := (sy_at X [0, 6, 10] d 316 4 _).trans rfl
theorem e317_0 {X : XS} {d u : Nat} {D : Nat → Nat → Int32} {J : Nat → Nat → Int64} (x1 : Int32) : Ev X (d + 1) 317 (0, [.ref 0, .int x1, .ref 95, .null], [], hS u D J) =
    bI (EvM X d 134 [.ref 0, .int x1] (hS u D J)) (fun y h => Ev X (d + 1) 317 (5, [.ref 0, .int x1, .ref 95, .null], [.int y, .int 0, .ref 95], h)) (fun e h => if e = 1 then Ev X (d + 1) 317 (9, [.ref 0, .int x1, .ref 95, .null], [], h) else none) := (sy_at X [0, 5, 9] (d + 1) 317 7 _).trans rfl
theorem e317_5 {X : XS} {d u : Nat} {D : Nat → Nat → Int32} {J : Nat → Nat → Int64} (x1 : Int32) (y0 : Int32) (y1 : Int32) : Ev X d 317 (5, [.ref 0, .int x1, .ref 95, .null], [.int y0, .int y1, .ref 95], hS u D J) =
    gd (ob y1 1) (some (.inl (some (.int 0)), hS u D (uj J 95 y1.toNatClampNeg (Int32.toInt64 y0)))) := (sy_at X [0, 5, 9] d 317 7 _).trans rfl
theorem e317_9 {X : XS} {d u : Nat} {D : Nat → Nat → Int32} {J : Nat → Nat → Int64} (x1 : Int32) : Ev X d 317 (9, [.ref 0, .int x1, .ref 95, .null], [], hS u D J) =
    some (.inl (some (.int 1)), hS u D J) := (sy_at X [0, 5, 9] d 317 4 _).trans rfl
theorem e318_0 {X : XS} {d u : Nat} {D : Nat → Nat → Int32} {J : Nat → Nat → Int64} (x1 : Int32) : Ev X (d + 1) 318 (0, [.ref 0, .int x1, .ref 95, .null], [], hS u D J) =
    bI (EvM X d 136 [.ref 0, .int x1] (hS u D J)) (fun y h => Ev X (d + 1) 318 (5, [.ref 0, .int x1, .ref 95, .null], [.int y, .int 0, .ref 95], h)) (fun e h => if e = 1 then Ev X (d + 1) 318 (9, [.ref 0, .int x1, .ref 95, .null], [], h) else none) := (sy_at X [0, 5, 9] (d + 1) 318 7 _).trans rfl
theorem e318_5 {X : XS} {d u : Nat} {D : Nat → Nat → Int32} {J : Nat → Nat → Int64} (x1 : Int32) (y0 : Int32) (y1 : Int32) : Ev X d 318 (5, [.ref 0, .int x1, .ref 95, .null], [.int y0, .int y1, .ref 95], hS u D J) =
    gd (ob y1 1) (some (.inl (some (.int 0)), hS u D (uj J 95 y1.toNatClampNeg (Int32.toInt64 y0)))) := (sy_at X [0, 5, 9] d 318 7 _).trans rfl
theorem e318_9 {X : XS} {d u : Nat} {D : Nat → Nat → Int32} {J : Nat → Nat → Int64} (x1 : Int32) : Ev X d 318 (9, [.ref 0, .int x1, .ref 95, .null], [], hS u D J) =
    some (.inl (some (.int 1)), hS u D J) := (sy_at X [0, 5, 9] d 318 4 _).trans rfl
theorem e319_0 {X : XS} {d u : Nat} {D : Nat → Nat → Int32} {J : Nat → Nat → Int64} (x1 : Int32) (x2 : Int32) (x3 : Int32) : Ev X (d + 1) 319 (0, [.ref 0, .int x1, .int x2, .int x3, .ref 95, .null], [], hS u D J) =
    bI (EvM X d 137 [.ref 0, .int x1, .int x2, .int x3] (hS u D J)) (fun y h => Ev X (d + 1) 319 (7, [.ref 0, .int x1, .int x2, .int x3, .ref 95, .null], [.int y, .int 0, .ref 95], h)) (fun e h => if e = 1 then Ev X (d + 1) 319 (11, [.ref 0, .int x1, .int x2, .int x3, .ref 95, .null], [], h) else none) := (sy_at X [0, 7, 11] (d + 1) 319 9 _).trans rfl
theorem e319_7 {X : XS} {d u : Nat} {D : Nat → Nat → Int32} {J : Nat → Nat → Int64} (x1 : Int32) (x2 : Int32) (x3 : Int32) (y0 : Int32) (y1 : Int32) : Ev X d 319 (7, [.ref 0, .int x1, .int x2, .int x3, .ref 95, .null], [.int y0, .int y1, .ref 95], hS u D J) =
    gd (ob y1 1) (some (.inl (some (.int 0)), hS u D (uj J 95 y1.toNatClampNeg (Int32.toInt64 y0)))) := (sy_at X [0, 7, 11] d 319 7 _).trans rfl
theorem e319_11 {X : XS} {d u : Nat} {D : Nat → Nat → Int32} {J : Nat → Nat → Int64} (x1 : Int32) (x2 : Int32) (x3 : Int32) : Ev X d 319 (11, [.ref 0, .int x1, .int x2, .int x3, .ref 95, .null], [], hS u D J) =
    some (.inl (some (.int 1)), hS u D J) := (sy_at X [0, 7, 11] d 319 4 _).trans rfl
theorem e320_0 {X : XS} {d u : Nat} {D : Nat → Nat → Int32} {J : Nat → Nat → Int64} (x1 : Int32) : Ev X (d + 1) 320 (0, [.ref 0, .int x1, .ref 95, .null], [], hS u D J) =
    bI (EvM X d 139 [.ref 0, .int x1] (hS u D J)) (fun y h => Ev X (d + 1) 320 (5, [.ref 0, .int x1, .ref 95, .null], [.int y, .int 0, .ref 95], h)) (fun e h => if e = 1 then Ev X (d + 1) 320 (9, [.ref 0, .int x1, .ref 95, .null], [], h) else none) := (sy_at X [0, 5, 9] (d + 1) 320 7 _).trans rfl
theorem e320_5 {X : XS} {d u : Nat} {D : Nat → Nat → Int32} {J : Nat → Nat → Int64} (x1 : Int32) (y0 : Int32) (y1 : Int32) : Ev X d 320 (5, [.ref 0, .int x1, .ref 95, .null], [.int y0, .int y1, .ref 95], hS u D J) =
    gd (ob y1 1) (some (.inl (some (.int 0)), hS u D (uj J 95 y1.toNatClampNeg (Int32.toInt64 y0)))) := (sy_at X [0, 5, 9] d 320 7 _).trans rfl
theorem e320_9 {X : XS} {d u : Nat} {D : Nat → Nat → Int32} {J : Nat → Nat → Int64} (x1 : Int32) : Ev X d 320 (9, [.ref 0, .int x1, .ref 95, .null], [], hS u D J) =
    some (.inl (some (.int 1)), hS u D J) := (sy_at X [0, 5, 9] d 320 4 _).trans rfl
theorem e321_0 {X : XS} {d u : Nat} {D : Nat → Nat → Int32} {J : Nat → Nat → Int64} (x1 : Int32) : Ev X (d + 1) 321 (0, [.ref 0, .int x1, .ref 95, .null], [], hS u D J) =
    bI (EvM X d 140 [.ref 0, .int x1] (hS u D J)) (fun y h => Ev X (d + 1) 321 (5, [.ref 0, .int x1, .ref 95, .null], [.int y, .int 0, .ref 95], h)) (fun e h => if e = 1 then Ev X (d + 1) 321 (9, [.ref 0, .int x1, .ref 95, .null], [], h) else none) := (sy_at X [0, 5, 9] (d + 1) 321 7 _).trans rfl
theorem e321_5 {X : XS} {d u : Nat} {D : Nat → Nat → Int32} {J : Nat → Nat → Int64} (x1 : Int32) (y0 : Int32) (y1 : Int32) : Ev X d 321 (5, [.ref 0, .int x1, .ref 95, .null], [.int y0, .int y1, .ref 95], hS u D J) =
    gd (ob y1 1) (some (.inl (some (.int 0)), hS u D (uj J 95 y1.toNatClampNeg (Int32.toInt64 y0)))) := (sy_at X [0, 5, 9] d 321 7 _).trans rfl
theorem e321_9 {X : XS} {d u : Nat} {D : Nat → Nat → Int32} {J : Nat → Nat → Int64} (x1 : Int32) : Ev X d 321 (9, [.ref 0, .int x1, .ref 95, .null], [], hS u D J) =
    some (.inl (some (.int 1)), hS u D J) := (sy_at X [0, 5, 9] d 321 4 _).trans rfl
theorem e322_0 {X : XS} {d u : Nat} {D : Nat → Nat → Int32} {J : Nat → Nat → Int64} (x1 : Int32) (x2 : Int32) (x3 : Int32) : Ev X (d + 1) 322 (0, [.ref 0, .int x1, .int x2, .int x3, .ref 95, .null], [], hS u D J) =
    bI (EvM X d 141 [.ref 0, .int x1, .int x2, .int x3] (hS u D J)) (fun y h => Ev X (d + 1) 322 (7, [.ref 0, .int x1, .int x2, .int x3, .ref 95, .null], [.int y, .int 0, .ref 95], h)) (fun e h => if e = 1 then Ev X (d + 1) 322 (11, [.ref 0, .int x1, .int x2, .int x3, .ref 95, .null], [], h) else if e = 2 then Ev X (d + 1) 322 (14, [.ref 0, .int x1, .int x2, .int x3, .ref 95, .null], [], h) else none) := (sy_at X [0, 7, 11, 14] (d + 1) 322 9 _).trans rfl
theorem e322_7 {X : XS} {d u : Nat} {D : Nat → Nat → Int32} {J : Nat → Nat → Int64} (x1 : Int32) (x2 : Int32) (x3 : Int32) (y0 : Int32) (y1 : Int32) : Ev X d 322 (7, [.ref 0, .int x1, .int x2, .int x3, .ref 95, .null], [.int y0, .int y1, .ref 95], hS u D J) =
    gd (ob y1 1) (some (.inl (some (.int 0)), hS u D (uj J 95 y1.toNatClampNeg (Int32.toInt64 y0)))) := (sy_at X [0, 7, 11, 14] d 322 7 _).trans rfl
theorem e322_11 {X : XS} {d u : Nat} {D : Nat → Nat → Int32} {J : Nat → Nat → Int64} (x1 : Int32) (x2 : Int32) (x3 : Int32) : Ev X d 322 (11, [.ref 0, .int x1, .int x2, .int x3, .ref 95, .null], [], hS u D J) =
    some (.inl (some (.int 1)), hS u D J) := (sy_at X [0, 7, 11, 14] d 322 4 _).trans rfl
theorem e322_14 {X : XS} {d u : Nat} {D : Nat → Nat → Int32} {J : Nat → Nat → Int64} (x1 : Int32) (x2 : Int32) (x3 : Int32) : Ev X d 322 (14, [.ref 0, .int x1, .int x2, .int x3, .ref 95, .null], [], hS u D J) =
    some (.inl (some (.int 2)), hS u D J) := (sy_at X [0, 7, 11, 14] d 322 4 _).trans rfl
theorem e323_0 {X : XS} {d u : Nat} {D : Nat → Nat → Int32} {J : Nat → Nat → Int64} (x1 : Int32) (x2 : Int32) (x3 : Int32) : Ev X (d + 1) 323 (0, [.ref 0, .int x1, .int x2, .int x3, .ref 95, .null], [], hS u D J) =
    bI (EvM X d 143 [.ref 0, .int x1, .int x2, .int x3] (hS u D J)) (fun y h => Ev X (d + 1) 323 (7, [.ref 0, .int x1, .int x2, .int x3, .ref 95, .null], [.int y, .int 0, .ref 95], h)) (fun e h => if e = 1 then Ev X (d + 1) 323 (11, [.ref 0, .int x1, .int x2, .int x3, .ref 95, .null], [], h) else if e = 2 then Ev X (d + 1) 323 (14, [.ref 0, .int x1, .int x2, .int x3, .ref 95, .null], [], h) else none) := (sy_at X [0, 7, 11, 14] (d + 1) 323 9 _).trans rfl
theorem e323_7 {X : XS} {d u : Nat} {D : Nat → Nat → Int32} {J : Nat → Nat → Int64} (x1 : Int32) (x2 : Int32) (x3 : Int32) (y0 : Int32) (y1 : Int32) : Ev X d 323 (7, [.ref 0, .int x1, .int x2, .int x3, .ref 95, .null], [.int y0, .int y1, .ref 95], hS u D J) =
    gd (ob y1 1) (some (.inl (some (.int 0)), hS u D (uj J 95 y1.toNatClampNeg (Int32.toInt64 y0)))) := (sy_at X [0, 7, 11, 14] d 323 7 _).trans rfl
theorem e323_11 {X : XS} {d u : Nat} {D : Nat → Nat → Int32} {J : Nat → Nat → Int64} (x1 : Int32) (x2 : Int32) (x3 : Int32) : Ev X d 323 (11, [.ref 0, .int x1, .int x2, .int x3, .ref 95, .null], [], hS u D J) =
    some (.inl (some (.int 1)), hS u D J) := (sy_at X [0, 7, 11, 14] d 323 4 _).trans rfl
theorem e323_14 {X : XS} {d u : Nat} {D : Nat → Nat → Int32} {J : Nat → Nat → Int64} (x1 : Int32) (x2 : Int32) (x3 : Int32) : Ev X d 323 (14, [.ref 0, .int x1, .int x2, .int x3, .ref 95, .null], [], hS u D J) =
    some (.inl (some (.int 2)), hS u D J) := (sy_at X [0, 7, 11, 14] d 323 4 _).trans rfl
theorem e324_0 {X : XS} {d u : Nat} {D : Nat → Nat → Int32} {J : Nat → Nat → Int64} (x1 : Int32) (x2 : Int32) (x3 : Int32) : Ev X (d + 1) 324 (0, [.ref 0, .int x1, .int x2, .int x3, .ref 95, .null], [], hS u D J) =
    bI (EvM X d 147 [.ref 0, .int x1, .int x2, .int x3] (hS u D J)) (fun y h => Ev X (d + 1) 324 (7, [.ref 0, .int x1, .int x2, .int x3, .ref 95, .null], [.int y, .int 0, .ref 95], h)) (fun e h => if e = 1 then Ev X (d + 1) 324 (11, [.ref 0, .int x1, .int x2, .int x3, .ref 95, .null], [], h) else if e = 2 then Ev X (d + 1) 324 (14, [.ref 0, .int x1, .int x2, .int x3, .ref 95, .null], [], h) else none) := (sy_at X [0, 7, 11, 14] (d + 1) 324 9 _).trans rfl
theorem e324_7 {X : XS} {d u : Nat} {D : Nat → Nat → Int32} {J : Nat → Nat → Int64} (x1 : Int32) (x2 : Int32) (x3 : Int32) (y0 : Int32) (y1 : Int32) : Ev X d 324 (7, [.ref 0, .int x1, .int x2, .int x3, .ref 95, .null], [.int y0, .int y1, .ref 95], hS u D J) =
    gd (ob y1 1) (some (.inl (some (.int 0)), hS u D (uj J 95 y1.toNatClampNeg (Int32.toInt64 y0)))) := (sy_at X [0, 7, 11, 14] d 324 7 _).trans rfl
theorem e324_11 {X : XS} {d u : Nat} {D : Nat → Nat → Int32} {J : Nat → Nat → Int64} (x1 : Int32) (x2 : Int32) (x3 : Int32) : Ev X d 324 (11, [.ref 0, .int x1, .int x2, .int x3, .ref 95, .null], [], hS u D J) =
    some (.inl (some (.int 1)), hS u D J) := (sy_at X [0, 7, 11, 14] d 324 4 _).trans rfl
theorem e324_14 {X : XS} {d u : Nat} {D : Nat → Nat → Int32} {J : Nat → Nat → Int64} (x1 : Int32) (x2 : Int32) (x3 : Int32) : Ev X d 324 (14, [.ref 0, .int x1, .int x2, .int x3, .ref 95, .null], [], hS u D J) =
    some (.inl (some (.int 2)), hS u D J) := (sy_at X [0, 7, 11, 14] d 324 4 _).trans rfl
theorem e325_0 {X : XS} {d u : Nat} {D : Nat → Nat → Int32} {J : Nat → Nat → Int64} (x1 : Int32) (x2 : Int32) : Ev X (d + 1) 325 (0, [.ref 0, .int x1, .int x2, .ref 95, .null], [], hS u D J) =
    bI (EvM X d 151 [.ref 0, .int x1, .int x2] (hS u D J)) (fun y h => Ev X (d + 1) 325 (6, [.ref 0, .int x1, .int x2, .ref 95, .null], [.int y, .int 0, .ref 95], h)) (fun e h => if e = 1 then Ev X (d + 1) 325 (10, [.ref 0, .int x1, .int x2, .ref 95, .null], [], h) else if e = 2 then Ev X (d + 1) 325 (13, [.ref 0, .int x1, .int x2, .ref 95, .null], [], h) else none) := (sy_at X [0, 6, 10, 13] (d + 1) 325 8 _).trans rfl
theorem e325_6 {X : XS} {d u : Nat} {D : Nat → Nat → Int32} {J : Nat → Nat → Int64} (x1 : Int32) (x2 : Int32) (y0 : Int32) (y1 : Int32) : Ev X d 325 (6, [.ref 0, .int x1, .int x2, .ref 95, .null], [.int y0, .int y1, .ref 95], hS u D J) =
    gd (ob y1 1) (some (.inl (some (.int 0)), hS u D (uj J 95 y1.toNatClampNeg (Int32.toInt64 y0)))) := (sy_at X [0, 6, 10, 13] d 325 7 _).trans rfl
theorem e325_10 {X : XS} {d u : Nat} {D : Nat → Nat → Int32} {J : Nat → Nat → Int64} (x1 : Int32) (x2 : Int32) : Ev X d 325 (10, [.ref 0, .int x1, .int x2, .ref 95, .null], [], hS u D J) =
    some (.inl (some (.int 1)), hS u D J) := (sy_at X [0, 6, 10, 13] d 325 4 _).trans rfl
theorem e325_13 {X : XS} {d u : Nat} {D : Nat → Nat → Int32} {J : Nat → Nat → Int64} (x1 : Int32) (x2 : Int32) : Ev X d 325 (13, [.ref 0, .int x1, .int x2, .ref 95, .null], [], hS u D J) =
    some (.inl (some (.int 2)), hS u D J) := (sy_at X [0, 6, 10, 13] d 325 4 _).trans rfl
theorem e326_0 {X : XS} {d u : Nat} {D : Nat → Nat → Int32} {J : Nat → Nat → Int64} (x1 : Int32) (x2 : Int32) (x3 : Int32) : Ev X (d + 1) 326 (0, [.ref 0, .int x1, .int x2, .int x3, .ref 95, .null], [], hS u D J) =
    bI (EvM X d 156 [.ref 0, .int x1, .int x2, .int x3] (hS u D J)) (fun y h => Ev X (d + 1) 326 (7, [.ref 0, .int x1, .int x2, .int x3, .ref 95, .null], [.int y, .int 0, .ref 95], h)) (fun e h => if e = 1 then Ev X (d + 1) 326 (11, [.ref 0, .int x1, .int x2, .int x3, .ref 95, .null], [], h) else if e = 2 then Ev X (d + 1) 326 (14, [.ref 0, .int x1, .int x2, .int x3, .ref 95, .null], [], h) else none) := (sy_at X [0, 7, 11, 14] (d + 1) 326 9 _).trans rfl
theorem e326_7 {X : XS} {d u : Nat} {D : Nat → Nat → Int32} {J : Nat → Nat → Int64} (x1 : Int32) (x2 : Int32) (x3 : Int32) (y0 : Int32) (y1 : Int32) : Ev X d 326 (7, [.ref 0, .int x1, .int x2, .int x3, .ref 95, .null], [.int y0, .int y1, .ref 95], hS u D J) =
    gd (ob y1 1) (some (.inl (some (.int 0)), hS u D (uj J 95 y1.toNatClampNeg (Int32.toInt64 y0)))) := (sy_at X [0, 7, 11, 14] d 326 7 _).trans rfl
theorem e326_11 {X : XS} {d u : Nat} {D : Nat → Nat → Int32} {J : Nat → Nat → Int64} (x1 : Int32) (x2 : Int32) (x3 : Int32) : Ev X d 326 (11, [.ref 0, .int x1, .int x2, .int x3, .ref 95, .null], [], hS u D J) =
    some (.inl (some (.int 1)), hS u D J) := (sy_at X [0, 7, 11, 14] d 326 4 _).trans rfl
theorem e326_14 {X : XS} {d u : Nat} {D : Nat → Nat → Int32} {J : Nat → Nat → Int64} (x1 : Int32) (x2 : Int32) (x3 : Int32) : Ev X d 326 (14, [.ref 0, .int x1, .int x2, .int x3, .ref 95, .null], [], hS u D J) =
    some (.inl (some (.int 2)), hS u D J) := (sy_at X [0, 7, 11, 14] d 326 4 _).trans rfl
theorem e327_0 {X : XS} {d u : Nat} {D : Nat → Nat → Int32} {J : Nat → Nat → Int64} (x1 : Int32) (x2 : Int32) (x3 : Int32) : Ev X (d + 1) 327 (0, [.ref 0, .int x1, .int x2, .int x3, .ref 95, .null], [], hS u D J) =
    bI (EvM X d 157 [.ref 0, .int x1, .int x2, .int x3] (hS u D J)) (fun y h => Ev X (d + 1) 327 (7, [.ref 0, .int x1, .int x2, .int x3, .ref 95, .null], [.int y, .int 0, .ref 95], h)) (fun e h => if e = 1 then Ev X (d + 1) 327 (11, [.ref 0, .int x1, .int x2, .int x3, .ref 95, .null], [], h) else if e = 2 then Ev X (d + 1) 327 (14, [.ref 0, .int x1, .int x2, .int x3, .ref 95, .null], [], h) else none) := (sy_at X [0, 7, 11, 14] (d + 1) 327 9 _).trans rfl
theorem e327_7 {X : XS} {d u : Nat} {D : Nat → Nat → Int32} {J : Nat → Nat → Int64} (x1 : Int32) (x2 : Int32) (x3 : Int32) (y0 : Int32) (y1 : Int32) : Ev X d 327 (7, [.ref 0, .int x1, .int x2, .int x3, .ref 95, .null], [.int y0, .int y1, .ref 95], hS u D J) =
    gd (ob y1 1) (some (.inl (some (.int 0)), hS u D (uj J 95 y1.toNatClampNeg (Int32.toInt64 y0)))) := (sy_at X [0, 7, 11, 14] d 327 7 _).trans rfl
theorem e327_11 {X : XS} {d u : Nat} {D : Nat → Nat → Int32} {J : Nat → Nat → Int64} (x1 : Int32) (x2 : Int32) (x3 : Int32) : Ev X d 327 (11, [.ref 0, .int x1, .int x2, .int x3, .ref 95, .null], [], hS u D J) =
    some (.inl (some (.int 1)), hS u D J) := (sy_at X [0, 7, 11, 14] d 327 4 _).trans rfl
theorem e327_14 {X : XS} {d u : Nat} {D : Nat → Nat → Int32} {J : Nat → Nat → Int64} (x1 : Int32) (x2 : Int32) (x3 : Int32) : Ev X d 327 (14, [.ref 0, .int x1, .int x2, .int x3, .ref 95, .null], [], hS u D J) =
    some (.inl (some (.int 2)), hS u D J) := (sy_at X [0, 7, 11, 14] d 327 4 _).trans rfl
theorem e328_0 {X : XS} {d u : Nat} {D : Nat → Nat → Int32} {J : Nat → Nat → Int64} (x1 : Int32) (x2 : Int32) : Ev X (d + 1) 328 (0, [.ref 0, .int x1, .int x2, .ref 95, .null], [], hS u D J) =
    bI (EvM X d 158 [.ref 0, .int x1, .int x2] (hS u D J)) (fun y h => Ev X (d + 1) 328 (6, [.ref 0, .int x1, .int x2, .ref 95, .null], [.int y, .int 0, .ref 95], h)) (fun e h => if e = 1 then Ev X (d + 1) 328 (10, [.ref 0, .int x1, .int x2, .ref 95, .null], [], h) else if e = 2 then Ev X (d + 1) 328 (13, [.ref 0, .int x1, .int x2, .ref 95, .null], [], h) else none) := (sy_at X [0, 6, 10, 13] (d + 1) 328 8 _).trans rfl
theorem e328_6 {X : XS} {d u : Nat} {D : Nat → Nat → Int32} {J : Nat → Nat → Int64} (x1 : Int32) (x2 : Int32) (y0 : Int32) (y1 : Int32) : Ev X d 328 (6, [.ref 0, .int x1, .int x2, .ref 95, .null], [.int y0, .int y1, .ref 95], hS u D J) =
    gd (ob y1 1) (some (.inl (some (.int 0)), hS u D (uj J 95 y1.toNatClampNeg (Int32.toInt64 y0)))) := (sy_at X [0, 6, 10, 13] d 328 7 _).trans rfl
theorem e328_10 {X : XS} {d u : Nat} {D : Nat → Nat → Int32} {J : Nat → Nat → Int64} (x1 : Int32) (x2 : Int32) : Ev X d 328 (10, [.ref 0, .int x1, .int x2, .ref 95, .null], [], hS u D J) =
    some (.inl (some (.int 1)), hS u D J) := (sy_at X [0, 6, 10, 13] d 328 4 _).trans rfl
theorem e328_13 {X : XS} {d u : Nat} {D : Nat → Nat → Int32} {J : Nat → Nat → Int64} (x1 : Int32) (x2 : Int32) : Ev X d 328 (13, [.ref 0, .int x1, .int x2, .ref 95, .null], [], hS u D J) =
    some (.inl (some (.int 2)), hS u D J) := (sy_at X [0, 6, 10, 13] d 328 4 _).trans rfl
theorem e329_0 {X : XS} {d u : Nat} {D : Nat → Nat → Int32} {J : Nat → Nat → Int64} (x1 : Int32) (x2 : Int32) (x3 : Int32) : Ev X (d + 1) 329 (0, [.ref 0, .int x1, .int x2, .int x3, .ref 95, .null], [], hS u D J) =
    bI (EvM X d 159 [.ref 0, .int x1, .int x2, .int x3] (hS u D J)) (fun y h => Ev X (d + 1) 329 (7, [.ref 0, .int x1, .int x2, .int x3, .ref 95, .null], [.int y, .int 0, .ref 95], h)) (fun e h => if e = 1 then Ev X (d + 1) 329 (11, [.ref 0, .int x1, .int x2, .int x3, .ref 95, .null], [], h) else if e = 2 then Ev X (d + 1) 329 (14, [.ref 0, .int x1, .int x2, .int x3, .ref 95, .null], [], h) else none) := (sy_at X [0, 7, 11, 14] (d + 1) 329 9 _).trans rfl
theorem e329_7 {X : XS} {d u : Nat} {D : Nat → Nat → Int32} {J : Nat → Nat → Int64} (x1 : Int32) (x2 : Int32) (x3 : Int32) (y0 : Int32) (y1 : Int32) : Ev X d 329 (7, [.ref 0, .int x1, .int x2, .int x3, .ref 95, .null], [.int y0, .int y1, .ref 95], hS u D J) =
    gd (ob y1 1) (some (.inl (some (.int 0)), hS u D (uj J 95 y1.toNatClampNeg (Int32.toInt64 y0)))) := (sy_at X [0, 7, 11, 14] d 329 7 _).trans rfl
theorem e329_11 {X : XS} {d u : Nat} {D : Nat → Nat → Int32} {J : Nat → Nat → Int64} (x1 : Int32) (x2 : Int32) (x3 : Int32) : Ev X d 329 (11, [.ref 0, .int x1, .int x2, .int x3, .ref 95, .null], [], hS u D J) =
    some (.inl (some (.int 1)), hS u D J) := (sy_at X [0, 7, 11, 14] d 329 4 _).trans rfl
theorem e329_14 {X : XS} {d u : Nat} {D : Nat → Nat → Int32} {J : Nat → Nat → Int64} (x1 : Int32) (x2 : Int32) (x3 : Int32) : Ev X d 329 (14, [.ref 0, .int x1, .int x2, .int x3, .ref 95, .null], [], hS u D J) =
    some (.inl (some (.int 2)), hS u D J) := (sy_at X [0, 7, 11, 14] d 329 4 _).trans rfl
