/-! ===== printed by wip/gen/eqparts.py: equations of the Pews ===== -/
theorem e34_0 {X : XS} {d u : Nat} {D : Nat → Nat → Int32} {J : Nat → Nat → Int64} {P : Nat} (hP : isP P) : Ev X (d + 1) 34 (0, [.ref P], [], hS u D J) =
    bV (EvM X d 332 [.ref (P + 1), .int 0] (hS u D J)) (fun h => Ev X (d + 1) 34 (4, [.ref P], [], h)) (fun e h => some (.inr e, h)) := by
  rcases hP with rfl | rfl | rfl <;> exact (sy_at X [0, 4, 6] (d + 1) 34 6 _).trans rfl
theorem e34_4 {X : XS} {d u : Nat} {D : Nat → Nat → Int32} {J : Nat → Nat → Int64} {P : Nat} (hP : isP P) : Ev X (d + 1) 34 (4, [.ref P], [], hS u D J) =
    bV (EvM X d 35 [.ref P] (hS u D J)) (fun h => Ev X (d + 1) 34 (6, [.ref P], [], h)) (fun e h => some (.inr e, h)) := by
  rcases hP with rfl | rfl | rfl <;> exact (sy_at X [0, 4, 6] (d + 1) 34 4 _).trans rfl
set_option maxRecDepth 20000 in
theorem e34_6 {X : XS} {d u : Nat} {D : Nat → Nat → Int32} {J : Nat → Nat → Int64} {P : Nat} (hP : isP P) : Ev X d 34 (6, [.ref P], [], hS u D J) =
    gd (decide (¬ (0 : Int32) < 0) && decide (¬ (12 : Int32) < 0) && decide (¬ (D 3 0) < 0) && Nat.ble (0 + (D 3 0).toNatClampNeg) 12 && Nat.ble (12 + (D 3 0).toNatClampNeg) 73) (some (.inl none, hS u (ucp D 4 0 (P + 1) 12 (D 3 0).toNatClampNeg) J)) := by
  rcases hP with rfl | rfl | rfl <;> exact (sy_at X [0, 4, 6] d 34 14 _).trans rfl
theorem e35_0 {X : XS} {d u : Nat} {D : Nat → Nat → Int32} {J : Nat → Nat → Int64} {P : Nat} (hP : isP P) : Ev X d 35 (0, [.ref P, .null], [], hS u D J) =
    Ev X d 35 (2, [.ref P, .int 0], [], hS u D J) := by
  rcases hP with rfl | rfl | rfl <;> exact (sy_at X [0, 2, 25] d 35 4 _).trans rfl
theorem f35_2 {X : XS} {d u : Nat} {D : Nat → Nat → Int32} {J : Nat → Nat → Int64} {P : Nat} (hP : isP P) (x1 : Int32) : Ev X (d + 1) 35 (2, [.ref P, .int x1], [], hS u D J) =
    br (decide (12 ≤ x1)) (bV (EvM X d 332 [.ref (P + 3), .int 0] (hS u D J)) (fun h => Ev X (d + 1) 35 (25, [.ref P, .int x1], [], h)) (fun e h => some (.inr e, h))) (gd (ob (0 + x1) 73) (Ev X (d + 1) 35 (12, [.ref P, .int x1], [], hS u (ud D (P + 1) (0 + x1).toNatClampNeg (-1)) J))) := by
  rcases hP with rfl | rfl | rfl <;> exact (sy_at X [0, 2, 12, 19, 25] (d + 1) 35 12 _).trans rfl
theorem f35_12 {X : XS} {d u : Nat} {D : Nat → Nat → Int32} {J : Nat → Nat → Int64} {P : Nat} (hP : isP P) (x1 : Int32) : Ev X d 35 (12, [.ref P, .int x1], [], hS u D J) =
    gd (ob (24 + x1) 73) (Ev X d 35 (19, [.ref P, .int x1], [], hS u (ud D (P + 1) (24 + x1).toNatClampNeg 0) J)) := by
  rcases hP with rfl | rfl | rfl <;> exact (sy_at X [0, 2, 12, 19, 25] d 35 9 _).trans rfl
theorem f35_19 {X : XS} {d u : Nat} {D : Nat → Nat → Int32} {J : Nat → Nat → Int64} {P : Nat} (hP : isP P) (x1 : Int32) : Ev X d 35 (19, [.ref P, .int x1], [], hS u D J) =
    Ev X d 35 (2, [.ref P, .int (x1 + 1)], [], hS u D J) := by
  rcases hP with rfl | rfl | rfl <;> exact (sy_at X [0, 2, 12, 19, 25] d 35 4 _).trans rfl
set_option maxRecDepth 20000 in
theorem e35_2 {X : XS} {d u : Nat} {D : Nat → Nat → Int32} {J : Nat → Nat → Int64} {P : Nat} (hP : isP P) (x1 : Int32) : Ev X (d + 1) 35 (2, [.ref P, .int x1], [], hS u D J) =
    br (decide (12 ≤ x1)) (bV (EvM X d 332 [.ref (P + 3), .int 0] (hS u D J)) (fun h => Ev X (d + 1) 35 (25, [.ref P, .int x1], [], h)) (fun e h => some (.inr e, h))) (gd (ob (0 + x1) 73) (gd (ob (24 + x1) 73) (Ev X (d + 1) 35 (2, [.ref P, .int (x1 + 1)], [], hS u (ud (ud D (P + 1) (0 + x1).toNatClampNeg (-1)) (P + 1) (24 + x1).toNatClampNeg 0) J)))) := by
  refine (f35_2 hP _).trans ?_
  simp only [f35_12 hP, f35_19 hP]
theorem e35_25 {X : XS} {d u : Nat} {D : Nat → Nat → Int32} {J : Nat → Nat → Int64} {P : Nat} (hP : isP P) (x1 : Int32) : Ev X d 35 (25, [.ref P, .int x1], [], hS u D J) =
    some (.inl none, hS u D J) := by
  rcases hP with rfl | rfl | rfl <;> exact (sy_at X [0, 2, 25] d 35 3 _).trans rfl
set_option maxRecDepth 20000 in
theorem e36_0 {X : XS} {d u : Nat} {D : Nat → Nat → Int32} {J : Nat → Nat → Int64} {P : Nat} (hP : isP P) : Ev X d 36 (0, [.ref P, .ref 25], [], hS u D J) =
    some (.inl none, hS u (ucp (ucp (ucp D 26 0 (P + 1) 0 73) 27 0 (P + 2) 0 144) 28 0 (P + 3) 0 12) J) := by
  rcases hP with rfl | rfl | rfl <;> exact (sy_at X [0] d 36 27 _).trans rfl
theorem e37_0 {X : XS} {d u : Nat} {D : Nat → Nat → Int32} {J : Nat → Nat → Int64} {P : Nat} (hP : isP P) : Ev X (d + 1) 37 (0, [.ref P, .null, .null], [], hS u D J) =
    bV (EvM X d 332 [.ref (P + 3), .int 0] (hS u D J)) (fun h => Ev X (d + 1) 37 (4, [.ref P, .null, .null], [], h)) (fun e h => some (.inr e, h)) := by
  rcases hP with rfl | rfl | rfl <;> exact (sy_at X [0, 4, 6] (d + 1) 37 6 _).trans rfl
theorem e37_4 {X : XS} {d u : Nat} {D : Nat → Nat → Int32} {J : Nat → Nat → Int64} {P : Nat} (hP : isP P) : Ev X d 37 (4, [.ref P, .null, .null], [], hS u D J) =
    Ev X d 37 (6, [.ref P, .int 0, .null], [], hS u D J) := by
  rcases hP with rfl | rfl | rfl <;> exact (sy_at X [0, 4, 6] d 37 4 _).trans rfl
set_option maxRecDepth 20000 in
theorem f37_6 {X : XS} {d u : Nat} {D : Nat → Nat → Int32} {J : Nat → Nat → Int64} {P : Nat} (hP : isP P) (x1 : Int32) : Ev X d 37 (6, [.ref P, .int x1, .null], [], hS u D J) =
    br (decide ((D 3 0) ≤ x1)) (some (.inl none, hS u D J)) (gd (ob (0 + x1) 73) (Ev X d 37 (17, [.ref P, .int x1, .null], [.int (D (P + 1) (0 + x1).toNatClampNeg)], hS u D J))) := by
  rcases hP with rfl | rfl | rfl <;> exact (sy_at X [0, 4, 6, 17, 26, 31, 33, 36] d 37 13 _).trans rfl
theorem f37_17 {X : XS} {d u : Nat} {D : Nat → Nat → Int32} {J : Nat → Nat → Int64} {P : Nat} (hP : isP P) (x1 : Int32) (y0 : Int32) : Ev X d 37 (17, [.ref P, .int x1, .null], [.int y0], hS u D J) =
    br (decide (y0 = (-1))) (Ev X d 37 (36, [.ref P, .int x1, .int y0], [], hS u D J)) (gd (ob y0 144) (Ev X d 37 (26, [.ref P, .int x1, .int y0], [], hS u (ud D (P + 2) y0.toNatClampNeg x1) J))) := by
  rcases hP with rfl | rfl | rfl <;> exact (sy_at X [0, 4, 6, 17, 26, 31, 33, 36] d 37 11 _).trans rfl
theorem f37_26 {X : XS} {d u : Nat} {D : Nat → Nat → Int32} {J : Nat → Nat → Int64} {P : Nat} (hP : isP P) (x1 : Int32) (x2 : Int32) : Ev X d 37 (26, [.ref P, .int x1, .int x2], [], hS u D J) =
    Ev X d 37 (31, [.ref P, .int x1, .int x2], [.int (x2 / 12), .ref (P + 3)], hS u D J) := by
  rcases hP with rfl | rfl | rfl <;> exact (sy_at X [0, 4, 6, 17, 26, 31, 33, 36] d 37 7 _).trans rfl
theorem f37_31 {X : XS} {d u : Nat} {D : Nat → Nat → Int32} {J : Nat → Nat → Int64} {P : Nat} (hP : isP P) (x1 : Int32) (x2 : Int32) (y0 : Int32) : Ev X d 37 (31, [.ref P, .int x1, .int x2], [.int y0, .ref (P + 3)], hS u D J) =
    gd (ob y0 12) (Ev X d 37 (33, [.ref P, .int x1, .int x2], [.int (D (P + 3) y0.toNatClampNeg), .int y0, .ref (P + 3)], hS u D J)) := by
  rcases hP with rfl | rfl | rfl <;> exact (sy_at X [0, 4, 6, 17, 26, 31, 33, 36] d 37 4 _).trans rfl
theorem f37_33 {X : XS} {d u : Nat} {D : Nat → Nat → Int32} {J : Nat → Nat → Int64} {P : Nat} (hP : isP P) (x1 : Int32) (x2 : Int32) (y0 : Int32) (y1 : Int32) : Ev X d 37 (33, [.ref P, .int x1, .int x2], [.int y0, .int y1, .ref (P + 3)], hS u D J) =
    gd (ob y1 12) (Ev X d 37 (36, [.ref P, .int x1, .int x2], [], hS u (ud D (P + 3) y1.toNatClampNeg (y0 + 1)) J)) := by
  rcases hP with rfl | rfl | rfl <;> exact (sy_at X [0, 4, 6, 17, 26, 31, 33, 36] d 37 5 _).trans rfl
theorem f37_36 {X : XS} {d u : Nat} {D : Nat → Nat → Int32} {J : Nat → Nat → Int64} {P : Nat} (hP : isP P) (x1 : Int32) (x2 : Int32) : Ev X d 37 (36, [.ref P, .int x1, .int x2], [], hS u D J) =
    Ev X d 37 (6, [.ref P, .int (x1 + 1), .int x2], [], hS u D J) := by
  rcases hP with rfl | rfl | rfl <;> exact (sy_at X [0, 4, 6, 17, 26, 31, 33, 36] d 37 4 _).trans rfl
set_option maxRecDepth 20000 in
theorem e37_6 {X : XS} {d u : Nat} {D : Nat → Nat → Int32} {J : Nat → Nat → Int64} {P : Nat} (hP : isP P) (x1 : Int32) : Ev X d 37 (6, [.ref P, .int x1, .null], [], hS u D J) =
    br (decide ((D 3 0) ≤ x1)) (some (.inl none, hS u D J)) (gd (ob (0 + x1) 73) (br (decide ((D (P + 1) (0 + x1).toNatClampNeg) = (-1))) (Ev X d 37 (6, [.ref P, .int (x1 + 1), .int (D (P + 1) (0 + x1).toNatClampNeg)], [], hS u D J)) (gd (ob (D (P + 1) (0 + x1).toNatClampNeg) 144) (gd (ob ((D (P + 1) (0 + x1).toNatClampNeg) / 12) 12) (gd (ob ((D (P + 1) (0 + x1).toNatClampNeg) / 12) 12) (Ev X d 37 (6, [.ref P, .int (x1 + 1), .int (D (P + 1) (0 + x1).toNatClampNeg)], [], hS u (ud (ud D (P + 2) (D (P + 1) (0 + x1).toNatClampNeg).toNatClampNeg x1) (P + 3) ((D (P + 1) (0 + x1).toNatClampNeg) / 12).toNatClampNeg (((ud D (P + 2) (D (P + 1) (0 + x1).toNatClampNeg).toNatClampNeg x1) (P + 3) ((D (P + 1) (0 + x1).toNatClampNeg) / 12).toNatClampNeg) + 1)) J))))))) := by
  refine (f37_6 hP _).trans ?_
  simp only [f37_17 hP, f37_26 hP, f37_31 hP, f37_33 hP, f37_36 hP]
theorem e38_0 {X : XS} {d u : Nat} {D : Nat → Nat → Int32} {J : Nat → Nat → Int64} {P : Nat} (hP : isP P) (x1 : Int32) (x2 : Int32) : Ev X d 38 (0, [.ref P, .int x1, .int x2], [], hS u D J) =
    some (.inl none, hS u (ud (ud (ud D P 7 x1) P 8 x2) P 6 0) J) := by
  rcases hP with rfl | rfl | rfl <;> exact (sy_at X [0] d 38 12 _).trans rfl
theorem f39_0 {X : XS} {d u : Nat} {D : Nat → Nat → Int32} {J : Nat → Nat → Int64} {P : Nat} (hP : isP P) (x1 : Int32) (x2 : Int32) : Ev X d 39 (0, [.ref P, .int x1, .int x2], [], hS u D J) =
    gd (ob (0 + x1) 73) (Ev X d 39 (7, [.ref P, .int x1, .int x2], [], hS u (ud D (P + 1) (0 + x1).toNatClampNeg x2) J)) := by
  rcases hP with rfl | rfl | rfl <;> exact (sy_at X [0, 7, 12] d 39 9 _).trans rfl
theorem f39_7 {X : XS} {d u : Nat} {D : Nat → Nat → Int32} {J : Nat → Nat → Int64} {P : Nat} (hP : isP P) (x1 : Int32) (x2 : Int32) : Ev X d 39 (7, [.ref P, .int x1, .int x2], [], hS u D J) =
    gd (ob x2 144) (Ev X d 39 (12, [.ref P, .int x1, .int x2], [], hS u (ud D (P + 2) x2.toNatClampNeg x1) J)) := by
  rcases hP with rfl | rfl | rfl <;> exact (sy_at X [0, 7, 12] d 39 7 _).trans rfl
theorem f39_12 {X : XS} {d u : Nat} {D : Nat → Nat → Int32} {J : Nat → Nat → Int64} {P : Nat} (hP : isP P) (x1 : Int32) (x2 : Int32) : Ev X d 39 (12, [.ref P, .int x1, .int x2], [], hS u D J) =
    some (.inl none, hS u D J) := by
  rcases hP with rfl | rfl | rfl <;> exact (sy_at X [0, 7, 12] d 39 3 _).trans rfl
set_option maxRecDepth 20000 in
theorem e39_0 {X : XS} {d u : Nat} {D : Nat → Nat → Int32} {J : Nat → Nat → Int64} {P : Nat} (hP : isP P) (x1 : Int32) (x2 : Int32) : Ev X d 39 (0, [.ref P, .int x1, .int x2], [], hS u D J) =
    gd (ob (0 + x1) 73) (gd (ob x2 144) (some (.inl none, hS u (ud (ud D (P + 1) (0 + x1).toNatClampNeg x2) (P + 2) x2.toNatClampNeg x1) J))) := by
  refine (f39_0 hP _ _).trans ?_
  simp only [f39_7 hP, f39_12 hP]
theorem e40_0 {X : XS} {d u : Nat} {D : Nat → Nat → Int32} {J : Nat → Nat → Int64} {P : Nat} (hP : isP P) (x1 : Int32) : Ev X d 40 (0, [.ref P, .int x1, .null, .null, .null, .null], [], hS u D J) =
    Ev X d 40 (7, [.ref P, .int x1, .int x1, .int 0, .null, .null], [], hS u (ud D P 5 0) J) := by
  rcases hP with rfl | rfl | rfl <;> exact (sy_at X [0, 7, 19, 32, 36, 58] d 40 9 _).trans rfl
set_option maxRecDepth 20000 in
theorem e40_7 {X : XS} {d u : Nat} {D : Nat → Nat → Int32} {J : Nat → Nat → Int64} {P : Nat} (hP : isP P) (x1 : Int32) (x2 : Int32) (x3 : Int32) : Ev X (d + 1) 40 (7, [.ref P, .int x1, .int x2, .int x3, .null, .null], [], hS u D J) =
    br (decide (12 ≤ x3)) (some (.inl (some (.int (-1))), hS u D J)) (gd (ob (12 + x2) 73) (bI (EvM X d 41 [.ref P, .int x3, .int (D (P + 1) (12 + x2).toNatClampNeg)] (hS u D J)) (fun y h => Ev X (d + 1) 40 (19, [.ref P, .int x1, .int x2, .int x3, .null, .null], [.int y], h)) (fun e h => some (.inr e, h)))) := by
  rcases hP with rfl | rfl | rfl <;> exact (sy_at X [0, 7, 19, 32, 36, 58] (d + 1) 40 14 _).trans rfl
set_option maxRecDepth 20000 in
theorem e40_19 {X : XS} {d u : Nat} {D : Nat → Nat → Int32} {J : Nat → Nat → Int64} {P : Nat} (hP : isP P) (x1 : Int32) (x2 : Int32) (x3 : Int32) (y0 : Int32) : Ev X (d + 1) 40 (19, [.ref P, .int x1, .int x2, .int x3, .null, .null], [.int y0], hS u D J) =
    br (decide (y0 = (-1))) (gd (ob x3 12) (br (decide ((D 3 1) ≤ (D (P + 3) x3.toNatClampNeg))) (Ev X (d + 1) 40 (7, [.ref P, .int x1, .int x2, .int (x3 + 1), .int y0, .null], [], hS u D J)) (gd (ob x3 12) (bV (EvM X d 39 [.ref P, .int x2, .int ((x3 * 12) + (D (P + 3) x3.toNatClampNeg))] (hS u D J)) (fun h => Ev X (d + 1) 40 (58, [.ref P, .int x1, .int x2, .int x3, .int y0, .null], [], h)) (fun e h => some (.inr e, h)))))) (gd (ob y0 144) (bV (EvM X d 39 [.ref P, .int x2, .int y0] (hS u D J)) (fun h => Ev X (d + 1) 40 (32, [.ref P, .int x1, .int x2, .int x3, .int y0, .int (D (P + 2) y0.toNatClampNeg)], [], h)) (fun e h => some (.inr e, h)))) := by
  rcases hP with rfl | rfl | rfl <;> exact (sy_at X [0, 7, 19, 32, 36, 58] (d + 1) 40 25 _).trans rfl
theorem e40_32 {X : XS} {d u : Nat} {D : Nat → Nat → Int32} {J : Nat → Nat → Int64} {P : Nat} (hP : isP P) (x1 : Int32) (x2 : Int32) (x3 : Int32) (x4 : Int32) (x5 : Int32) : Ev X (d + 1) 40 (32, [.ref P, .int x1, .int x2, .int x3, .int x4, .int x5], [], hS u D J) =
    bV (EvM X d 42 [.ref P, .int x5, .int x2] (hS u D J)) (fun h => Ev X (d + 1) 40 (36, [.ref P, .int x1, .int x2, .int x3, .int x4, .int x5], [], h)) (fun e h => some (.inr e, h)) := by
  rcases hP with rfl | rfl | rfl <;> exact (sy_at X [0, 7, 19, 32, 36, 58] (d + 1) 40 6 _).trans rfl
theorem e40_36 {X : XS} {d u : Nat} {D : Nat → Nat → Int32} {J : Nat → Nat → Int64} {P : Nat} (hP : isP P) (x1 : Int32) (x2 : Int32) (x3 : Int32) (x4 : Int32) (x5 : Int32) : Ev X d 40 (36, [.ref P, .int x1, .int x2, .int x3, .int x4, .int x5], [], hS u D J) =
    Ev X d 40 (7, [.ref P, .int x1, .int x5, .int (x3 + 1), .int x4, .int x5], [], hS u D J) := by
  rcases hP with rfl | rfl | rfl <;> exact (sy_at X [0, 7, 19, 32, 36, 58] d 40 7 _).trans rfl
theorem e40_58 {X : XS} {d u : Nat} {D : Nat → Nat → Int32} {J : Nat → Nat → Int64} {P : Nat} (hP : isP P) (x1 : Int32) (x2 : Int32) (x3 : Int32) (x4 : Int32) : Ev X d 40 (58, [.ref P, .int x1, .int x2, .int x3, .int x4, .null], [], hS u D J) =
    gd (ob x3 12) (gd (ob x3 12) (some (.inl (some (.int x3)), hS u (ud D (P + 3) x3.toNatClampNeg ((D (P + 3) x3.toNatClampNeg) + 1)) J))) := by
  rcases hP with rfl | rfl | rfl <;> exact (sy_at X [0, 7, 19, 32, 36, 58] d 40 12 _).trans rfl
set_option maxRecDepth 20000 in
theorem e41_0 {X : XS} {d u : Nat} {D : Nat → Nat → Int32} {J : Nat → Nat → Int64} {P : Nat} (hP : isP P) (x1 : Int32) (x2 : Int32) : Ev X (d + 1) 41 (0, [.ref P, .int x1, .int x2, .null, .null, .null, .null], [], hS u D J) =
    gd (ob x1 12) (bI (EvM X d 86 [.ref 3, .int 2] (hS u D J)) (fun y h => Ev X (d + 1) 41 (13, [.ref P, .int x1, .int x2, .int ((x1 * 12) + (D (P + 3) x1.toNatClampNeg)), .null, .null, .null], [.int y], h)) (fun e h => some (.inr e, h))) := by
  rcases hP with rfl | rfl | rfl <;> exact (sy_at X [0, 13, 18, 22, 38, 44] (d + 1) 41 15 _).trans rfl
theorem e41_13 {X : XS} {d u : Nat} {D : Nat → Nat → Int32} {J : Nat → Nat → Int64} {P : Nat} (hP : isP P) (x1 : Int32) (x2 : Int32) (x3 : Int32) (y0 : Int32) : Ev X (d + 1) 41 (13, [.ref P, .int x1, .int x2, .int x3, .null, .null, .null], [.int y0], hS u D J) =
    bV (EvM X d 92 [.ref 3, .int x2] (hS u D J)) (fun h => Ev X (d + 1) 41 (18, [.ref P, .int x1, .int x2, .int x3, .int y0, .null, .null], [], h)) (fun e h => some (.inr e, h)) := by
  rcases hP with rfl | rfl | rfl <;> exact (sy_at X [0, 13, 18, 22, 38, 44] (d + 1) 41 7 _).trans rfl
theorem e41_18 {X : XS} {d u : Nat} {D : Nat → Nat → Int32} {J : Nat → Nat → Int64} {P : Nat} (hP : isP P) (x1 : Int32) (x2 : Int32) (x3 : Int32) (x4 : Int32) : Ev X d 41 (18, [.ref P, .int x1, .int x2, .int x3, .int x4, .null, .null], [], hS u D J) =
    Ev X d 41 (22, [.ref P, .int x1, .int x2, .int x3, .int x4, .int (x1 * 12), .null], [], hS u D J) := by
  rcases hP with rfl | rfl | rfl <;> exact (sy_at X [0, 13, 18, 22, 38, 44] d 41 6 _).trans rfl
set_option maxRecDepth 20000 in
theorem e41_22 {X : XS} {d u : Nat} {D : Nat → Nat → Int32} {J : Nat → Nat → Int64} {P : Nat} (hP : isP P) (x1 : Int32) (x2 : Int32) (x3 : Int32) (x4 : Int32) (x5 : Int32) : Ev X (d + 1) 41 (22, [.ref P, .int x1, .int x2, .int x3, .int x4, .int x5, .null], [], hS u D J) =
    br (decide (x3 ≤ x5)) (some (.inl (some (.int (-1))), hS u D J)) (gd (ob x5 144) (br (decide (x4 = 0)) (Ev X (d + 1) 41 (38, [.ref P, .int x1, .int x2, .int x3, .int x4, .int x5, .int (D (P + 2) x5.toNatClampNeg)], [], hS u D J)) (bV (EvM X d 91 [.ref 3, .ref (P + 1), .int (D (P + 2) x5.toNatClampNeg)] (hS u D J)) (fun h => Ev X (d + 1) 41 (38, [.ref P, .int x1, .int x2, .int x3, .int x4, .int x5, .int (D (P + 2) x5.toNatClampNeg)], [], h)) (fun e h => some (.inr e, h))))) := by
  rcases hP with rfl | rfl | rfl <;> exact (sy_at X [0, 13, 18, 22, 38, 44] (d + 1) 41 18 _).trans rfl
set_option maxRecDepth 20000 in
theorem e41_38 {X : XS} {d u : Nat} {D : Nat → Nat → Int32} {J : Nat → Nat → Int64} {P : Nat} (hP : isP P) (x1 : Int32) (x2 : Int32) (x3 : Int32) (x4 : Int32) (x5 : Int32) (x6 : Int32) : Ev X (d + 1) 41 (38, [.ref P, .int x1, .int x2, .int x3, .int x4, .int x5, .int x6], [], hS u D J) =
    br (decide (x4 = 0)) (gd (ob (12 + x6) 73) (br (decide ((D (P + 1) (12 + x6).toNatClampNeg) ≤ x2)) (Ev X (d + 1) 41 (22, [.ref P, .int x1, .int x2, .int x3, .int x4, .int (x5 + 1), .int x6], [], hS u D J)) (some (.inl (some (.int x5)), hS u D J)))) (bI (EvM X d 93 [.ref 3, .int 2] (hS u D J)) (fun y h => Ev X (d + 1) 41 (44, [.ref P, .int x1, .int x2, .int x3, .int x4, .int x5, .int x6], [.int y], h)) (fun e h => some (.inr e, h))) := by
  rcases hP with rfl | rfl | rfl <;> exact (sy_at X [0, 13, 18, 22, 38, 44] (d + 1) 41 14 _).trans rfl
theorem e41_44 {X : XS} {d u : Nat} {D : Nat → Nat → Int32} {J : Nat → Nat → Int64} {P : Nat} (hP : isP P) (x1 : Int32) (x2 : Int32) (x3 : Int32) (x4 : Int32) (x5 : Int32) (x6 : Int32) (y0 : Int32) : Ev X d 41 (44, [.ref P, .int x1, .int x2, .int x3, .int x4, .int x5, .int x6], [.int y0], hS u D J) =
    br (decide (y0 ≤ 0)) (Ev X d 41 (22, [.ref P, .int x1, .int x2, .int x3, .int x4, .int (x5 + 1), .int x6], [], hS u D J)) (some (.inl (some (.int x5)), hS u D J)) := by
  rcases hP with rfl | rfl | rfl <;> exact (sy_at X [0, 13, 18, 22, 38, 44] d 41 6 _).trans rfl
theorem e42_0 {X : XS} {d u : Nat} {D : Nat → Nat → Int32} {J : Nat → Nat → Int64} {P : Nat} (hP : isP P) (x1 : Int32) (x2 : Int32) : Ev X d 42 (0, [.ref P, .int x1, .int x2], [], hS u D J) =
    gd (ob (0 + x1) 73) (Ev X d 42 (7, [.ref P, .int x1, .int x2], [], hS u (ud D (P + 1) (0 + x1).toNatClampNeg (-1)) J)) := by
  rcases hP with rfl | rfl | rfl <;> exact (sy_at X [0, 7, 17, 27, 35, 49] d 42 9 _).trans rfl
theorem e42_7 {X : XS} {d u : Nat} {D : Nat → Nat → Int32} {J : Nat → Nat → Int64} {P : Nat} (hP : isP P) (x1 : Int32) (x2 : Int32) : Ev X d 42 (7, [.ref P, .int x1, .int x2], [], hS u D J) =
    gd (ob (24 + x1) 73) (gd (ob (24 + x1) 73) (Ev X d 42 (17, [.ref P, .int x1, .int x2], [], hS u (ud D (P + 1) (24 + x1).toNatClampNeg ((D (P + 1) (24 + x1).toNatClampNeg) + 1)) J))) := by
  rcases hP with rfl | rfl | rfl <;> exact (sy_at X [0, 7, 17, 27, 35, 49] d 42 12 _).trans rfl
theorem e42_17 {X : XS} {d u : Nat} {D : Nat → Nat → Int32} {J : Nat → Nat → Int64} {P : Nat} (hP : isP P) (x1 : Int32) (x2 : Int32) : Ev X d 42 (17, [.ref P, .int x1, .int x2], [], hS u D J) =
    gd (ob (36 + x1) 73) (gd (ob (36 + x1) 73) (Ev X d 42 (27, [.ref P, .int x1, .int x2], [], hS u (ud D (P + 1) (36 + x1).toNatClampNeg ((D (P + 1) (36 + x1).toNatClampNeg) + 1)) J))) := by
  rcases hP with rfl | rfl | rfl <;> exact (sy_at X [0, 7, 17, 27, 35, 49] d 42 12 _).trans rfl
theorem e42_27 {X : XS} {d u : Nat} {D : Nat → Nat → Int32} {J : Nat → Nat → Int64} {P : Nat} (hP : isP P) (x1 : Int32) (x2 : Int32) : Ev X d 42 (27, [.ref P, .int x1, .int x2], [], hS u D J) =
    Ev X d 42 (35, [.ref P, .int x1, .int x2], [], hS u (ud D P 5 ((D P 5) ||| ((1 : Int32) <<< (x1 &&& 31)))) J) := by
  rcases hP with rfl | rfl | rfl <;> exact (sy_at X [0, 7, 17, 27, 35, 49] d 42 10 _).trans rfl
set_option maxRecDepth 20000 in
theorem e42_35 {X : XS} {d u : Nat} {D : Nat → Nat → Int32} {J : Nat → Nat → Int64} {P : Nat} (hP : isP P) (x1 : Int32) (x2 : Int32) : Ev X d 42 (35, [.ref P, .int x1, .int x2], [], hS u D J) =
    br (decide (¬ x1 = (D P 7))) (Ev X d 42 (49, [.ref P, .int x1, .int x2], [], hS u D J)) (br (decide (¬ x2 = (D P 8))) (Ev X d 42 (49, [.ref P, .int x1, .int x2], [], hS u D J)) (Ev X d 42 (49, [.ref P, .int x1, .int x2], [], hS u (ud D P 6 ((D P 6) + 1)) J))) := by
  rcases hP with rfl | rfl | rfl <;> exact (sy_at X [0, 7, 17, 27, 35, 49] d 42 16 _).trans rfl
theorem e42_49 {X : XS} {d u : Nat} {D : Nat → Nat → Int32} {J : Nat → Nat → Int64} {P : Nat} (hP : isP P) (x1 : Int32) (x2 : Int32) : Ev X d 42 (49, [.ref P, .int x1, .int x2], [], hS u D J) =
    some (.inl none, hS u D J) := by
  rcases hP with rfl | rfl | rfl <;> exact (sy_at X [0, 7, 17, 27, 35, 49] d 42 3 _).trans rfl
set_option maxRecDepth 20000 in
theorem e43_0 {X : XS} {d u : Nat} {D : Nat → Nat → Int32} {J : Nat → Nat → Int64} {P : Nat} (hP : isP P) (x1 : Int32) : Ev X d 43 (0, [.ref P, .int x1, .null, .null, .null], [], hS u D J) =
    gd (ob (0 + x1) 73) (gd (ob (0 + x1) 73) (Ev X d 43 (22, [.ref P, .int x1, .int (D (P + 1) (0 + x1).toNatClampNeg), .int ((D (P + 1) (0 + x1).toNatClampNeg) / 12), .int ((D (P + 1) (0 + x1).toNatClampNeg) + 1)], [], hS u (ud D (P + 1) (0 + x1).toNatClampNeg (-1)) J))) := by
  rcases hP with rfl | rfl | rfl <;> exact (sy_at X [0, 22, 41, 59] d 43 24 _).trans rfl
set_option maxRecDepth 20000 in
theorem e43_22 {X : XS} {d u : Nat} {D : Nat → Nat → Int32} {J : Nat → Nat → Int64} {P : Nat} (hP : isP P) (x1 : Int32) (x2 : Int32) (x3 : Int32) (x4 : Int32) : Ev X (d + 1) 43 (22, [.ref P, .int x1, .int x2, .int x3, .int x4], [], hS u D J) =
    gd (ob x3 12) (br (decide (((x3 * 12) + (D (P + 3) x3.toNatClampNeg)) ≤ x4)) (gd (ob x3 12) (gd (ob x3 12) (gd (ob x3 12) (br (decide (¬ ((ud D (P + 3) x3.toNatClampNeg ((D (P + 3) x3.toNatClampNeg) - 1)) (P + 3) x3.toNatClampNeg) = 0)) (Ev X (d + 1) 43 (59, [.ref P, .int x1, .int x2, .int x3, .int x4], [], hS u (ud D (P + 3) x3.toNatClampNeg ((D (P + 3) x3.toNatClampNeg) - 1)) J)) (bV (EvM X d 44 [.ref P, .int x3] (hS u (ud D (P + 3) x3.toNatClampNeg ((D (P + 3) x3.toNatClampNeg) - 1)) J)) (fun h => Ev X (d + 1) 43 (59, [.ref P, .int x1, .int x2, .int x3, .int x4], [], h)) (fun e h => some (.inr e, h))))))) (gd (ob x4 144) (bV (EvM X d 39 [.ref P, .int (D (P + 2) x4.toNatClampNeg), .int (x4 - 1)] (hS u D J)) (fun h => Ev X (d + 1) 43 (41, [.ref P, .int x1, .int x2, .int x3, .int x4], [], h)) (fun e h => some (.inr e, h))))) := by
  rcases hP with rfl | rfl | rfl <;> exact (sy_at X [0, 22, 41, 59] (d + 1) 43 28 _).trans rfl
theorem e43_41 {X : XS} {d u : Nat} {D : Nat → Nat → Int32} {J : Nat → Nat → Int64} {P : Nat} (hP : isP P) (x1 : Int32) (x2 : Int32) (x3 : Int32) (x4 : Int32) : Ev X d 43 (41, [.ref P, .int x1, .int x2, .int x3, .int x4], [], hS u D J) =
    Ev X d 43 (22, [.ref P, .int x1, .int x2, .int x3, .int (x4 + 1)], [], hS u D J) := by
  rcases hP with rfl | rfl | rfl <;> exact (sy_at X [0, 22, 41, 59] d 43 4 _).trans rfl
theorem e43_59 {X : XS} {d u : Nat} {D : Nat → Nat → Int32} {J : Nat → Nat → Int64} {P : Nat} (hP : isP P) (x1 : Int32) (x2 : Int32) (x3 : Int32) (x4 : Int32) : Ev X d 43 (59, [.ref P, .int x1, .int x2, .int x3, .int x4], [], hS u D J) =
    some (.inl none, hS u D J) := by
  rcases hP with rfl | rfl | rfl <;> exact (sy_at X [0, 22, 41, 59] d 43 3 _).trans rfl
theorem e44_0 {X : XS} {d u : Nat} {D : Nat → Nat → Int32} {J : Nat → Nat → Int64} {P : Nat} (hP : isP P) (x1 : Int32) : Ev X d 44 (0, [.ref P, .int x1, .null, .null], [], hS u D J) =
    Ev X d 44 (4, [.ref P, .int x1, .int (x1 + 1), .null], [], hS u D J) := by
  rcases hP with rfl | rfl | rfl <;> exact (sy_at X [0, 4, 19, 42] d 44 6 _).trans rfl
set_option maxRecDepth 20000 in
theorem f44_4 {X : XS} {d u : Nat} {D : Nat → Nat → Int32} {J : Nat → Nat → Int64} {P : Nat} (hP : isP P) (x1 : Int32) (x2 : Int32) : Ev X d 44 (4, [.ref P, .int x1, .int x2, .null], [], hS u D J) =
    br (decide (12 ≤ x2)) (Ev X d 44 (51, [.ref P, .int x1, .int x2, .null], [], hS u (ud D (P + 3) 11 0) J)) (gd (ob x2 12) (Ev X d 44 (16, [.ref P, .int x1, .int x2, .null], [.int (D (P + 3) x2.toNatClampNeg), .int (x2 - 1), .ref (P + 3)], hS u D J))) := by
  rcases hP with rfl | rfl | rfl <;> exact (sy_at X [0, 4, 16, 17, 19, 42, 51] d 44 14 _).trans rfl
theorem f44_16 {X : XS} {d u : Nat} {D : Nat → Nat → Int32} {J : Nat → Nat → Int64} {P : Nat} (hP : isP P) (x1 : Int32) (x2 : Int32) (y0 : Int32) (y1 : Int32) : Ev X d 44 (16, [.ref P, .int x1, .int x2, .null], [.int y0, .int y1, .ref (P + 3)], hS u D J) =
    gd (ob y1 12) (Ev X d 44 (17, [.ref P, .int x1, .int x2, .null], [], hS u (ud D (P + 3) y1.toNatClampNeg y0) J)) := by
  rcases hP with rfl | rfl | rfl <;> exact (sy_at X [0, 4, 16, 17, 19, 42, 51] d 44 3 _).trans rfl
theorem f44_17 {X : XS} {d u : Nat} {D : Nat → Nat → Int32} {J : Nat → Nat → Int64} {P : Nat} (hP : isP P) (x1 : Int32) (x2 : Int32) : Ev X d 44 (17, [.ref P, .int x1, .int x2, .null], [], hS u D J) =
    Ev X d 44 (19, [.ref P, .int x1, .int x2, .int 0], [], hS u D J) := by
  rcases hP with rfl | rfl | rfl <;> exact (sy_at X [0, 4, 16, 17, 19, 42, 51] d 44 4 _).trans rfl
theorem f44_51 {X : XS} {d u : Nat} {D : Nat → Nat → Int32} {J : Nat → Nat → Int64} {P : Nat} (hP : isP P) (x1 : Int32) (x2 : Int32) : Ev X d 44 (51, [.ref P, .int x1, .int x2, .null], [], hS u D J) =
    some (.inl none, hS u D J) := by
  rcases hP with rfl | rfl | rfl <;> exact (sy_at X [0, 4, 16, 17, 19, 42, 51] d 44 3 _).trans rfl
set_option maxRecDepth 20000 in
theorem e44_4 {X : XS} {d u : Nat} {D : Nat → Nat → Int32} {J : Nat → Nat → Int64} {P : Nat} (hP : isP P) (x1 : Int32) (x2 : Int32) : Ev X d 44 (4, [.ref P, .int x1, .int x2, .null], [], hS u D J) =
    br (decide (12 ≤ x2)) (some (.inl none, hS u (ud D (P + 3) 11 0) J)) (gd (ob x2 12) (gd (ob (x2 - 1) 12) (Ev X d 44 (19, [.ref P, .int x1, .int x2, .int 0], [], hS u (ud D (P + 3) (x2 - 1).toNatClampNeg (D (P + 3) x2.toNatClampNeg)) J)))) := by
  refine (f44_4 hP _ _).trans ?_
  simp only [f44_16 hP, f44_17 hP, f44_51 hP]
set_option maxRecDepth 20000 in
theorem e44_19 {X : XS} {d u : Nat} {D : Nat → Nat → Int32} {J : Nat → Nat → Int64} {P : Nat} (hP : isP P) (x1 : Int32) (x2 : Int32) (x3 : Int32) : Ev X (d + 1) 44 (19, [.ref P, .int x1, .int x2, .int x3], [], hS u D J) =
    gd (ob x2 12) (br (decide ((D (P + 3) x2.toNatClampNeg) ≤ x3)) (Ev X (d + 1) 44 (4, [.ref P, .int x1, .int (x2 + 1), .int x3], [], hS u D J)) (gd (ob ((x2 * 12) + x3) 144) (bV (EvM X d 39 [.ref P, .int (D (P + 2) ((x2 * 12) + x3).toNatClampNeg), .int (((x2 - 1) * 12) + x3)] (hS u D J)) (fun h => Ev X (d + 1) 44 (42, [.ref P, .int x1, .int x2, .int x3], [], h)) (fun e h => some (.inr e, h))))) := by
  rcases hP with rfl | rfl | rfl <;> exact (sy_at X [0, 4, 19, 42] (d + 1) 44 25 _).trans rfl
theorem e44_42 {X : XS} {d u : Nat} {D : Nat → Nat → Int32} {J : Nat → Nat → Int64} {P : Nat} (hP : isP P) (x1 : Int32) (x2 : Int32) (x3 : Int32) : Ev X d 44 (42, [.ref P, .int x1, .int x2, .int x3], [], hS u D J) =
    Ev X d 44 (19, [.ref P, .int x1, .int x2, .int (x3 + 1)], [], hS u D J) := by
  rcases hP with rfl | rfl | rfl <;> exact (sy_at X [0, 4, 19, 42] d 44 4 _).trans rfl
theorem e45_0 {X : XS} {d u : Nat} {D : Nat → Nat → Int32} {J : Nat → Nat → Int64} {P : Nat} (hP : isP P) (x1 : Int32) : Ev X (d + 1) 45 (0, [.ref P, .int x1, .null, .null, .null, .null], [], hS u D J) =
    bI (EvM X d 86 [.ref 3, .int 1] (hS u D J)) (fun y h => Ev X (d + 1) 45 (4, [.ref P, .int x1, .null, .null, .null, .null], [.int y], h)) (fun e h => some (.inr e, h)) := by
  rcases hP with rfl | rfl | rfl <;> exact (sy_at X [0, 4, 9, 19, 32, 36, 41, 77, 82, 85] (d + 1) 45 6 _).trans rfl
theorem e45_4 {X : XS} {d u : Nat} {D : Nat → Nat → Int32} {J : Nat → Nat → Int64} {P : Nat} (hP : isP P) (x1 : Int32) (y0 : Int32) : Ev X (d + 1) 45 (4, [.ref P, .int x1, .null, .null, .null, .null], [.int y0], hS u D J) =
    br (decide (¬ y0 = 0)) (Ev X (d + 1) 45 (19, [.ref P, .int x1, .int 1, .int 0, .null, .null], [], hS u (ud D P 4 0) J)) (bI (EvM X d 86 [.ref 3, .int 0] (hS u D J)) (fun y h => Ev X (d + 1) 45 (9, [.ref P, .int x1, .null, .null, .null, .null], [.int y], h)) (fun e h => some (.inr e, h))) := by
  rcases hP with rfl | rfl | rfl <;> exact (sy_at X [0, 4, 9, 19, 32, 36, 41, 77, 82, 85] (d + 1) 45 11 _).trans rfl
theorem e45_9 {X : XS} {d u : Nat} {D : Nat → Nat → Int32} {J : Nat → Nat → Int64} {P : Nat} (hP : isP P) (x1 : Int32) (y0 : Int32) : Ev X d 45 (9, [.ref P, .int x1, .null, .null, .null, .null], [.int y0], hS u D J) =
    br (decide (y0 = 0)) (Ev X d 45 (19, [.ref P, .int x1, .int 0, .int 0, .null, .null], [], hS u (ud D P 4 0) J)) (Ev X d 45 (19, [.ref P, .int x1, .int 1, .int 0, .null, .null], [], hS u (ud D P 4 0) J)) := by
  rcases hP with rfl | rfl | rfl <;> exact (sy_at X [0, 4, 9, 19, 32, 36, 41, 77, 82, 85] d 45 11 _).trans rfl
set_option maxRecDepth 20000 in
theorem e45_19 {X : XS} {d u : Nat} {D : Nat → Nat → Int32} {J : Nat → Nat → Int64} {P : Nat} (hP : isP P) (x1 : Int32) (x2 : Int32) (x3 : Int32) : Ev X (d + 1) 45 (19, [.ref P, .int x1, .int x2, .int x3, .null, .null], [], hS u D J) =
    br (decide ((D 3 0) ≤ x3)) (some (.inl none, hS u D J)) (br (decide (x2 = 0)) (Ev X (d + 1) 45 (32, [.ref P, .int x1, .int x2, .int x3, .null, .null], [], hS u D J)) (bV (EvM X d 91 [.ref 3, .ref (P + 1), .int x3] (hS u D J)) (fun h => Ev X (d + 1) 45 (32, [.ref P, .int x1, .int x2, .int x3, .null, .null], [], h)) (fun e h => some (.inr e, h)))) := by
  rcases hP with rfl | rfl | rfl <;> exact (sy_at X [0, 4, 9, 19, 32, 36, 41, 77, 82, 85] (d + 1) 45 15 _).trans rfl
theorem e45_32 {X : XS} {d u : Nat} {D : Nat → Nat → Int32} {J : Nat → Nat → Int64} {P : Nat} (hP : isP P) (x1 : Int32) (x2 : Int32) (x3 : Int32) : Ev X (d + 1) 45 (32, [.ref P, .int x1, .int x2, .int x3, .null, .null], [], hS u D J) =
    bI (EvM X d 86 [.ref 3, .int 1] (hS u D J)) (fun y h => Ev X (d + 1) 45 (36, [.ref P, .int x1, .int x2, .int x3, .null, .null], [.int y], h)) (fun e h => some (.inr e, h)) := by
  rcases hP with rfl | rfl | rfl <;> exact (sy_at X [0, 4, 9, 19, 32, 36, 41, 77, 82, 85] (d + 1) 45 6 _).trans rfl
set_option maxRecDepth 20000 in
theorem e45_36 {X : XS} {d u : Nat} {D : Nat → Nat → Int32} {J : Nat → Nat → Int64} {P : Nat} (hP : isP P) (x1 : Int32) (x2 : Int32) (x3 : Int32) (y0 : Int32) : Ev X (d + 1) 45 (36, [.ref P, .int x1, .int x2, .int x3, .null, .null], [.int y0], hS u D J) =
    br (decide (y0 = 0)) (br (decide (x1 = 0)) (gd (ob (60 + x3) 73) (br (decide (¬ (D (P + 1) (60 + x3).toNatClampNeg) = 0)) (Ev X (d + 1) 45 (85, [.ref P, .int x1, .int x2, .int x3, .int 0, .int 0], [], hS u D J)) (bI (EvM X d 86 [.ref 3, .int 0] (hS u D J)) (fun y h => Ev X (d + 1) 45 (77, [.ref P, .int x1, .int x2, .int x3, .int 0, .int 0], [.int y, .int x3, .ref P], h)) (fun e h => some (.inr e, h))))) (gd (ob (12 + x3) 73) (br (decide ((D (P + 1) (12 + x3).toNatClampNeg) < 15)) (gd (ob (60 + x3) 73) (br (decide (¬ (D (P + 1) (60 + x3).toNatClampNeg) = 0)) (Ev X (d + 1) 45 (85, [.ref P, .int x1, .int x2, .int x3, .int 0, .int 0], [], hS u D J)) (bI (EvM X d 86 [.ref 3, .int 0] (hS u D J)) (fun y h => Ev X (d + 1) 45 (77, [.ref P, .int x1, .int x2, .int x3, .int 0, .int 0], [.int y, .int x3, .ref P], h)) (fun e h => some (.inr e, h))))) (Ev X (d + 1) 45 (85, [.ref P, .int x1, .int x2, .int x3, .int 0, .int 1], [], hS u D J))))) (bI (EvM X d 93 [.ref 3, .int 1] (hS u D J)) (fun y h => Ev X (d + 1) 45 (41, [.ref P, .int x1, .int x2, .int x3, .null, .null], [.int y], h)) (fun e h => some (.inr e, h))) := by
  rcases hP with rfl | rfl | rfl <;> exact (sy_at X [0, 4, 9, 19, 32, 36, 41, 77, 82, 85] (d + 1) 45 34 _).trans rfl
set_option maxRecDepth 20000 in
theorem e45_41 {X : XS} {d u : Nat} {D : Nat → Nat → Int32} {J : Nat → Nat → Int64} {P : Nat} (hP : isP P) (x1 : Int32) (x2 : Int32) (x3 : Int32) (y0 : Int32) : Ev X (d + 1) 45 (41, [.ref P, .int x1, .int x2, .int x3, .null, .null], [.int y0], hS u D J) =
    br (decide (y0 ≤ 0)) (br (decide (x1 = 0)) (gd (ob (60 + x3) 73) (br (decide (¬ (D (P + 1) (60 + x3).toNatClampNeg) = 0)) (Ev X (d + 1) 45 (85, [.ref P, .int x1, .int x2, .int x3, .int 0, .int 0], [], hS u D J)) (bI (EvM X d 86 [.ref 3, .int 0] (hS u D J)) (fun y h => Ev X (d + 1) 45 (77, [.ref P, .int x1, .int x2, .int x3, .int 0, .int 0], [.int y, .int x3, .ref P], h)) (fun e h => some (.inr e, h))))) (gd (ob (12 + x3) 73) (br (decide ((D (P + 1) (12 + x3).toNatClampNeg) < 15)) (gd (ob (60 + x3) 73) (br (decide (¬ (D (P + 1) (60 + x3).toNatClampNeg) = 0)) (Ev X (d + 1) 45 (85, [.ref P, .int x1, .int x2, .int x3, .int 0, .int 0], [], hS u D J)) (bI (EvM X d 86 [.ref 3, .int 0] (hS u D J)) (fun y h => Ev X (d + 1) 45 (77, [.ref P, .int x1, .int x2, .int x3, .int 0, .int 0], [.int y, .int x3, .ref P], h)) (fun e h => some (.inr e, h))))) (Ev X (d + 1) 45 (85, [.ref P, .int x1, .int x2, .int x3, .int 0, .int 1], [], hS u D J))))) (br (decide (x1 = 0)) (Ev X (d + 1) 45 (85, [.ref P, .int x1, .int x2, .int x3, .int 1, .int 0], [], hS u D J)) (gd (ob (12 + x3) 73) (br (decide ((D (P + 1) (12 + x3).toNatClampNeg) < 15)) (Ev X (d + 1) 45 (85, [.ref P, .int x1, .int x2, .int x3, .int 1, .int 0], [], hS u D J)) (Ev X (d + 1) 45 (85, [.ref P, .int x1, .int x2, .int x3, .int 1, .int 1], [], hS u D J))))) := by
  rcases hP with rfl | rfl | rfl <;> exact (sy_at X [0, 4, 9, 19, 32, 36, 41, 77, 82, 85] (d + 1) 45 34 _).trans rfl
theorem e45_77 {X : XS} {d u : Nat} {D : Nat → Nat → Int32} {J : Nat → Nat → Int64} {P : Nat} (hP : isP P) (x1 : Int32) (x2 : Int32) (x3 : Int32) (x4 : Int32) (x5 : Int32) (y0 : Int32) (y1 : Int32) : Ev X (d + 1) 45 (77, [.ref P, .int x1, .int x2, .int x3, .int x4, .int x5], [.int y0, .int y1, .ref P], hS u D J) =
    br (decide (y0 = 0)) (bV (EvM X d 46 [.ref P, .int y1, .int x3] (hS u D J)) (fun h => Ev X (d + 1) 45 (85, [.ref P, .int x1, .int x2, .int x3, .int x4, .int x5], [], h)) (fun e h => some (.inr e, h))) (bI (EvM X d 93 [.ref 3, .int 0] (hS u D J)) (fun y h => Ev X (d + 1) 45 (82, [.ref P, .int x1, .int x2, .int x3, .int x4, .int x5], [.int y, .int y1, .ref P], h)) (fun e h => some (.inr e, h))) := by
  rcases hP with rfl | rfl | rfl <;> exact (sy_at X [0, 4, 9, 19, 32, 36, 41, 77, 82, 85] (d + 1) 45 7 _).trans rfl
theorem e45_82 {X : XS} {d u : Nat} {D : Nat → Nat → Int32} {J : Nat → Nat → Int64} {P : Nat} (hP : isP P) (x1 : Int32) (x2 : Int32) (x3 : Int32) (x4 : Int32) (x5 : Int32) (y0 : Int32) (y1 : Int32) : Ev X (d + 1) 45 (82, [.ref P, .int x1, .int x2, .int x3, .int x4, .int x5], [.int y0, .int y1, .ref P], hS u D J) =
    bV (EvM X d 46 [.ref P, .int y1, .int y0] (hS u D J)) (fun h => Ev X (d + 1) 45 (85, [.ref P, .int x1, .int x2, .int x3, .int x4, .int x5], [], h)) (fun e h => some (.inr e, h)) := by
  rcases hP with rfl | rfl | rfl <;> exact (sy_at X [0, 4, 9, 19, 32, 36, 41, 77, 82, 85] (d + 1) 45 4 _).trans rfl
theorem e45_85 {X : XS} {d u : Nat} {D : Nat → Nat → Int32} {J : Nat → Nat → Int64} {P : Nat} (hP : isP P) (x1 : Int32) (x2 : Int32) (x3 : Int32) (x4 : Int32) (x5 : Int32) : Ev X d 45 (85, [.ref P, .int x1, .int x2, .int x3, .int x4, .int x5], [], hS u D J) =
    Ev X d 45 (19, [.ref P, .int x1, .int x2, .int (x3 + 1), .int x4, .int x5], [], hS u D J) := by
  rcases hP with rfl | rfl | rfl <;> exact (sy_at X [0, 4, 9, 19, 32, 36, 41, 77, 82, 85] d 45 4 _).trans rfl
theorem e46_0 {X : XS} {d u : Nat} {D : Nat → Nat → Int32} {J : Nat → Nat → Int64} {P : Nat} (hP : isP P) (x1 : Int32) (x2 : Int32) : Ev X d 46 (0, [.ref P, .int x1, .int x2, .null], [], hS u D J) =
    Ev X d 46 (3, [.ref P, .int x1, .int x2, .int (D P 4)], [], hS u D J) := by
  rcases hP with rfl | rfl | rfl <;> exact (sy_at X [0, 3] d 46 5 _).trans rfl
theorem f46_3 {X : XS} {d u : Nat} {D : Nat → Nat → Int32} {J : Nat → Nat → Int64} {P : Nat} (hP : isP P) (x1 : Int32) (x2 : Int32) (x3 : Int32) : Ev X d 46 (3, [.ref P, .int x1, .int x2, .int x3], [], hS u D J) =
    br (decide (x3 ≤ 0)) (gd (ob x3 12) (Ev X d 46 (40, [.ref P, .int x1, .int x2, .int x3], [], hS u (ud D (P + 5) x3.toNatClampNeg x2) J))) (gd (ob (x3 - 1) 12) (Ev X d 46 (11, [.ref P, .int x1, .int x2, .int x3], [.int (D (P + 5) (x3 - 1).toNatClampNeg)], hS u D J))) := by
  rcases hP with rfl | rfl | rfl <;> exact (sy_at X [0, 3, 11, 22, 23, 32, 33, 40, 45] d 46 10 _).trans rfl
set_option maxRecDepth 20000 in
theorem f46_11 {X : XS} {d u : Nat} {D : Nat → Nat → Int32} {J : Nat → Nat → Int64} {P : Nat} (hP : isP P) (x1 : Int32) (x2 : Int32) (x3 : Int32) (y0 : Int32) : Ev X d 46 (11, [.ref P, .int x1, .int x2, .int x3], [.int y0], hS u D J) =
    br (decide (y0 ≤ x2)) (gd (ob x3 12) (Ev X d 46 (40, [.ref P, .int x1, .int x2, .int x3], [], hS u (ud D (P + 5) x3.toNatClampNeg x2) J))) (gd (ob (x3 - 1) 12) (Ev X d 46 (22, [.ref P, .int x1, .int x2, .int x3], [.int (D (P + 5) (x3 - 1).toNatClampNeg), .int x3, .ref (P + 5)], hS u D J))) := by
  rcases hP with rfl | rfl | rfl <;> exact (sy_at X [0, 3, 11, 22, 23, 32, 33, 40, 45] d 46 13 _).trans rfl
theorem f46_22 {X : XS} {d u : Nat} {D : Nat → Nat → Int32} {J : Nat → Nat → Int64} {P : Nat} (hP : isP P) (x1 : Int32) (x2 : Int32) (x3 : Int32) (y0 : Int32) (y1 : Int32) : Ev X d 46 (22, [.ref P, .int x1, .int x2, .int x3], [.int y0, .int y1, .ref (P + 5)], hS u D J) =
    gd (ob y1 12) (Ev X d 46 (23, [.ref P, .int x1, .int x2, .int x3], [], hS u (ud D (P + 5) y1.toNatClampNeg y0) J)) := by
  rcases hP with rfl | rfl | rfl <;> exact (sy_at X [0, 3, 11, 22, 23, 32, 33, 40, 45] d 46 3 _).trans rfl
theorem f46_23 {X : XS} {d u : Nat} {D : Nat → Nat → Int32} {J : Nat → Nat → Int64} {P : Nat} (hP : isP P) (x1 : Int32) (x2 : Int32) (x3 : Int32) : Ev X d 46 (23, [.ref P, .int x1, .int x2, .int x3], [], hS u D J) =
    gd (ob (x3 - 1) 12) (Ev X d 46 (32, [.ref P, .int x1, .int x2, .int x3], [.int (D (P + 4) (x3 - 1).toNatClampNeg), .int x3, .ref (P + 4)], hS u D J)) := by
  rcases hP with rfl | rfl | rfl <;> exact (sy_at X [0, 3, 11, 22, 23, 32, 33, 40, 45] d 46 11 _).trans rfl
theorem f46_32 {X : XS} {d u : Nat} {D : Nat → Nat → Int32} {J : Nat → Nat → Int64} {P : Nat} (hP : isP P) (x1 : Int32) (x2 : Int32) (x3 : Int32) (y0 : Int32) (y1 : Int32) : Ev X d 46 (32, [.ref P, .int x1, .int x2, .int x3], [.int y0, .int y1, .ref (P + 4)], hS u D J) =
    gd (ob y1 12) (Ev X d 46 (33, [.ref P, .int x1, .int x2, .int x3], [], hS u (ud D (P + 4) y1.toNatClampNeg y0) J)) := by
  rcases hP with rfl | rfl | rfl <;> exact (sy_at X [0, 3, 11, 22, 23, 32, 33, 40, 45] d 46 3 _).trans rfl
theorem f46_33 {X : XS} {d u : Nat} {D : Nat → Nat → Int32} {J : Nat → Nat → Int64} {P : Nat} (hP : isP P) (x1 : Int32) (x2 : Int32) (x3 : Int32) : Ev X d 46 (33, [.ref P, .int x1, .int x2, .int x3], [], hS u D J) =
    Ev X d 46 (3, [.ref P, .int x1, .int x2, .int (x3 + (-1))], [], hS u D J) := by
  rcases hP with rfl | rfl | rfl <;> exact (sy_at X [0, 3, 11, 22, 23, 32, 33, 40, 45] d 46 4 _).trans rfl
theorem f46_40 {X : XS} {d u : Nat} {D : Nat → Nat → Int32} {J : Nat → Nat → Int64} {P : Nat} (hP : isP P) (x1 : Int32) (x2 : Int32) (x3 : Int32) : Ev X d 46 (40, [.ref P, .int x1, .int x2, .int x3], [], hS u D J) =
    gd (ob x3 12) (Ev X d 46 (45, [.ref P, .int x1, .int x2, .int x3], [], hS u (ud D (P + 4) x3.toNatClampNeg x1) J)) := by
  rcases hP with rfl | rfl | rfl <;> exact (sy_at X [0, 3, 11, 22, 23, 32, 33, 40, 45] d 46 7 _).trans rfl
theorem f46_45 {X : XS} {d u : Nat} {D : Nat → Nat → Int32} {J : Nat → Nat → Int64} {P : Nat} (hP : isP P) (x1 : Int32) (x2 : Int32) (x3 : Int32) : Ev X d 46 (45, [.ref P, .int x1, .int x2, .int x3], [], hS u D J) =
    some (.inl none, hS u (ud D P 4 ((D P 4) + 1)) J) := by
  rcases hP with rfl | rfl | rfl <;> exact (sy_at X [0, 3, 11, 22, 23, 32, 33, 40, 45] d 46 9 _).trans rfl
set_option maxRecDepth 20000 in
theorem e46_3 {X : XS} {d u : Nat} {D : Nat → Nat → Int32} {J : Nat → Nat → Int64} {P : Nat} (hP : isP P) (x1 : Int32) (x2 : Int32) (x3 : Int32) : Ev X d 46 (3, [.ref P, .int x1, .int x2, .int x3], [], hS u D J) =
    br (decide (x3 ≤ 0)) (gd (ob x3 12) (gd (ob x3 12) (some (.inl none, hS u (ud (ud (ud D (P + 5) x3.toNatClampNeg x2) (P + 4) x3.toNatClampNeg x1) P 4 (((ud (ud D (P + 5) x3.toNatClampNeg x2) (P + 4) x3.toNatClampNeg x1) P 4) + 1)) J)))) (gd (ob (x3 - 1) 12) (br (decide ((D (P + 5) (x3 - 1).toNatClampNeg) ≤ x2)) (gd (ob x3 12) (gd (ob x3 12) (some (.inl none, hS u (ud (ud (ud D (P + 5) x3.toNatClampNeg x2) (P + 4) x3.toNatClampNeg x1) P 4 (((ud (ud D (P + 5) x3.toNatClampNeg x2) (P + 4) x3.toNatClampNeg x1) P 4) + 1)) J)))) (gd (ob (x3 - 1) 12) (gd (ob x3 12) (gd (ob (x3 - 1) 12) (gd (ob x3 12) (Ev X d 46 (3, [.ref P, .int x1, .int x2, .int (x3 + (-1))], [], hS u (ud (ud D (P + 5) x3.toNatClampNeg (D (P + 5) (x3 - 1).toNatClampNeg)) (P + 4) x3.toNatClampNeg ((ud D (P + 5) x3.toNatClampNeg (D (P + 5) (x3 - 1).toNatClampNeg)) (P + 4) (x3 - 1).toNatClampNeg)) J)))))))) := by
  refine (f46_3 hP _ _ _).trans ?_
  simp only [f46_11 hP, f46_22 hP, f46_23 hP, f46_32 hP, f46_33 hP, f46_40 hP, f46_45 hP]
theorem e47_0 {X : XS} {d u : Nat} {D : Nat → Nat → Int32} {J : Nat → Nat → Int64} {P : Nat} (hP : isP P) (x1 : Int32) : Ev X d 47 (0, [.ref P, .int x1, .null], [], hS u D J) =
    Ev X d 47 (2, [.ref P, .int x1, .int 0], [], hS u D J) := by
  rcases hP with rfl | rfl | rfl <;> exact (sy_at X [0, 2] d 47 4 _).trans rfl
set_option maxRecDepth 20000 in
theorem e47_2 {X : XS} {d u : Nat} {D : Nat → Nat → Int32} {J : Nat → Nat → Int64} {P : Nat} (hP : isP P) (x1 : Int32) (x2 : Int32) : Ev X d 47 (2, [.ref P, .int x1, .int x2], [], hS u D J) =
    br (decide ((D P 4) ≤ x2)) (some (.inl (some (.int (-1))), hS u D J)) (gd (ob x2 12) (br (decide (¬ (D (P + 4) x2.toNatClampNeg) = x1)) (Ev X d 47 (2, [.ref P, .int x1, .int (x2 + 1)], [], hS u D J)) (some (.inl (some (.int x2)), hS u D J)))) := by
  rcases hP with rfl | rfl | rfl <;> exact (sy_at X [0, 2] d 47 14 _).trans rfl
theorem e48_0 {X : XS} {d u : Nat} {D : Nat → Nat → Int32} {J : Nat → Nat → Int64} {P : Nat} (hP : isP P) (x1 : Int32) : Ev X (d + 1) 48 (0, [.ref P, .int x1, .null, .null], [], hS u D J) =
    bI (EvM X d 47 [.ref P, .int x1] (hS u D J)) (fun y h => Ev X (d + 1) 48 (3, [.ref P, .int x1, .null, .null], [.int y], h)) (fun e h => some (.inr e, h)) := by
  rcases hP with rfl | rfl | rfl <;> exact (sy_at X [0, 3, 17] (d + 1) 48 5 _).trans rfl
set_option maxRecDepth 20000 in
theorem e48_3 {X : XS} {d u : Nat} {D : Nat → Nat → Int32} {J : Nat → Nat → Int64} {P : Nat} (hP : isP P) (x1 : Int32) (y0 : Int32) : Ev X d 48 (3, [.ref P, .int x1, .null, .null], [.int y0], hS u D J) =
    br (decide (¬ y0 = (-1))) (Ev X d 48 (17, [.ref P, .int x1, .int y0, .int y0], [], hS u (ud D P 4 ((D P 4) - 1)) J)) (some (.inl (some (.int 0)), hS u D J)) := by
  rcases hP with rfl | rfl | rfl <;> exact (sy_at X [0, 3, 17] d 48 14 _).trans rfl
set_option maxRecDepth 20000 in
theorem f48_17 {X : XS} {d u : Nat} {D : Nat → Nat → Int32} {J : Nat → Nat → Int64} {P : Nat} (hP : isP P) (x1 : Int32) (x2 : Int32) (x3 : Int32) : Ev X d 48 (17, [.ref P, .int x1, .int x2, .int x3], [], hS u D J) =
    br (decide ((D P 4) ≤ x3)) (some (.inl (some (.int 1)), hS u D J)) (gd (ob (x3 + 1) 12) (Ev X d 48 (30, [.ref P, .int x1, .int x2, .int x3], [.int (D (P + 4) (x3 + 1).toNatClampNeg), .int x3, .ref (P + 4)], hS u D J))) := by
  rcases hP with rfl | rfl | rfl <;> exact (sy_at X [0, 3, 17, 30, 31] d 48 15 _).trans rfl
theorem f48_30 {X : XS} {d u : Nat} {D : Nat → Nat → Int32} {J : Nat → Nat → Int64} {P : Nat} (hP : isP P) (x1 : Int32) (x2 : Int32) (x3 : Int32) (y0 : Int32) (y1 : Int32) : Ev X d 48 (30, [.ref P, .int x1, .int x2, .int x3], [.int y0, .int y1, .ref (P + 4)], hS u D J) =
    gd (ob y1 12) (Ev X d 48 (31, [.ref P, .int x1, .int x2, .int x3], [], hS u (ud D (P + 4) y1.toNatClampNeg y0) J)) := by
  rcases hP with rfl | rfl | rfl <;> exact (sy_at X [0, 3, 17, 30, 31] d 48 3 _).trans rfl
theorem f48_31 {X : XS} {d u : Nat} {D : Nat → Nat → Int32} {J : Nat → Nat → Int64} {P : Nat} (hP : isP P) (x1 : Int32) (x2 : Int32) (x3 : Int32) : Ev X d 48 (31, [.ref P, .int x1, .int x2, .int x3], [], hS u D J) =
    Ev X d 48 (17, [.ref P, .int x1, .int x2, .int (x3 + 1)], [], hS u D J) := by
  rcases hP with rfl | rfl | rfl <;> exact (sy_at X [0, 3, 17, 30, 31] d 48 4 _).trans rfl
set_option maxRecDepth 20000 in
theorem e48_17 {X : XS} {d u : Nat} {D : Nat → Nat → Int32} {J : Nat → Nat → Int64} {P : Nat} (hP : isP P) (x1 : Int32) (x2 : Int32) (x3 : Int32) : Ev X d 48 (17, [.ref P, .int x1, .int x2, .int x3], [], hS u D J) =
    br (decide ((D P 4) ≤ x3)) (some (.inl (some (.int 1)), hS u D J)) (gd (ob (x3 + 1) 12) (gd (ob x3 12) (Ev X d 48 (17, [.ref P, .int x1, .int x2, .int (x3 + 1)], [], hS u (ud D (P + 4) x3.toNatClampNeg (D (P + 4) (x3 + 1).toNatClampNeg)) J)))) := by
  refine (f48_17 hP _ _ _).trans ?_
  simp only [f48_30 hP, f48_31 hP]
theorem e49_0 {X : XS} {d u : Nat} {D : Nat → Nat → Int32} {J : Nat → Nat → Int64} {P : Nat} (hP : isP P) (x1 : Int32) (x2 : Int32) : Ev X (d + 1) 49 (0, [.ref P, .int x1, .int x2, .null], [], hS u D J) =
    bI (EvM X d 48 [.ref P, .int x1] (hS u D J)) (fun y h => Ev X (d + 1) 49 (3, [.ref P, .int x1, .int x2, .null], [.int y], h)) (fun e h => some (.inr e, h)) := by
  rcases hP with rfl | rfl | rfl <;> exact (sy_at X [0, 3, 8] (d + 1) 49 5 _).trans rfl
theorem e49_3 {X : XS} {d u : Nat} {D : Nat → Nat → Int32} {J : Nat → Nat → Int64} {P : Nat} (hP : isP P) (x1 : Int32) (x2 : Int32) (y0 : Int32) : Ev X d 49 (3, [.ref P, .int x1, .int x2, .null], [.int y0], hS u D J) =
    br (decide (¬ y0 = 0)) (Ev X d 49 (8, [.ref P, .int x1, .int x2, .int (D P 4)], [], hS u D J)) (some (.inl none, hS u D J)) := by
  rcases hP with rfl | rfl | rfl <;> exact (sy_at X [0, 3, 8] d 49 6 _).trans rfl
set_option maxRecDepth 20000 in
theorem f49_8 {X : XS} {d u : Nat} {D : Nat → Nat → Int32} {J : Nat → Nat → Int64} {P : Nat} (hP : isP P) (x1 : Int32) (x2 : Int32) (x3 : Int32) : Ev X d 49 (8, [.ref P, .int x1, .int x2, .int x3], [], hS u D J) =
    br (decide (x3 ≤ x2)) (gd (ob x2 12) (Ev X d 49 (28, [.ref P, .int x1, .int x2, .int x3], [], hS u (ud D (P + 4) x2.toNatClampNeg x1) J))) (gd (ob (x3 - 1) 12) (Ev X d 49 (20, [.ref P, .int x1, .int x2, .int x3], [.int (D (P + 4) (x3 - 1).toNatClampNeg), .int x3, .ref (P + 4)], hS u D J))) := by
  rcases hP with rfl | rfl | rfl <;> exact (sy_at X [0, 3, 8, 20, 21, 28] d 49 14 _).trans rfl
theorem f49_20 {X : XS} {d u : Nat} {D : Nat → Nat → Int32} {J : Nat → Nat → Int64} {P : Nat} (hP : isP P) (x1 : Int32) (x2 : Int32) (x3 : Int32) (y0 : Int32) (y1 : Int32) : Ev X d 49 (20, [.ref P, .int x1, .int x2, .int x3], [.int y0, .int y1, .ref (P + 4)], hS u D J) =
    gd (ob y1 12) (Ev X d 49 (21, [.ref P, .int x1, .int x2, .int x3], [], hS u (ud D (P + 4) y1.toNatClampNeg y0) J)) := by
  rcases hP with rfl | rfl | rfl <;> exact (sy_at X [0, 3, 8, 20, 21, 28] d 49 3 _).trans rfl
theorem f49_21 {X : XS} {d u : Nat} {D : Nat → Nat → Int32} {J : Nat → Nat → Int64} {P : Nat} (hP : isP P) (x1 : Int32) (x2 : Int32) (x3 : Int32) : Ev X d 49 (21, [.ref P, .int x1, .int x2, .int x3], [], hS u D J) =
    Ev X d 49 (8, [.ref P, .int x1, .int x2, .int (x3 + (-1))], [], hS u D J) := by
  rcases hP with rfl | rfl | rfl <;> exact (sy_at X [0, 3, 8, 20, 21, 28] d 49 4 _).trans rfl
theorem f49_28 {X : XS} {d u : Nat} {D : Nat → Nat → Int32} {J : Nat → Nat → Int64} {P : Nat} (hP : isP P) (x1 : Int32) (x2 : Int32) (x3 : Int32) : Ev X d 49 (28, [.ref P, .int x1, .int x2, .int x3], [], hS u D J) =
    some (.inl none, hS u (ud D P 4 ((D P 4) + 1)) J) := by
  rcases hP with rfl | rfl | rfl <;> exact (sy_at X [0, 3, 8, 20, 21, 28] d 49 9 _).trans rfl
set_option maxRecDepth 20000 in
theorem e49_8 {X : XS} {d u : Nat} {D : Nat → Nat → Int32} {J : Nat → Nat → Int64} {P : Nat} (hP : isP P) (x1 : Int32) (x2 : Int32) (x3 : Int32) : Ev X d 49 (8, [.ref P, .int x1, .int x2, .int x3], [], hS u D J) =
    br (decide (x3 ≤ x2)) (gd (ob x2 12) (some (.inl none, hS u (ud (ud D (P + 4) x2.toNatClampNeg x1) P 4 (((ud D (P + 4) x2.toNatClampNeg x1) P 4) + 1)) J))) (gd (ob (x3 - 1) 12) (gd (ob x3 12) (Ev X d 49 (8, [.ref P, .int x1, .int x2, .int (x3 + (-1))], [], hS u (ud D (P + 4) x3.toNatClampNeg (D (P + 4) (x3 - 1).toNatClampNeg)) J)))) := by
  refine (f49_8 hP _ _ _).trans ?_
  simp only [f49_20 hP, f49_21 hP, f49_28 hP]
theorem e50_0 {X : XS} {d u : Nat} {D : Nat → Nat → Int32} {J : Nat → Nat → Int64} {P : Nat} (hP : isP P) : Ev X (d + 1) 50 (0, [.ref P, .null], [], hS u D J) =
    bV (EvM X d 35 [.ref P] (hS u D J)) (fun h => Ev X (d + 1) 50 (2, [.ref P, .null], [], h)) (fun e h => some (.inr e, h)) := by
  rcases hP with rfl | rfl | rfl <;> exact (sy_at X [0, 2, 4, 14, 17, 19, 48, 65, 67, 75] (d + 1) 50 4 _).trans rfl
theorem e50_2 {X : XS} {d u : Nat} {D : Nat → Nat → Int32} {J : Nat → Nat → Int64} {P : Nat} (hP : isP P) : Ev X d 50 (2, [.ref P, .null], [], hS u D J) =
    Ev X d 50 (4, [.ref P, .int 0], [], hS u D J) := by
  rcases hP with rfl | rfl | rfl <;> exact (sy_at X [0, 2, 4, 14, 17, 19, 48, 65, 67, 75] d 50 4 _).trans rfl
theorem e50_4 {X : XS} {d u : Nat} {D : Nat → Nat → Int32} {J : Nat → Nat → Int64} {P : Nat} (hP : isP P) (x1 : Int32) : Ev X (d + 1) 50 (4, [.ref P, .int x1], [], hS u D J) =
    br (decide ((D P 4) ≤ x1)) (Ev X (d + 1) 50 (17, [.ref P, .int x1], [], hS u D J)) (gd (ob x1 12) (bI (EvM X d 40 [.ref P, .int (D (P + 4) x1.toNatClampNeg)] (hS u D J)) (fun y h => Ev X (d + 1) 50 (14, [.ref P, .int x1], [.int y], h)) (fun e h => some (.inr e, h)))) := by
  rcases hP with rfl | rfl | rfl <;> exact (sy_at X [0, 2, 4, 14, 17, 19, 48, 65, 67, 75] (d + 1) 50 12 _).trans rfl
theorem e50_14 {X : XS} {d u : Nat} {D : Nat → Nat → Int32} {J : Nat → Nat → Int64} {P : Nat} (hP : isP P) (x1 : Int32) (y0 : Int32) : Ev X d 50 (14, [.ref P, .int x1], [.int y0], hS u D J) =
    Ev X d 50 (4, [.ref P, .int (x1 + 1)], [], hS u D J) := by
  rcases hP with rfl | rfl | rfl <;> exact (sy_at X [0, 2, 4, 14, 17, 19, 48, 65, 67, 75] d 50 5 _).trans rfl
theorem e50_17 {X : XS} {d u : Nat} {D : Nat → Nat → Int32} {J : Nat → Nat → Int64} {P : Nat} (hP : isP P) (x1 : Int32) : Ev X d 50 (17, [.ref P, .int x1], [], hS u D J) =
    Ev X d 50 (19, [.ref P, .int 0], [], hS u D J) := by
  rcases hP with rfl | rfl | rfl <;> exact (sy_at X [0, 2, 4, 14, 17, 19, 48, 65, 67, 75] d 50 4 _).trans rfl
set_option maxRecDepth 20000 in
theorem e50_19 {X : XS} {d u : Nat} {D : Nat → Nat → Int32} {J : Nat → Nat → Int64} {P : Nat} (hP : isP P) (x1 : Int32) : Ev X d 50 (19, [.ref P, .int x1], [], hS u D J) =
    br (decide ((D 3 0) ≤ x1)) (Ev X d 50 (67, [.ref P, .int x1], [], hS u D J)) (gd (ob (0 + x1) 73) (br (decide (¬ (D (P + 1) (0 + x1).toNatClampNeg) = (-1))) (gd (ob (48 + x1) 73) (Ev X d 50 (48, [.ref P, .int x1], [], hS u (ud D (P + 1) (48 + x1).toNatClampNeg 0) J))) (gd (ob (48 + x1) 73) (gd (ob (48 + x1) 73) (Ev X d 50 (48, [.ref P, .int x1], [], hS u (ud D (P + 1) (48 + x1).toNatClampNeg ((D (P + 1) (48 + x1).toNatClampNeg) + 1)) J)))))) := by
  rcases hP with rfl | rfl | rfl <;> exact (sy_at X [0, 2, 4, 14, 17, 19, 48, 65, 67, 75] d 50 30 _).trans rfl
set_option maxRecDepth 20000 in
theorem e50_48 {X : XS} {d u : Nat} {D : Nat → Nat → Int32} {J : Nat → Nat → Int64} {P : Nat} (hP : isP P) (x1 : Int32) : Ev X d 50 (48, [.ref P, .int x1], [], hS u D J) =
    gd (ob (60 + x1) 73) (br (decide ((D (P + 1) (60 + x1).toNatClampNeg) ≤ 0)) (Ev X d 50 (65, [.ref P, .int x1], [], hS u D J)) (gd (ob (60 + x1) 73) (gd (ob (60 + x1) 73) (Ev X d 50 (65, [.ref P, .int x1], [], hS u (ud D (P + 1) (60 + x1).toNatClampNeg ((D (P + 1) (60 + x1).toNatClampNeg) - 1)) J))))) := by
  rcases hP with rfl | rfl | rfl <;> exact (sy_at X [0, 2, 4, 14, 17, 19, 48, 65, 67, 75] d 50 19 _).trans rfl
theorem e50_65 {X : XS} {d u : Nat} {D : Nat → Nat → Int32} {J : Nat → Nat → Int64} {P : Nat} (hP : isP P) (x1 : Int32) : Ev X d 50 (65, [.ref P, .int x1], [], hS u D J) =
    Ev X d 50 (19, [.ref P, .int (x1 + 1)], [], hS u D J) := by
  rcases hP with rfl | rfl | rfl <;> exact (sy_at X [0, 2, 4, 14, 17, 19, 48, 65, 67, 75] d 50 4 _).trans rfl
theorem e50_67 {X : XS} {d u : Nat} {D : Nat → Nat → Int32} {J : Nat → Nat → Int64} {P : Nat} (hP : isP P) (x1 : Int32) : Ev X d 50 (67, [.ref P, .int x1], [], hS u D J) =
    Ev X d 50 (75, [.ref P, .int x1], [], hS u (ud D (P + 1) 72 ((D (P + 1) 72) + 1)) J) := by
  rcases hP with rfl | rfl | rfl <;> exact (sy_at X [0, 2, 4, 14, 17, 19, 48, 65, 67, 75] d 50 10 _).trans rfl
theorem e50_75 {X : XS} {d u : Nat} {D : Nat → Nat → Int32} {J : Nat → Nat → Int64} {P : Nat} (hP : isP P) (x1 : Int32) : Ev X d 50 (75, [.ref P, .int x1], [], hS u D J) =
    some (.inl none, hS u D J) := by
  rcases hP with rfl | rfl | rfl <;> exact (sy_at X [0, 2, 4, 14, 17, 19, 48, 65, 67, 75] d 50 3 _).trans rfl
theorem e51_0 {X : XS} {d u : Nat} {D : Nat → Nat → Int32} {J : Nat → Nat → Int64} {P : Nat} (hP : isP P) (x1 : Int32) : Ev X (d + 1) 51 (0, [.ref P, .int x1], [], hS u D J) =
    bV (EvM X d 45 [.ref P, .int x1] (hS u D J)) (fun h => Ev X (d + 1) 51 (3, [.ref P, .int x1], [], h)) (fun e h => some (.inr e, h)) := by
  rcases hP with rfl | rfl | rfl <;> exact (sy_at X [0, 3, 5] (d + 1) 51 5 _).trans rfl
theorem e51_3 {X : XS} {d u : Nat} {D : Nat → Nat → Int32} {J : Nat → Nat → Int64} {P : Nat} (hP : isP P) (x1 : Int32) : Ev X (d + 1) 51 (3, [.ref P, .int x1], [], hS u D J) =
    bV (EvM X d 50 [.ref P] (hS u D J)) (fun h => Ev X (d + 1) 51 (5, [.ref P, .int x1], [], h)) (fun e h => some (.inr e, h)) := by
  rcases hP with rfl | rfl | rfl <;> exact (sy_at X [0, 3, 5] (d + 1) 51 4 _).trans rfl
theorem e51_5 {X : XS} {d u : Nat} {D : Nat → Nat → Int32} {J : Nat → Nat → Int64} {P : Nat} (hP : isP P) (x1 : Int32) : Ev X d 51 (5, [.ref P, .int x1], [], hS u D J) =
    some (.inl none, hS u D J) := by
  rcases hP with rfl | rfl | rfl <;> exact (sy_at X [0, 3, 5] d 51 3 _).trans rfl
theorem e52_0 {X : XS} {d u : Nat} {D : Nat → Nat → Int32} {J : Nat → Nat → Int64} {P : Nat} (hP : isP P) : Ev X d 52 (0, [.ref P, .null, .null], [], hS u D J) =
    Ev X d 52 (4, [.ref P, .int 0, .int 0], [], hS u D J) := by
  rcases hP with rfl | rfl | rfl <;> exact (sy_at X [0, 4] d 52 6 _).trans rfl
set_option maxRecDepth 20000 in
theorem e52_4 {X : XS} {d u : Nat} {D : Nat → Nat → Int32} {J : Nat → Nat → Int64} {P : Nat} (hP : isP P) (x1 : Int32) (x2 : Int32) : Ev X d 52 (4, [.ref P, .int x1, .int x2], [], hS u D J) =
    br (decide (12 ≤ x2)) (some (.inl (some (.int x1)), hS u D J)) (gd (ob x2 12) (br (decide ((D (P + 3) x2.toNatClampNeg) ≤ 0)) (Ev X d 52 (4, [.ref P, .int x1, .int (x2 + 1)], [], hS u D J)) (Ev X d 52 (4, [.ref P, .int (x1 + 1), .int (x2 + 1)], [], hS u D J)))) := by
  rcases hP with rfl | rfl | rfl <;> exact (sy_at X [0, 4] d 52 13 _).trans rfl
theorem e53_0 {X : XS} {d u : Nat} {D : Nat → Nat → Int32} {J : Nat → Nat → Int64} {P : Nat} (hP : isP P) : Ev X d 53 (0, [.ref P, .null, .null], [], hS u D J) =
    Ev X d 53 (4, [.ref P, .int 0, .int 0], [], hS u D J) := by
  rcases hP with rfl | rfl | rfl <;> exact (sy_at X [0, 4] d 53 6 _).trans rfl
set_option maxRecDepth 20000 in
theorem e53_4 {X : XS} {d u : Nat} {D : Nat → Nat → Int32} {J : Nat → Nat → Int64} {P : Nat} (hP : isP P) (x1 : Int32) (x2 : Int32) : Ev X d 53 (4, [.ref P, .int x1, .int x2], [], hS u D J) =
    br (decide ((D 3 0) ≤ x2)) (some (.inl (some (.int x1)), hS u D J)) (gd (ob (0 + x2) 73) (br (decide ((D (P + 1) (0 + x2).toNatClampNeg) = (-1))) (Ev X d 53 (4, [.ref P, .int x1, .int (x2 + 1)], [], hS u D J)) (Ev X d 53 (4, [.ref P, .int (x1 ||| ((1 : Int32) <<< (x2 &&& 31))), .int (x2 + 1)], [], hS u D J)))) := by
  rcases hP with rfl | rfl | rfl <;> exact (sy_at X [0, 4] d 53 23 _).trans rfl
theorem e54_0 {X : XS} {d u : Nat} {D : Nat → Nat → Int32} {J : Nat → Nat → Int64} {P : Nat} (hP : isP P) (x1 : Int32) : Ev X d 54 (0, [.ref P, .int x1, .null, .null], [], hS u D J) =
    Ev X d 54 (4, [.ref P, .int x1, .int 0, .int 0], [], hS u D J) := by
  rcases hP with rfl | rfl | rfl <;> exact (sy_at X [0, 4] d 54 6 _).trans rfl
set_option maxRecDepth 20000 in
theorem e54_4 {X : XS} {d u : Nat} {D : Nat → Nat → Int32} {J : Nat → Nat → Int64} {P : Nat} (hP : isP P) (x1 : Int32) (x2 : Int32) (x3 : Int32) : Ev X d 54 (4, [.ref P, .int x1, .int x2, .int x3], [], hS u D J) =
    gd (ob x1 12) (br (decide ((D (P + 3) x1.toNatClampNeg) ≤ x3)) (some (.inl (some (.int x2)), hS u D J)) (gd (ob ((x1 * 12) + x3) 144) (Ev X d 54 (4, [.ref P, .int x1, .int (x2 ||| ((1 : Int32) <<< ((D (P + 2) ((x1 * 12) + x3).toNatClampNeg) &&& 31))), .int (x3 + 1)], [], hS u D J)))) := by
  rcases hP with rfl | rfl | rfl <;> exact (sy_at X [0, 4] d 54 23 _).trans rfl
theorem e55_0 {X : XS} {d u : Nat} {D : Nat → Nat → Int32} {J : Nat → Nat → Int64} {P : Nat} (hP : isP P) (x1 : Int32) : Ev X d 55 (0, [.ref P, .int x1, .null, .null], [], hS u D J) =
    Ev X d 55 (4, [.ref P, .int x1, .int 0, .int 0], [], hS u D J) := by
  rcases hP with rfl | rfl | rfl <;> exact (sy_at X [0, 4, 15] d 55 6 _).trans rfl
set_option maxRecDepth 20000 in
theorem e55_4 {X : XS} {d u : Nat} {D : Nat → Nat → Int32} {J : Nat → Nat → Int64} {P : Nat} (hP : isP P) (x1 : Int32) (x2 : Int32) (x3 : Int32) : Ev X (d + 1) 55 (4, [.ref P, .int x1, .int x2, .int x3], [], hS u D J) =
    gd (ob x1 12) (br (decide ((D (P + 3) x1.toNatClampNeg) ≤ x3)) (some (.inl (some (.int x2)), hS u D J)) (bI (EvM X d 56 [.ref P, .int x1, .int x3] (hS u D J)) (fun y h => Ev X (d + 1) 55 (15, [.ref P, .int x1, .int x2, .int x3], [.int y, .int x2], h)) (fun e h => some (.inr e, h)))) := by
  rcases hP with rfl | rfl | rfl <;> exact (sy_at X [0, 4, 15] (d + 1) 55 13 _).trans rfl
theorem e55_15 {X : XS} {d u : Nat} {D : Nat → Nat → Int32} {J : Nat → Nat → Int64} {P : Nat} (hP : isP P) (x1 : Int32) (x2 : Int32) (x3 : Int32) (y0 : Int32) (y1 : Int32) : Ev X d 55 (15, [.ref P, .int x1, .int x2, .int x3], [.int y0, .int y1], hS u D J) =
    Ev X d 55 (4, [.ref P, .int x1, .int (y1 + y0), .int (x3 + 1)], [], hS u D J) := by
  rcases hP with rfl | rfl | rfl <;> exact (sy_at X [0, 4, 15] d 55 6 _).trans rfl
set_option maxRecDepth 20000 in
theorem f56_0 {X : XS} {d u : Nat} {D : Nat → Nat → Int32} {J : Nat → Nat → Int64} {P : Nat} (hP : isP P) (x1 : Int32) (x2 : Int32) : Ev X d 56 (0, [.ref P, .int x1, .int x2], [], hS u D J) =
    gd (ob ((x1 * 12) + x2) 144) (Ev X d 56 (11, [.ref P, .int x1, .int x2], [.int (D (P + 2) ((x1 * 12) + x2).toNatClampNeg), .int 12, .ref (P + 1)], hS u D J)) := by
  rcases hP with rfl | rfl | rfl <;> exact (sy_at X [0, 11, 13] d 56 13 _).trans rfl
theorem f56_11 {X : XS} {d u : Nat} {D : Nat → Nat → Int32} {J : Nat → Nat → Int64} {P : Nat} (hP : isP P) (x1 : Int32) (x2 : Int32) (y0 : Int32) : Ev X d 56 (11, [.ref P, .int x1, .int x2], [.int y0, .int 12, .ref (P + 1)], hS u D J) =
    gd (ob (12 + y0) 73) (Ev X d 56 (13, [.ref P, .int x1, .int x2], [.int (D (P + 1) (12 + y0).toNatClampNeg)], hS u D J)) := by
  rcases hP with rfl | rfl | rfl <;> exact (sy_at X [0, 11, 13] d 56 4 _).trans rfl
theorem f56_13 {X : XS} {d u : Nat} {D : Nat → Nat → Int32} {J : Nat → Nat → Int64} {P : Nat} (hP : isP P) (x1 : Int32) (x2 : Int32) (y0 : Int32) : Ev X d 56 (13, [.ref P, .int x1, .int x2], [.int y0], hS u D J) =
    some (.inl (some (.int y0)), hS u D J) := by
  rcases hP with rfl | rfl | rfl <;> exact (sy_at X [0, 11, 13] d 56 3 _).trans rfl
set_option maxRecDepth 20000 in
theorem e56_0 {X : XS} {d u : Nat} {D : Nat → Nat → Int32} {J : Nat → Nat → Int64} {P : Nat} (hP : isP P) (x1 : Int32) (x2 : Int32) : Ev X d 56 (0, [.ref P, .int x1, .int x2], [], hS u D J) =
    gd (ob ((x1 * 12) + x2) 144) (gd (ob (12 + (D (P + 2) ((x1 * 12) + x2).toNatClampNeg)) 73) (some (.inl (some (.int (D (P + 1) (12 + (D (P + 2) ((x1 * 12) + x2).toNatClampNeg)).toNatClampNeg))), hS u D J))) := by
  refine (f56_0 hP _ _).trans ?_
  simp only [f56_11 hP, f56_13 hP]
theorem e57_0 {X : XS} {d u : Nat} {D : Nat → Nat → Int32} {J : Nat → Nat → Int64} {P : Nat} (hP : isP P) (x1 : Int32) : Ev X d 57 (0, [.ref P, .int x1, .null], [], hS u D J) =
    Ev X d 57 (2, [.ref P, .int x1, .int 1], [], hS u D J) := by
  rcases hP with rfl | rfl | rfl <;> exact (sy_at X [0, 2, 12, 18] d 57 4 _).trans rfl
theorem e57_2 {X : XS} {d u : Nat} {D : Nat → Nat → Int32} {J : Nat → Nat → Int64} {P : Nat} (hP : isP P) (x1 : Int32) (x2 : Int32) : Ev X (d + 1) 57 (2, [.ref P, .int x1, .int x2], [], hS u D J) =
    gd (ob x1 12) (br (decide ((D (P + 3) x1.toNatClampNeg) ≤ x2)) (some (.inl (some (.int 1)), hS u D J)) (bI (EvM X d 56 [.ref P, .int x1, .int x2] (hS u D J)) (fun y h => Ev X (d + 1) 57 (12, [.ref P, .int x1, .int x2], [.int y], h)) (fun e h => some (.inr e, h)))) := by
  rcases hP with rfl | rfl | rfl <;> exact (sy_at X [0, 2, 12, 18] (d + 1) 57 12 _).trans rfl
theorem e57_12 {X : XS} {d u : Nat} {D : Nat → Nat → Int32} {J : Nat → Nat → Int64} {P : Nat} (hP : isP P) (x1 : Int32) (x2 : Int32) (y0 : Int32) : Ev X (d + 1) 57 (12, [.ref P, .int x1, .int x2], [.int y0], hS u D J) =
    bI (EvM X d 56 [.ref P, .int x1, .int (x2 - 1)] (hS u D J)) (fun y h => Ev X (d + 1) 57 (18, [.ref P, .int x1, .int x2], [.int y, .int y0], h)) (fun e h => some (.inr e, h)) := by
  rcases hP with rfl | rfl | rfl <;> exact (sy_at X [0, 2, 12, 18] (d + 1) 57 8 _).trans rfl
theorem e57_18 {X : XS} {d u : Nat} {D : Nat → Nat → Int32} {J : Nat → Nat → Int64} {P : Nat} (hP : isP P) (x1 : Int32) (x2 : Int32) (y0 : Int32) (y1 : Int32) : Ev X d 57 (18, [.ref P, .int x1, .int x2], [.int y0, .int y1], hS u D J) =
    br (decide (y0 ≤ y1)) (Ev X d 57 (2, [.ref P, .int x1, .int (x2 + 1)], [], hS u D J)) (some (.inl (some (.int 0)), hS u D J)) := by
  rcases hP with rfl | rfl | rfl <;> exact (sy_at X [0, 2, 12, 18] d 57 5 _).trans rfl
theorem e58_0 {X : XS} {d u : Nat} {D : Nat → Nat → Int32} {J : Nat → Nat → Int64} {P : Nat} (hP : isP P) (x1 : Int32) : Ev X d 58 (0, [.ref P, .int x1, .null, .null], [], hS u D J) =
    Ev X d 58 (4, [.ref P, .int x1, .int 0, .int 0], [], hS u D J) := by
  rcases hP with rfl | rfl | rfl <;> exact (sy_at X [0, 4] d 58 6 _).trans rfl
set_option maxRecDepth 20000 in
theorem e58_4 {X : XS} {d u : Nat} {D : Nat → Nat → Int32} {J : Nat → Nat → Int64} {P : Nat} (hP : isP P) (x1 : Int32) (x2 : Int32) (x3 : Int32) : Ev X d 58 (4, [.ref P, .int x1, .int x2, .int x3], [], hS u D J) =
    br (decide ((D 3 0) ≤ x3)) (some (.inl (some (.int x2)), hS u D J)) (gd (ob (x1 + x3) 73) (Ev X d 58 (4, [.ref P, .int x1, .int (x2 + (D (P + 1) (x1 + x3).toNatClampNeg)), .int (x3 + 1)], [], hS u D J))) := by
  rcases hP with rfl | rfl | rfl <;> exact (sy_at X [0, 4] d 58 18 _).trans rfl
