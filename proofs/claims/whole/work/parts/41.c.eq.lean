/-! ===== printed by wip/gen/eqparts.py: equations of Acts, Seen, Future, Guesses ===== -/
set_option maxRecDepth 20000 in
theorem e1_0 {X : XS} {d u : Nat} {D : Nat → Nat → Int32} {J : Nat → Nat → Int64} {A : Nat} (hA : isA A) : Ev X d 1 (0, [.ref A, .ref 26, .null], [], hS u D J) =
    gd (decide (¬ (0 : Int32) < 0) && decide (¬ ((((D A 1) + (D A 0)) - ((D A 1) + (D A 0)) / 40 * 40) * 73) < 0) && decide (¬ (73 : Int32) < 0) && Nat.ble (0 + 73) 73 && Nat.ble (((((D A 1) + (D A 0)) - ((D A 1) + (D A 0)) / 40 * 40) * 73).toNatClampNeg + 73) 2920) (br (decide (40 ≤ ((ucp D 26 0 (A + 1) ((((D A 1) + (D A 0)) - ((D A 1) + (D A 0)) / 40 * 40) * 73).toNatClampNeg 73) A 0))) (some (.inl none, hS u (ud (ucp D 26 0 (A + 1) ((((D A 1) + (D A 0)) - ((D A 1) + (D A 0)) / 40 * 40) * 73).toNatClampNeg 73) A 1 ((((ucp D 26 0 (A + 1) ((((D A 1) + (D A 0)) - ((D A 1) + (D A 0)) / 40 * 40) * 73).toNatClampNeg 73) A 1) + 1) - (((ucp D 26 0 (A + 1) ((((D A 1) + (D A 0)) - ((D A 1) + (D A 0)) / 40 * 40) * 73).toNatClampNeg 73) A 1) + 1) / 40 * 40)) J)) (some (.inl none, hS u (ud (ucp D 26 0 (A + 1) ((((D A 1) + (D A 0)) - ((D A 1) + (D A 0)) / 40 * 40) * 73).toNatClampNeg 73) A 0 (((ucp D 26 0 (A + 1) ((((D A 1) + (D A 0)) - ((D A 1) + (D A 0)) / 40 * 40) * 73).toNatClampNeg 73) A 0) + 1)) J))) := by
  rcases hA with rfl | rfl <;> exact (sy_at X [0] d 1 32 _).trans rfl
set_option maxRecDepth 20000 in
theorem e2_0 {X : XS} {d u : Nat} {D : Nat → Nat → Int32} {J : Nat → Nat → Int64} {A : Nat} (hA : isA A) : Ev X d 2 (0, [.ref A, .ref 26, .null], [], hS u D J) =
    br (decide (¬ (D A 0) = 0)) (gd (decide (¬ (((((ud D A 0 ((D A 0) - 1)) A 1) + ((ud D A 0 ((D A 0) - 1)) A 0)) - (((ud D A 0 ((D A 0) - 1)) A 1) + ((ud D A 0 ((D A 0) - 1)) A 0)) / 40 * 40) * 73) < 0) && decide (¬ (0 : Int32) < 0) && decide (¬ (73 : Int32) < 0) && Nat.ble ((((((ud D A 0 ((D A 0) - 1)) A 1) + ((ud D A 0 ((D A 0) - 1)) A 0)) - (((ud D A 0 ((D A 0) - 1)) A 1) + ((ud D A 0 ((D A 0) - 1)) A 0)) / 40 * 40) * 73).toNatClampNeg + 73) 2920 && Nat.ble (0 + 73) 73) (some (.inl (some (.int 1)), hS u (ucp (ud D A 0 ((D A 0) - 1)) (A + 1) (((((ud D A 0 ((D A 0) - 1)) A 1) + ((ud D A 0 ((D A 0) - 1)) A 0)) - (((ud D A 0 ((D A 0) - 1)) A 1) + ((ud D A 0 ((D A 0) - 1)) A 0)) / 40 * 40) * 73).toNatClampNeg 26 0 73) J))) (some (.inl (some (.int 0)), hS u D J)) := by
  rcases hA with rfl | rfl <;> exact (sy_at X [0] d 2 30 _).trans rfl
set_option maxRecDepth 20000 in
theorem e3_0 {X : XS} {d u : Nat} {D : Nat → Nat → Int32} {J : Nat → Nat → Int64} {A : Nat} (hA : isA A) {B : Nat} (hB : isA B) : Ev X d 3 (0, [.ref A, .ref B], [], hS u D J) =
    some (.inl none, hS u (ucp (ud (ud D A 0 (D B 0)) A 1 ((ud D A 0 (D B 0)) B 1)) (B + 1) 0 (A + 1) 0 2920) J) := by
  rcases hA with rfl | rfl <;> rcases hB with rfl | rfl <;> exact (sy_at X [0] d 3 21 _).trans rfl
theorem f95_0 {X : XS} {d u : Nat} {D : Nat → Nat → Int32} {J : Nat → Nat → Int64} {S : Nat} (hSs : isS S) (x1 : Int32) (x2 : Int32) (x3 : Int32) : Ev X d 95 (0, [.ref S, .int x1, .int x2, .int x3], [], hS u D J) =
    br (decide (8 ≤ (D S 0))) (some (.inl none, hS u D J)) (gd (ob (D S 0) 8) (Ev X d 95 (10, [.ref S, .int x1, .int x2, .int x3], [], hS u (ud D (S + 1) (D S 0).toNatClampNeg x1) J))) := by
  rcases hSs with rfl | rfl <;> exact (sy_at X [0, 10, 16, 22] d 95 12 _).trans rfl
theorem f95_10 {X : XS} {d u : Nat} {D : Nat → Nat → Int32} {J : Nat → Nat → Int64} {S : Nat} (hSs : isS S) (x1 : Int32) (x2 : Int32) (x3 : Int32) : Ev X d 95 (10, [.ref S, .int x1, .int x2, .int x3], [], hS u D J) =
    gd (ob (D S 0) 8) (Ev X d 95 (16, [.ref S, .int x1, .int x2, .int x3], [], hS u (ud D (S + 2) (D S 0).toNatClampNeg x2) J)) := by
  rcases hSs with rfl | rfl <;> exact (sy_at X [0, 10, 16, 22] d 95 8 _).trans rfl
theorem f95_16 {X : XS} {d u : Nat} {D : Nat → Nat → Int32} {J : Nat → Nat → Int64} {S : Nat} (hSs : isS S) (x1 : Int32) (x2 : Int32) (x3 : Int32) : Ev X d 95 (16, [.ref S, .int x1, .int x2, .int x3], [], hS u D J) =
    gd (ob (D S 0) 8) (Ev X d 95 (22, [.ref S, .int x1, .int x2, .int x3], [], hS u (ud D (S + 3) (D S 0).toNatClampNeg x3) J)) := by
  rcases hSs with rfl | rfl <;> exact (sy_at X [0, 10, 16, 22] d 95 8 _).trans rfl
theorem f95_22 {X : XS} {d u : Nat} {D : Nat → Nat → Int32} {J : Nat → Nat → Int64} {S : Nat} (hSs : isS S) (x1 : Int32) (x2 : Int32) (x3 : Int32) : Ev X d 95 (22, [.ref S, .int x1, .int x2, .int x3], [], hS u D J) =
    some (.inl none, hS u (ud D S 0 ((D S 0) + 1)) J) := by
  rcases hSs with rfl | rfl <;> exact (sy_at X [0, 10, 16, 22] d 95 9 _).trans rfl
set_option maxRecDepth 20000 in
theorem e95_0 {X : XS} {d u : Nat} {D : Nat → Nat → Int32} {J : Nat → Nat → Int64} {S : Nat} (hSs : isS S) (x1 : Int32) (x2 : Int32) (x3 : Int32) : Ev X d 95 (0, [.ref S, .int x1, .int x2, .int x3], [], hS u D J) =
    br (decide (8 ≤ (D S 0))) (some (.inl none, hS u D J)) (gd (ob (D S 0) 8) (gd (ob ((ud D (S + 1) (D S 0).toNatClampNeg x1) S 0) 8) (gd (ob ((ud (ud D (S + 1) (D S 0).toNatClampNeg x1) (S + 2) ((ud D (S + 1) (D S 0).toNatClampNeg x1) S 0).toNatClampNeg x2) S 0) 8) (some (.inl none, hS u (ud (ud (ud (ud D (S + 1) (D S 0).toNatClampNeg x1) (S + 2) ((ud D (S + 1) (D S 0).toNatClampNeg x1) S 0).toNatClampNeg x2) (S + 3) ((ud (ud D (S + 1) (D S 0).toNatClampNeg x1) (S + 2) ((ud D (S + 1) (D S 0).toNatClampNeg x1) S 0).toNatClampNeg x2) S 0).toNatClampNeg x3) S 0 (((ud (ud (ud D (S + 1) (D S 0).toNatClampNeg x1) (S + 2) ((ud D (S + 1) (D S 0).toNatClampNeg x1) S 0).toNatClampNeg x2) (S + 3) ((ud (ud D (S + 1) (D S 0).toNatClampNeg x1) (S + 2) ((ud D (S + 1) (D S 0).toNatClampNeg x1) S 0).toNatClampNeg x2) S 0).toNatClampNeg x3) S 0) + 1)) J))))) := by
  refine (f95_0 hSs _ _ _).trans ?_
  simp only [f95_10 hSs, f95_16 hSs, f95_22 hSs]
theorem e96_0 {X : XS} {d u : Nat} {D : Nat → Nat → Int32} {J : Nat → Nat → Int64} {S : Nat} (hSs : isS S) : Ev X d 96 (0, [.ref S, .null, .null], [], hS u D J) =
    Ev X d 96 (4, [.ref S, .int (-1), .int 0], [], hS u D J) := by
  rcases hSs with rfl | rfl <;> exact (sy_at X [0, 4] d 96 6 _).trans rfl
set_option maxRecDepth 20000 in
theorem e96_4 {X : XS} {d u : Nat} {D : Nat → Nat → Int32} {J : Nat → Nat → Int64} {S : Nat} (hSs : isS S) (x1 : Int32) (x2 : Int32) : Ev X d 96 (4, [.ref S, .int x1, .int x2], [], hS u D J) =
    br (decide ((D S 0) ≤ x2)) (some (.inl (some (.int x1)), hS u D J)) (gd (ob x2 8) (Ev X d 96 (4, [.ref S, .int (if x1 < (D (S + 2) x2.toNatClampNeg) then (D (S + 2) x2.toNatClampNeg) else x1), .int (x2 + 1)], [], hS u D J))) := by
  rcases hSs with rfl | rfl <;> exact (sy_at X [0, 4] d 96 15 _).trans rfl
theorem e97_0 {X : XS} {d u : Nat} {D : Nat → Nat → Int32} {J : Nat → Nat → Int64} {S : Nat} (hSs : isS S) (x2 : Int32) : Ev X d 97 (0, [.ref S, .ref 31, .int x2, .null], [], hS u D J) =
    Ev X d 97 (2, [.ref S, .ref 31, .int x2, .int 0], [], hS u D J) := by
  rcases hSs with rfl | rfl <;> exact (sy_at X [0, 2, 22] d 97 4 _).trans rfl
theorem f97_2 {X : XS} {d u : Nat} {D : Nat → Nat → Int32} {J : Nat → Nat → Int64} {S : Nat} (hSs : isS S) (x2 : Int32) (x3 : Int32) : Ev X d 97 (2, [.ref S, .ref 31, .int x2, .int x3], [], hS u D J) =
    br (decide ((D S 0) ≤ x3)) (some (.inl (some (.int 1)), hS u D J)) (gd (ob x3 8) (Ev X d 97 (10, [.ref S, .ref 31, .int x2, .int x3], [.int (D (S + 2) x3.toNatClampNeg)], hS u D J))) := by
  rcases hSs with rfl | rfl <;> exact (sy_at X [0, 2, 10, 19, 21, 22] d 97 10 _).trans rfl
theorem f97_10 {X : XS} {d u : Nat} {D : Nat → Nat → Int32} {J : Nat → Nat → Int64} {S : Nat} (hSs : isS S) (x2 : Int32) (x3 : Int32) (y0 : Int32) : Ev X d 97 (10, [.ref S, .ref 31, .int x2, .int x3], [.int y0], hS u D J) =
    br (decide (¬ y0 = x2)) (Ev X d 97 (2, [.ref S, .ref 31, .int x2, .int (x3 + 1)], [], hS u D J)) (gd (ob x3 8) (Ev X d 97 (19, [.ref S, .ref 31, .int x2, .int x3], [.int (D (S + 1) x3.toNatClampNeg), .int 0, .ref 32], hS u D J))) := by
  rcases hSs with rfl | rfl <;> exact (sy_at X [0, 2, 10, 19, 21, 22] d 97 11 _).trans rfl
theorem f97_19 {X : XS} {d u : Nat} {D : Nat → Nat → Int32} {J : Nat → Nat → Int64} {S : Nat} (hSs : isS S) (x2 : Int32) (x3 : Int32) (y0 : Int32) : Ev X d 97 (19, [.ref S, .ref 31, .int x2, .int x3], [.int y0, .int 0, .ref 32], hS u D J) =
    gd (ob (0 + y0) 73) (Ev X d 97 (21, [.ref S, .ref 31, .int x2, .int x3], [.int (D 32 (0 + y0).toNatClampNeg)], hS u D J)) := by
  rcases hSs with rfl | rfl <;> exact (sy_at X [0, 2, 10, 19, 21, 22] d 97 4 _).trans rfl
theorem f97_21 {X : XS} {d u : Nat} {D : Nat → Nat → Int32} {J : Nat → Nat → Int64} {S : Nat} (hSs : isS S) (x2 : Int32) (x3 : Int32) (y0 : Int32) : Ev X (d + 1) 97 (21, [.ref S, .ref 31, .int x2, .int x3], [.int y0], hS u D J) =
    bI (EvM X d 167 [.int y0] (hS u D J)) (fun y h => Ev X (d + 1) 97 (22, [.ref S, .ref 31, .int x2, .int x3], [.int y], h)) (fun e h => none) := by
  rcases hSs with rfl | rfl <;> exact (sy_at X [0, 2, 10, 19, 21, 22] (d + 1) 97 3 _).trans rfl
set_option maxRecDepth 20000 in
theorem e97_2 {X : XS} {d u : Nat} {D : Nat → Nat → Int32} {J : Nat → Nat → Int64} {S : Nat} (hSs : isS S) (x2 : Int32) (x3 : Int32) : Ev X (d + 1) 97 (2, [.ref S, .ref 31, .int x2, .int x3], [], hS u D J) =
    br (decide ((D S 0) ≤ x3)) (some (.inl (some (.int 1)), hS u D J)) (gd (ob x3 8) (br (decide (¬ (D (S + 2) x3.toNatClampNeg) = x2)) (Ev X (d + 1) 97 (2, [.ref S, .ref 31, .int x2, .int (x3 + 1)], [], hS u D J)) (gd (ob x3 8) (gd (ob (0 + (D (S + 1) x3.toNatClampNeg)) 73) (bI (EvM X d 167 [.int (D 32 (0 + (D (S + 1) x3.toNatClampNeg)).toNatClampNeg)] (hS u D J)) (fun y h => Ev X (d + 1) 97 (22, [.ref S, .ref 31, .int x2, .int x3], [.int y], h)) (fun e h => none)))))) := by
  refine (f97_2 hSs _ _).trans ?_
  simp only [f97_10 hSs, f97_19 hSs, f97_21 hSs]
theorem e97_22 {X : XS} {d u : Nat} {D : Nat → Nat → Int32} {J : Nat → Nat → Int64} {S : Nat} (hSs : isS S) (x2 : Int32) (x3 : Int32) (y0 : Int32) : Ev X d 97 (22, [.ref S, .ref 31, .int x2, .int x3], [.int y0], hS u D J) =
    gd (ob x3 8) (br (decide (y0 = (D (S + 3) x3.toNatClampNeg))) (Ev X d 97 (2, [.ref S, .ref 31, .int x2, .int (x3 + 1)], [], hS u D J)) (some (.inl (some (.int 0)), hS u D J))) := by
  rcases hSs with rfl | rfl <;> exact (sy_at X [0, 2, 22] d 97 9 _).trans rfl
set_option maxRecDepth 20000 in
theorem e98_0 {X : XS} {d u : Nat} {D : Nat → Nat → Int32} {J : Nat → Nat → Int64} {S : Nat} (hSs : isS S) {T : Nat} (hT : isS T) : Ev X d 98 (0, [.ref S, .ref T], [], hS u D J) =
    some (.inl none, hS u (ucp (ucp (ucp (ud D S 0 (D T 0)) (T + 1) 0 (S + 1) 0 8) (T + 2) 0 (S + 2) 0 8) (T + 3) 0 (S + 3) 0 8) J) := by
  rcases hSs with rfl | rfl <;> rcases hT with rfl | rfl <;> exact (sy_at X [0] d 98 31 _).trans rfl
set_option maxRecDepth 20000 in
theorem e10_0 {X : XS} {d u : Nat} {D : Nat → Nat → Int32} {J : Nat → Nat → Int64} (x1 : Int32) : Ev X (d + 1) 10 (0, [.ref 37, .int x1, .null, .null], [], hS u D J) =
    br (decide (¬ (D 37 0) = (-1))) (Ev X (d + 1) 10 (16, [.ref 37, .int x1, .int (if 200 < x1 then 200 else x1), .null], [], hS u D J)) (bV (EvM X d 36 [.ref 38, .ref 25] (hS u D J)) (fun h => Ev X (d + 1) 10 (13, [.ref 37, .int x1, .int (if 200 < x1 then 200 else x1), .null], [], h)) (fun e h => some (.inr e, h))) := (sy_at X [0, 13, 16, 21, 28, 31] (d + 1) 10 15 _).trans rfl
theorem e10_13 {X : XS} {d u : Nat} {D : Nat → Nat → Int32} {J : Nat → Nat → Int64} (x1 : Int32) (x2 : Int32) : Ev X (d + 1) 10 (13, [.ref 37, .int x1, .int x2, .null], [], hS u D J) =
    bV (EvM X d 11 [.ref 37, .int 0] (hS u D J)) (fun h => Ev X (d + 1) 10 (16, [.ref 37, .int x1, .int x2, .null], [], h)) (fun e h => some (.inr e, h)) := (sy_at X [0, 13, 16, 21, 28, 31] (d + 1) 10 5 _).trans rfl
theorem e10_16 {X : XS} {d u : Nat} {D : Nat → Nat → Int32} {J : Nat → Nat → Int64} (x1 : Int32) (x2 : Int32) : Ev X d 10 (16, [.ref 37, .int x1, .int x2, .null], [], hS u D J) =
    Ev X d 10 (21, [.ref 37, .int x1, .int x2, .int ((D 37 0) + 1)], [], hS u D J) := (sy_at X [0, 13, 16, 21, 28, 31] d 10 7 _).trans rfl
theorem e10_21 {X : XS} {d u : Nat} {D : Nat → Nat → Int32} {J : Nat → Nat → Int64} (x1 : Int32) (x2 : Int32) (x3 : Int32) : Ev X (d + 1) 10 (21, [.ref 37, .int x1, .int x2, .int x3], [], hS u D J) =
    br (decide (x2 < x3)) (some (.inl none, hS u D J)) (bV (EvM X d 51 [.ref 38, .int 0] (hS u D J)) (fun h => Ev X (d + 1) 10 (28, [.ref 37, .int x1, .int x2, .int x3], [], h)) (fun e h => some (.inr e, h))) := (sy_at X [0, 13, 16, 21, 28, 31] (d + 1) 10 9 _).trans rfl
theorem e10_28 {X : XS} {d u : Nat} {D : Nat → Nat → Int32} {J : Nat → Nat → Int64} (x1 : Int32) (x2 : Int32) (x3 : Int32) : Ev X (d + 1) 10 (28, [.ref 37, .int x1, .int x2, .int x3], [], hS u D J) =
    bV (EvM X d 11 [.ref 37, .int x3] (hS u D J)) (fun h => Ev X (d + 1) 10 (31, [.ref 37, .int x1, .int x2, .int x3], [], h)) (fun e h => some (.inr e, h)) := (sy_at X [0, 13, 16, 21, 28, 31] (d + 1) 10 5 _).trans rfl
theorem e10_31 {X : XS} {d u : Nat} {D : Nat → Nat → Int32} {J : Nat → Nat → Int64} (x1 : Int32) (x2 : Int32) (x3 : Int32) : Ev X d 10 (31, [.ref 37, .int x1, .int x2, .int x3], [], hS u D J) =
    Ev X d 10 (21, [.ref 37, .int x1, .int x2, .int (x3 + 1)], [], hS u D J) := (sy_at X [0, 13, 16, 21, 28, 31] d 10 4 _).trans rfl
set_option maxRecDepth 20000 in
theorem f11_0 {X : XS} {d u : Nat} {D : Nat → Nat → Int32} {J : Nat → Nat → Int64} (x1 : Int32) : Ev X d 11 (0, [.ref 37, .int x1], [], hS u D J) =
    gd (decide (¬ (0 : Int32) < 0) && decide (¬ (x1 * 12) < 0) && decide (¬ (12 : Int32) < 0) && Nat.ble (0 + 12) 73 && Nat.ble ((x1 * 12).toNatClampNeg + 12) 2412) (Ev X d 11 (11, [.ref 37, .int x1], [], hS u (ucp D 39 0 44 (x1 * 12).toNatClampNeg 12) J)) := (sy_at X [0, 11, 22] d 11 13 _).trans rfl
set_option maxRecDepth 20000 in
theorem f11_11 {X : XS} {d u : Nat} {D : Nat → Nat → Int32} {J : Nat → Nat → Int64} (x1 : Int32) : Ev X d 11 (11, [.ref 37, .int x1], [], hS u D J) =
    gd (decide (¬ (24 : Int32) < 0) && decide (¬ (x1 * 12) < 0) && decide (¬ (12 : Int32) < 0) && Nat.ble (24 + 12) 73 && Nat.ble ((x1 * 12).toNatClampNeg + 12) 2412) (Ev X d 11 (22, [.ref 37, .int x1], [], hS u (ucp D 39 24 45 (x1 * 12).toNatClampNeg 12) J)) := (sy_at X [0, 11, 22] d 11 13 _).trans rfl
theorem f11_22 {X : XS} {d u : Nat} {D : Nat → Nat → Int32} {J : Nat → Nat → Int64} (x1 : Int32) : Ev X d 11 (22, [.ref 37, .int x1], [], hS u D J) =
    some (.inl none, hS u (ud D 37 0 x1) J) := (sy_at X [0, 11, 22] d 11 6 _).trans rfl
set_option maxRecDepth 20000 in
theorem e11_0 {X : XS} {d u : Nat} {D : Nat → Nat → Int32} {J : Nat → Nat → Int64} (x1 : Int32) : Ev X d 11 (0, [.ref 37, .int x1], [], hS u D J) =
    gd (decide (¬ (0 : Int32) < 0) && decide (¬ (x1 * 12) < 0) && decide (¬ (12 : Int32) < 0) && Nat.ble (0 + 12) 73 && Nat.ble ((x1 * 12).toNatClampNeg + 12) 2412) (gd (decide (¬ (24 : Int32) < 0) && decide (¬ (x1 * 12) < 0) && decide (¬ (12 : Int32) < 0) && Nat.ble (24 + 12) 73 && Nat.ble ((x1 * 12).toNatClampNeg + 12) 2412) (some (.inl none, hS u (ud (ucp (ucp D 39 0 44 (x1 * 12).toNatClampNeg 12) 39 24 45 (x1 * 12).toNatClampNeg 12) 37 0 x1) J))) := by
  refine (f11_0 _).trans ?_
  simp only [f11_11, f11_22]
theorem e12_0 {X : XS} {d u : Nat} {D : Nat → Nat → Int32} {J : Nat → Nat → Int64} (x1 : Int32) (x2 : Int32) : Ev X (d + 1) 12 (0, [.ref 37, .int x1, .int x2], [], hS u D J) =
    gd (ob ((x1 * 12) + x2) 2412) (bI (EvM X d 167 [.int (D 44 ((x1 * 12) + x2).toNatClampNeg)] (hS u D J)) (fun y h => Ev X (d + 1) 12 (9, [.ref 37, .int x1, .int x2], [.int y], h)) (fun e h => none)) := (sy_at X [0, 9] (d + 1) 12 11 _).trans rfl
theorem e12_9 {X : XS} {d u : Nat} {D : Nat → Nat → Int32} {J : Nat → Nat → Int64} (x1 : Int32) (x2 : Int32) (y0 : Int32) : Ev X d 12 (9, [.ref 37, .int x1, .int x2], [.int y0], hS u D J) =
    some (.inl (some (.int y0)), hS u D J) := (sy_at X [0, 9] d 12 3 _).trans rfl
theorem e13_0 {X : XS} {d u : Nat} {D : Nat → Nat → Int32} {J : Nat → Nat → Int64} (x1 : Int32) (x2 : Int32) : Ev X d 13 (0, [.ref 37, .int x1, .int x2, .null, .null], [], hS u D J) =
    Ev X d 13 (4, [.ref 37, .int x1, .int x2, .int 0, .int 1], [], hS u D J) := (sy_at X [0, 4] d 13 6 _).trans rfl
set_option maxRecDepth 20000 in
theorem e13_4 {X : XS} {d u : Nat} {D : Nat → Nat → Int32} {J : Nat → Nat → Int64} (x1 : Int32) (x2 : Int32) (x3 : Int32) (x4 : Int32) : Ev X d 13 (4, [.ref 37, .int x1, .int x2, .int x3, .int x4], [], hS u D J) =
    br (decide (x2 < x4)) (some (.inl (some (.int x3)), hS u D J)) (gd (ob ((x4 * 12) + x1) 2412) (Ev X d 13 (4, [.ref 37, .int x1, .int x2, .int (x3 + (D 45 ((x4 * 12) + x1).toNatClampNeg)), .int (x4 + 1)], [], hS u D J))) := (sy_at X [0, 4] d 13 18 _).trans rfl
theorem e14_0 {X : XS} {d u : Nat} {D : Nat → Nat → Int32} {J : Nat → Nat → Int64} (x1 : Int32) : Ev X d 14 (0, [.ref 37, .int x1, .null, .null], [], hS u D J) =
    Ev X d 14 (4, [.ref 37, .int x1, .int 0, .int 0], [], hS u D J) := (sy_at X [0, 4] d 14 6 _).trans rfl
set_option maxRecDepth 20000 in
theorem e14_4 {X : XS} {d u : Nat} {D : Nat → Nat → Int32} {J : Nat → Nat → Int64} (x1 : Int32) (x2 : Int32) (x3 : Int32) : Ev X d 14 (4, [.ref 37, .int x1, .int x2, .int x3], [], hS u D J) =
    br (decide (12 ≤ x3)) (some (.inl (some (.int x2)), hS u D J)) (gd (ob ((x1 * 12) + x3) 2412) (Ev X d 14 (4, [.ref 37, .int x1, .int (x2 + (D 45 ((x1 * 12) + x3).toNatClampNeg)), .int (x3 + 1)], [], hS u D J))) := (sy_at X [0, 4] d 14 18 _).trans rfl
theorem e15_0 {X : XS} {d u : Nat} {D : Nat → Nat → Int32} {J : Nat → Nat → Int64} (x1 : Int32) : Ev X d 15 (0, [.ref 37, .int x1, .null, .null], [], hS u D J) =
    Ev X d 15 (4, [.ref 37, .int x1, .int 0, .int 0], [], hS u D J) := (sy_at X [0, 4] d 15 6 _).trans rfl
set_option maxRecDepth 20000 in
theorem e15_4 {X : XS} {d u : Nat} {D : Nat → Nat → Int32} {J : Nat → Nat → Int64} (x1 : Int32) (x2 : Int32) (x3 : Int32) : Ev X d 15 (4, [.ref 37, .int x1, .int x2, .int x3], [], hS u D J) =
    br (decide (12 ≤ x3)) (some (.inl (some (.int x2)), hS u D J)) (gd (ob ((x1 * 12) + x3) 2412) (br (decide ((D 44 ((x1 * 12) + x3).toNatClampNeg) = (-1))) (Ev X d 15 (4, [.ref 37, .int x1, .int x2, .int (x3 + 1)], [], hS u D J)) (Ev X d 15 (4, [.ref 37, .int x1, .int (x2 ||| ((1 : Int32) <<< (x3 &&& 31))), .int (x3 + 1)], [], hS u D J)))) := (sy_at X [0, 4] d 15 23 _).trans rfl
theorem e16_0 {X : XS} {d u : Nat} {D : Nat → Nat → Int32} {J : Nat → Nat → Int64} (x1 : Int32) : Ev X d 16 (0, [.ref 37, .int x1, .null, .null, .null], [], hS u D J) =
    Ev X d 16 (6, [.ref 37, .int x1, .int (-1), .int (-1), .int 0], [], hS u D J) := (sy_at X [0, 6] d 16 8 _).trans rfl
set_option maxRecDepth 20000 in
theorem e16_6 {X : XS} {d u : Nat} {D : Nat → Nat → Int32} {J : Nat → Nat → Int64} (x1 : Int32) (x2 : Int32) (x3 : Int32) (x4 : Int32) : Ev X d 16 (6, [.ref 37, .int x1, .int x2, .int x3, .int x4], [], hS u D J) =
    br (decide (12 ≤ x4)) (some (.inl (some (.int x3)), hS u D J)) (gd (ob ((x1 * 12) + x4) 2412) (br (decide ((D 44 ((x1 * 12) + x4).toNatClampNeg) ≤ x2)) (Ev X d 16 (6, [.ref 37, .int x1, .int x2, .int x3, .int (x4 + 1)], [], hS u D J)) (gd (ob ((x1 * 12) + x4) 2412) (Ev X d 16 (6, [.ref 37, .int x1, .int (D 44 ((x1 * 12) + x4).toNatClampNeg), .int x4, .int (x4 + 1)], [], hS u D J))))) := (sy_at X [0, 6] d 16 28 _).trans rfl
theorem e17_0 {X : XS} {d u : Nat} {D : Nat → Nat → Int32} {J : Nat → Nat → Int64} (x1 : Int32) : Ev X (d + 1) 17 (0, [.ref 37, .int x1, .null], [], hS u D J) =
    bI (EvM X d 16 [.ref 37, .int x1] (hS u D J)) (fun y h => Ev X (d + 1) 17 (3, [.ref 37, .int x1, .null], [.int y], h)) (fun e h => some (.inr e, h)) := (sy_at X [0, 3, 13] (d + 1) 17 5 _).trans rfl
theorem e17_3 {X : XS} {d u : Nat} {D : Nat → Nat → Int32} {J : Nat → Nat → Int64} (x1 : Int32) (y0 : Int32) : Ev X (d + 1) 17 (3, [.ref 37, .int x1, .null], [.int y0], hS u D J) =
    br (decide (¬ y0 = (-1))) (bI (EvM X d 12 [.ref 37, .int x1, .int y0] (hS u D J)) (fun y h => Ev X (d + 1) 17 (13, [.ref 37, .int x1, .int y0], [.int y], h)) (fun e h => some (.inr e, h))) (some (.inl (some (.int 0)), hS u D J)) := (sy_at X [0, 3, 13] (d + 1) 17 10 _).trans rfl
theorem e17_13 {X : XS} {d u : Nat} {D : Nat → Nat → Int32} {J : Nat → Nat → Int64} (x1 : Int32) (x2 : Int32) (y0 : Int32) : Ev X d 17 (13, [.ref 37, .int x1, .int x2], [.int y0], hS u D J) =
    some (.inl (some (.int (y0 + 1))), hS u D J) := (sy_at X [0, 3, 13] d 17 5 _).trans rfl
theorem f18_0 {X : XS} {d u : Nat} {D : Nat → Nat → Int32} {J : Nat → Nat → Int64} (x1 : Int32) (x2 : Int32) (x3 : Int32) : Ev X d 18 (0, [.ref 37, .int x1, .int x2, .int x3, .null, .null], [], hS u D J) =
    gd (ob ((x1 * 12) + x2) 2412) (Ev X d 18 (8, [.ref 37, .int x1, .int x2, .int x3, .null, .null], [.int (D 44 ((x1 * 12) + x2).toNatClampNeg)], hS u D J)) := (sy_at X [0, 8, 17, 26, 28] d 18 10 _).trans rfl
theorem f18_8 {X : XS} {d u : Nat} {D : Nat → Nat → Int32} {J : Nat → Nat → Int64} (x1 : Int32) (x2 : Int32) (x3 : Int32) (y0 : Int32) : Ev X d 18 (8, [.ref 37, .int x1, .int x2, .int x3, .null, .null], [.int y0], hS u D J) =
    gd (ob ((x1 * 12) + x3) 2412) (Ev X d 18 (17, [.ref 37, .int x1, .int x2, .int x3, .int y0, .null], [.int (D 44 ((x1 * 12) + x3).toNatClampNeg)], hS u D J)) := (sy_at X [0, 8, 17, 26, 28] d 18 11 _).trans rfl
theorem f18_17 {X : XS} {d u : Nat} {D : Nat → Nat → Int32} {J : Nat → Nat → Int64} (x1 : Int32) (x2 : Int32) (x3 : Int32) (x4 : Int32) (y0 : Int32) : Ev X (d + 1) 18 (17, [.ref 37, .int x1, .int x2, .int x3, .int x4, .null], [.int y0], hS u D J) =
    br (decide (x4 = (-1))) (some (.inl (some (.int 0)), hS u D J)) (br (decide (y0 = (-1))) (some (.inl (some (.int 0)), hS u D J)) (bI (EvM X d 167 [.int x4] (hS u D J)) (fun y h => Ev X (d + 1) 18 (26, [.ref 37, .int x1, .int x2, .int x3, .int x4, .int y0], [.int y], h)) (fun e h => none))) := (sy_at X [0, 8, 17, 26, 28] (d + 1) 18 11 _).trans rfl
set_option maxRecDepth 20000 in
theorem e18_0 {X : XS} {d u : Nat} {D : Nat → Nat → Int32} {J : Nat → Nat → Int64} (x1 : Int32) (x2 : Int32) (x3 : Int32) : Ev X (d + 1) 18 (0, [.ref 37, .int x1, .int x2, .int x3, .null, .null], [], hS u D J) =
    gd (ob ((x1 * 12) + x2) 2412) (gd (ob ((x1 * 12) + x3) 2412) (br (decide ((D 44 ((x1 * 12) + x2).toNatClampNeg) = (-1))) (some (.inl (some (.int 0)), hS u D J)) (br (decide ((D 44 ((x1 * 12) + x3).toNatClampNeg) = (-1))) (some (.inl (some (.int 0)), hS u D J)) (bI (EvM X d 167 [.int (D 44 ((x1 * 12) + x2).toNatClampNeg)] (hS u D J)) (fun y h => Ev X (d + 1) 18 (26, [.ref 37, .int x1, .int x2, .int x3, .int (D 44 ((x1 * 12) + x2).toNatClampNeg), .int (D 44 ((x1 * 12) + x3).toNatClampNeg)], [.int y], h)) (fun e h => none))))) := by
  refine (f18_0 _ _ _).trans ?_
  simp only [f18_8, f18_17]
theorem e18_26 {X : XS} {d u : Nat} {D : Nat → Nat → Int32} {J : Nat → Nat → Int64} (x1 : Int32) (x2 : Int32) (x3 : Int32) (x4 : Int32) (x5 : Int32) (y0 : Int32) : Ev X (d + 1) 18 (26, [.ref 37, .int x1, .int x2, .int x3, .int x4, .int x5], [.int y0], hS u D J) =
    bI (EvM X d 167 [.int x5] (hS u D J)) (fun y h => Ev X (d + 1) 18 (28, [.ref 37, .int x1, .int x2, .int x3, .int x4, .int x5], [.int y, .int y0], h)) (fun e h => none) := (sy_at X [0, 26, 28] (d + 1) 18 4 _).trans rfl
theorem e18_28 {X : XS} {d u : Nat} {D : Nat → Nat → Int32} {J : Nat → Nat → Int64} (x1 : Int32) (x2 : Int32) (x3 : Int32) (x4 : Int32) (x5 : Int32) (y0 : Int32) (y1 : Int32) : Ev X d 18 (28, [.ref 37, .int x1, .int x2, .int x3, .int x4, .int x5], [.int y0, .int y1], hS u D J) =
    br (decide (¬ y1 = y0)) (some (.inl (some (.int 0)), hS u D J)) (br (decide (¬ (if 0 ≤ (x4 - x5) then (x4 - x5) else 0 - (x4 - x5)) = 1)) (some (.inl (some (.int 0)), hS u D J)) (some (.inl (some (.int 1)), hS u D J))) := (sy_at X [0, 26, 28] d 18 12 _).trans rfl
theorem e19_0 {X : XS} {d u : Nat} {D : Nat → Nat → Int32} {J : Nat → Nat → Int64} (x1 : Int32) : Ev X d 19 (0, [.ref 37, .int x1, .null], [], hS u D J) =
    Ev X d 19 (2, [.ref 37, .int x1, .int 0], [], hS u D J) := (sy_at X [0, 2] d 19 4 _).trans rfl
set_option maxRecDepth 20000 in
theorem f19_2 {X : XS} {d u : Nat} {D : Nat → Nat → Int32} {J : Nat → Nat → Int64} (x1 : Int32) (x2 : Int32) : Ev X d 19 (2, [.ref 37, .int x1, .int x2], [], hS u D J) =
    br (decide (12 ≤ x2)) (some (.inl (some (.int 1)), hS u D J)) (gd (ob ((x1 * 12) + x2) 2412) (Ev X d 19 (13, [.ref 37, .int x1, .int x2], [.int (D 44 ((x1 * 12) + x2).toNatClampNeg)], hS u D J))) := (sy_at X [0, 2, 13, 17] d 19 13 _).trans rfl
theorem f19_13 {X : XS} {d u : Nat} {D : Nat → Nat → Int32} {J : Nat → Nat → Int64} (x1 : Int32) (x2 : Int32) (y0 : Int32) : Ev X d 19 (13, [.ref 37, .int x1, .int x2], [.int y0], hS u D J) =
    gd (ob x2 2412) (Ev X d 19 (17, [.ref 37, .int x1, .int x2], [.int (D 44 x2.toNatClampNeg), .int y0], hS u D J)) := (sy_at X [0, 2, 13, 17] d 19 6 _).trans rfl
theorem f19_17 {X : XS} {d u : Nat} {D : Nat → Nat → Int32} {J : Nat → Nat → Int64} (x1 : Int32) (x2 : Int32) (y0 : Int32) (y1 : Int32) : Ev X d 19 (17, [.ref 37, .int x1, .int x2], [.int y0, .int y1], hS u D J) =
    br (decide (y1 = y0)) (Ev X d 19 (2, [.ref 37, .int x1, .int (x2 + 1)], [], hS u D J)) (some (.inl (some (.int 0)), hS u D J)) := (sy_at X [0, 2, 13, 17] d 19 5 _).trans rfl
set_option maxRecDepth 20000 in
theorem e19_2 {X : XS} {d u : Nat} {D : Nat → Nat → Int32} {J : Nat → Nat → Int64} (x1 : Int32) (x2 : Int32) : Ev X d 19 (2, [.ref 37, .int x1, .int x2], [], hS u D J) =
    br (decide (12 ≤ x2)) (some (.inl (some (.int 1)), hS u D J)) (gd (ob ((x1 * 12) + x2) 2412) (gd (ob x2 2412) (br (decide ((D 44 ((x1 * 12) + x2).toNatClampNeg) = (D 44 x2.toNatClampNeg))) (Ev X d 19 (2, [.ref 37, .int x1, .int (x2 + 1)], [], hS u D J)) (some (.inl (some (.int 0)), hS u D J))))) := by
  refine (f19_2 _ _).trans ?_
  simp only [f19_13, f19_17]
theorem e21_0 {X : XS} {d u : Nat} {D : Nat → Nat → Int32} {J : Nat → Nat → Int64} : Ev X (d + 1) 21 (0, [.ref 52, .null, .null], [], hS u D J) =
    br (decide ((D 52 0) = 0)) (bV (EvM X d 332 [.ref 53, .int 0] (hS u D J)) (fun h => Ev X (d + 1) 21 (8, [.ref 52, .null, .null], [], h)) (fun e h => some (.inr e, h))) (some (.inl none, hS u D J)) := (sy_at X [0, 8, 10, 18, 34] (d + 1) 21 9 _).trans rfl
theorem e21_8 {X : XS} {d u : Nat} {D : Nat → Nat → Int32} {J : Nat → Nat → Int64} : Ev X d 21 (8, [.ref 52, .null, .null], [], hS u D J) =
    Ev X d 21 (10, [.ref 52, .int 0, .null], [], hS u D J) := (sy_at X [0, 8, 10, 18, 34] d 21 4 _).trans rfl
theorem e21_10 {X : XS} {d u : Nat} {D : Nat → Nat → Int32} {J : Nat → Nat → Int64} (x1 : Int32) : Ev X d 21 (10, [.ref 52, .int x1, .null], [], hS u D J) =
    br (decide ((D 3 0) ≤ x1)) (some (.inl none, hS u (ud D 52 0 1) J)) (Ev X d 21 (18, [.ref 52, .int x1, .int 0], [], hS u D J)) := (sy_at X [0, 8, 10, 18, 34] d 21 12 _).trans rfl
set_option maxRecDepth 20000 in
theorem e21_18 {X : XS} {d u : Nat} {D : Nat → Nat → Int32} {J : Nat → Nat → Int64} (x1 : Int32) (x2 : Int32) : Ev X (d + 1) 21 (18, [.ref 52, .int x1, .int x2], [], hS u D J) =
    br (decide (29 < x2)) (Ev X (d + 1) 21 (10, [.ref 52, .int (x1 + 1), .int x2], [], hS u D J)) (gd (ob (12 + x1) 73) (br (decide (x2 = (D 26 (12 + x1).toNatClampNeg))) (Ev X (d + 1) 21 (18, [.ref 52, .int x1, .int (x2 + 1)], [], hS u D J)) (bI (EvM X d 22 [.ref 52, .int x1, .int x2] (hS u D J)) (fun y h => Ev X (d + 1) 21 (34, [.ref 52, .int x1, .int x2], [.int y], h)) (fun e h => some (.inr e, h))))) := (sy_at X [0, 8, 10, 18, 34] (d + 1) 21 18 _).trans rfl
set_option maxRecDepth 20000 in
theorem e21_34 {X : XS} {d u : Nat} {D : Nat → Nat → Int32} {J : Nat → Nat → Int64} (x1 : Int32) (x2 : Int32) (y0 : Int32) : Ev X d 21 (34, [.ref 52, .int x1, .int x2], [.int y0], hS u D J) =
    br (decide (y0 = 0)) (Ev X d 21 (18, [.ref 52, .int x1, .int (x2 + 1)], [], hS u D J)) (gd (ob x1 12) (gd (ob x1 12) (Ev X d 21 (18, [.ref 52, .int x1, .int (x2 + 1)], [], hS u (ud D 53 x1.toNatClampNeg ((D 53 x1.toNatClampNeg) ||| ((1 : Int32) <<< (x2 &&& 31)))) J)))) := (sy_at X [0, 8, 10, 18, 34] d 21 15 _).trans rfl
theorem e22_0 {X : XS} {d u : Nat} {D : Nat → Nat → Int32} {J : Nat → Nat → Int64} (x1 : Int32) (x2 : Int32) : Ev X (d + 1) 22 (0, [.ref 52, .int x1, .int x2, .null, .null], [], hS u D J) =
    bV (EvM X d 23 [.ref 52, .int x1, .int x2] (hS u D J)) (fun h => Ev X (d + 1) 22 (4, [.ref 52, .int x1, .int x2, .null, .null], [], h)) (fun e h => some (.inr e, h)) := (sy_at X [0, 4, 7, 10, 19, 22, 28] (d + 1) 22 6 _).trans rfl
theorem e22_4 {X : XS} {d u : Nat} {D : Nat → Nat → Int32} {J : Nat → Nat → Int64} (x1 : Int32) (x2 : Int32) : Ev X (d + 1) 22 (4, [.ref 52, .int x1, .int x2, .null, .null], [], hS u D J) =
    bI (EvM X d 96 [.ref 48] (hS u D J)) (fun y h => Ev X (d + 1) 22 (7, [.ref 52, .int x1, .int x2, .null, .null], [.int y], h)) (fun e h => some (.inr e, h)) := (sy_at X [0, 4, 7, 10, 19, 22, 28] (d + 1) 22 5 _).trans rfl
theorem e22_7 {X : XS} {d u : Nat} {D : Nat → Nat → Int32} {J : Nat → Nat → Int64} (x1 : Int32) (x2 : Int32) (y0 : Int32) : Ev X d 22 (7, [.ref 52, .int x1, .int x2, .null, .null], [.int y0], hS u D J) =
    Ev X d 22 (10, [.ref 52, .int x1, .int x2, .int y0, .int 0], [], hS u D J) := (sy_at X [0, 4, 7, 10, 19, 22, 28] d 22 5 _).trans rfl
theorem e22_10 {X : XS} {d u : Nat} {D : Nat → Nat → Int32} {J : Nat → Nat → Int64} (x1 : Int32) (x2 : Int32) (x3 : Int32) (x4 : Int32) : Ev X (d + 1) 22 (10, [.ref 52, .int x1, .int x2, .int x3, .int x4], [], hS u D J) =
    br (decide (x3 < x4)) (some (.inl (some (.int 1)), hS u D J)) (br (decide (x4 ≤ 0)) (Ev X (d + 1) 22 (22, [.ref 52, .int x1, .int x2, .int x3, .int x4], [], hS u D J)) (bV (EvM X d 45 [.ref 31, .int 0] (hS u D J)) (fun h => Ev X (d + 1) 22 (19, [.ref 52, .int x1, .int x2, .int x3, .int x4], [], h)) (fun e h => some (.inr e, h)))) := (sy_at X [0, 4, 7, 10, 19, 22, 28] (d + 1) 22 11 _).trans rfl
theorem e22_19 {X : XS} {d u : Nat} {D : Nat → Nat → Int32} {J : Nat → Nat → Int64} (x1 : Int32) (x2 : Int32) (x3 : Int32) (x4 : Int32) : Ev X (d + 1) 22 (19, [.ref 52, .int x1, .int x2, .int x3, .int x4], [], hS u D J) =
    bV (EvM X d 50 [.ref 31] (hS u D J)) (fun h => Ev X (d + 1) 22 (22, [.ref 52, .int x1, .int x2, .int x3, .int x4], [], h)) (fun e h => some (.inr e, h)) := (sy_at X [0, 4, 7, 10, 19, 22, 28] (d + 1) 22 5 _).trans rfl
theorem e22_22 {X : XS} {d u : Nat} {D : Nat → Nat → Int32} {J : Nat → Nat → Int64} (x1 : Int32) (x2 : Int32) (x3 : Int32) (x4 : Int32) : Ev X (d + 1) 22 (22, [.ref 52, .int x1, .int x2, .int x3, .int x4], [], hS u D J) =
    bI (EvM X d 97 [.ref 48, .ref 31, .int x4] (hS u D J)) (fun y h => Ev X (d + 1) 22 (28, [.ref 52, .int x1, .int x2, .int x3, .int x4], [.int y], h)) (fun e h => some (.inr e, h)) := (sy_at X [0, 4, 7, 10, 19, 22, 28] (d + 1) 22 8 _).trans rfl
theorem e22_28 {X : XS} {d u : Nat} {D : Nat → Nat → Int32} {J : Nat → Nat → Int64} (x1 : Int32) (x2 : Int32) (x3 : Int32) (x4 : Int32) (y0 : Int32) : Ev X d 22 (28, [.ref 52, .int x1, .int x2, .int x3, .int x4], [.int y0], hS u D J) =
    br (decide (¬ y0 = 0)) (Ev X d 22 (10, [.ref 52, .int x1, .int x2, .int x3, .int (x4 + 1)], [], hS u D J)) (some (.inl (some (.int 0)), hS u D J)) := (sy_at X [0, 4, 7, 10, 19, 22, 28] d 22 5 _).trans rfl
theorem e23_0 {X : XS} {d u : Nat} {D : Nat → Nat → Int32} {J : Nat → Nat → Int64} (x1 : Int32) (x2 : Int32) : Ev X (d + 1) 23 (0, [.ref 52, .int x1, .int x2], [], hS u D J) =
    bV (EvM X d 36 [.ref 31, .ref 25] (hS u D J)) (fun h => Ev X (d + 1) 23 (5, [.ref 52, .int x1, .int x2], [], h)) (fun e h => some (.inr e, h)) := (sy_at X [0, 5] (d + 1) 23 7 _).trans rfl
set_option maxRecDepth 20000 in
theorem e23_5 {X : XS} {d u : Nat} {D : Nat → Nat → Int32} {J : Nat → Nat → Int64} (x1 : Int32) (x2 : Int32) : Ev X d 23 (5, [.ref 52, .int x1, .int x2], [], hS u D J) =
    br (decide (x1 = (-1))) (some (.inl none, hS u D J)) (gd (ob (12 + x1) 73) (some (.inl none, hS u (ud D 32 (12 + x1).toNatClampNeg x2) J))) := (sy_at X [0, 5] d 23 14 _).trans rfl
theorem e24_0 {X : XS} {d u : Nat} {D : Nat → Nat → Int32} {J : Nat → Nat → Int64} : Ev X d 24 (0, [.ref 52, .null, .null], [], hS u D J) =
    Ev X d 24 (4, [.ref 52, .int 0, .int 0], [], hS u D J) := (sy_at X [0, 4, 13] d 24 6 _).trans rfl
theorem e24_4 {X : XS} {d u : Nat} {D : Nat → Nat → Int32} {J : Nat → Nat → Int64} (x1 : Int32) (x2 : Int32) : Ev X (d + 1) 24 (4, [.ref 52, .int x1, .int x2], [], hS u D J) =
    br (decide (12 ≤ x2)) (some (.inl (some (.int x1)), hS u D J)) (gd (ob x2 12) (bI (EvM X d 331 [.int (D 53 x2.toNatClampNeg)] (hS u D J)) (fun y h => Ev X (d + 1) 24 (13, [.ref 52, .int x1, .int x2], [.int y, .int x1], h)) (fun e h => some (.inr e, h)))) := (sy_at X [0, 4, 13] (d + 1) 24 11 _).trans rfl
theorem e24_13 {X : XS} {d u : Nat} {D : Nat → Nat → Int32} {J : Nat → Nat → Int64} (x1 : Int32) (x2 : Int32) (y0 : Int32) (y1 : Int32) : Ev X d 24 (13, [.ref 52, .int x1, .int x2], [.int y0, .int y1], hS u D J) =
    Ev X d 24 (4, [.ref 52, .int (y1 + y0), .int (x2 + 1)], [], hS u D J) := (sy_at X [0, 4, 13] d 24 6 _).trans rfl
theorem e25_0 {X : XS} {d u : Nat} {D : Nat → Nat → Int32} {J : Nat → Nat → Int64} : Ev X d 25 (0, [.ref 52, .null], [], hS u D J) =
    Ev X d 25 (2, [.ref 52, .int 0], [], hS u D J) := (sy_at X [0, 2, 18] d 25 4 _).trans rfl
set_option maxRecDepth 20000 in
theorem e25_2 {X : XS} {d u : Nat} {D : Nat → Nat → Int32} {J : Nat → Nat → Int64} (x1 : Int32) : Ev X (d + 1) 25 (2, [.ref 52, .int x1], [], hS u D J) =
    br (decide (12 ≤ x1)) (some (.inl (some (.int (-1))), hS u D J)) (gd (ob x1 12) (br (decide ((D 53 x1.toNatClampNeg) = 0)) (Ev X (d + 1) 25 (2, [.ref 52, .int (x1 + 1)], [], hS u D J)) (gd (ob x1 12) (bI (EvM X d 330 [.int (D 53 x1.toNatClampNeg)] (hS u D J)) (fun y h => Ev X (d + 1) 25 (18, [.ref 52, .int x1], [.int y, .int (100 * x1)], h)) (fun e h => some (.inr e, h)))))) := (sy_at X [0, 2, 18] (d + 1) 25 18 _).trans rfl
theorem e25_18 {X : XS} {d u : Nat} {D : Nat → Nat → Int32} {J : Nat → Nat → Int64} (x1 : Int32) (y0 : Int32) (y1 : Int32) : Ev X d 25 (18, [.ref 52, .int x1], [.int y0, .int y1], hS u D J) =
    some (.inl (some (.int (y1 + y0))), hS u D J) := (sy_at X [0, 2, 18] d 25 4 _).trans rfl
theorem e26_0 {X : XS} {d u : Nat} {D : Nat → Nat → Int32} {J : Nat → Nat → Int64} : Ev X (d + 1) 26 (0, [.ref 52, .null, .null], [], hS u D J) =
    bV (EvM X d 332 [.ref 54, .int 0] (hS u D J)) (fun h => Ev X (d + 1) 26 (4, [.ref 52, .null, .null], [], h)) (fun e h => some (.inr e, h)) := (sy_at X [0, 4, 6, 11, 28, 40, 51, 60] (d + 1) 26 6 _).trans rfl
theorem e26_4 {X : XS} {d u : Nat} {D : Nat → Nat → Int32} {J : Nat → Nat → Int64} : Ev X d 26 (4, [.ref 52, .null, .null], [], hS u D J) =
    Ev X d 26 (6, [.ref 52, .int 0, .null], [], hS u D J) := (sy_at X [0, 4, 6, 11, 28, 40, 51, 60] d 26 4 _).trans rfl
set_option maxRecDepth 20000 in
theorem e26_6 {X : XS} {d u : Nat} {D : Nat → Nat → Int32} {J : Nat → Nat → Int64} (x1 : Int32) : Ev X d 26 (6, [.ref 52, .int x1, .null], [], hS u D J) =
    br (decide (12 ≤ x1)) (Ev X d 26 (40, [.ref 52, .int 0, .null], [], hS u (ud (ud D 52 1 (-1)) 52 2 0) J)) (Ev X d 26 (11, [.ref 52, .int x1, .int 0], [], hS u D J)) := (sy_at X [0, 4, 6, 11, 28, 40, 51, 60] d 26 13 _).trans rfl
set_option maxRecDepth 20000 in
theorem e26_11 {X : XS} {d u : Nat} {D : Nat → Nat → Int32} {J : Nat → Nat → Int64} (x1 : Int32) (x2 : Int32) : Ev X (d + 1) 26 (11, [.ref 52, .int x1, .int x2], [], hS u D J) =
    br (decide (29 < x2)) (Ev X (d + 1) 26 (6, [.ref 52, .int (x1 + 1), .int x2], [], hS u D J)) (gd (ob x1 12) (br (decide (¬ (((D 53 x1.toNatClampNeg) >>> (x2 &&& 31)) &&& 1) = 1)) (Ev X (d + 1) 26 (28, [.ref 52, .int x1, .int x2], [], hS u D J)) (bV (EvM X d 27 [.ref 52, .int x1, .int x2] (hS u D J)) (fun h => Ev X (d + 1) 26 (28, [.ref 52, .int x1, .int x2], [], h)) (fun e h => some (.inr e, h))))) := (sy_at X [0, 4, 6, 11, 28, 40, 51, 60] (d + 1) 26 19 _).trans rfl
theorem e26_28 {X : XS} {d u : Nat} {D : Nat → Nat → Int32} {J : Nat → Nat → Int64} (x1 : Int32) (x2 : Int32) : Ev X d 26 (28, [.ref 52, .int x1, .int x2], [], hS u D J) =
    Ev X d 26 (11, [.ref 52, .int x1, .int (x2 + 1)], [], hS u D J) := (sy_at X [0, 4, 6, 11, 28, 40, 51, 60] d 26 4 _).trans rfl
set_option maxRecDepth 20000 in
theorem e26_40 {X : XS} {d u : Nat} {D : Nat → Nat → Int32} {J : Nat → Nat → Int64} (x1 : Int32) : Ev X (d + 1) 26 (40, [.ref 52, .int x1, .null], [], hS u D J) =
    br (decide ((D 3 0) ≤ x1)) (some (.inl none, hS u D J)) (gd (ob x1 12) (bI (EvM X d 331 [.int (D 54 x1.toNatClampNeg)] (hS u D J)) (fun y h => Ev X (d + 1) 26 (51, [.ref 52, .int x1, .null], [.int y], h)) (fun e h => some (.inr e, h)))) := (sy_at X [0, 4, 6, 11, 28, 40, 51, 60] (d + 1) 26 13 _).trans rfl
theorem e26_51 {X : XS} {d u : Nat} {D : Nat → Nat → Int32} {J : Nat → Nat → Int64} (x1 : Int32) (y0 : Int32) : Ev X (d + 1) 26 (51, [.ref 52, .int x1, .null], [.int y0], hS u D J) =
    br (decide (y0 ≤ (D 52 2))) (Ev X (d + 1) 26 (40, [.ref 52, .int (x1 + 1), .null], [], hS u D J)) (gd (ob x1 12) (bI (EvM X d 331 [.int (D 54 x1.toNatClampNeg)] (hS u D J)) (fun y h => Ev X (d + 1) 26 (60, [.ref 52, .int x1, .null], [.int y, .ref 52], h)) (fun e h => some (.inr e, h)))) := (sy_at X [0, 4, 6, 11, 28, 40, 51, 60] (d + 1) 26 11 _).trans rfl
theorem e26_60 {X : XS} {d u : Nat} {D : Nat → Nat → Int32} {J : Nat → Nat → Int64} (x1 : Int32) (y0 : Int32) : Ev X d 26 (60, [.ref 52, .int x1, .null], [.int y0, .ref 52], hS u D J) =
    Ev X d 26 (40, [.ref 52, .int (x1 + 1), .null], [], hS u (ud (ud D 52 2 y0) 52 1 x1) J) := (sy_at X [0, 4, 6, 11, 28, 40, 51, 60] d 26 8 _).trans rfl
theorem e27_0 {X : XS} {d u : Nat} {D : Nat → Nat → Int32} {J : Nat → Nat → Int64} (x1 : Int32) (x2 : Int32) : Ev X (d + 1) 27 (0, [.ref 52, .int x1, .int x2, .null], [], hS u D J) =
    bV (EvM X d 23 [.ref 52, .int x1, .int x2] (hS u D J)) (fun h => Ev X (d + 1) 27 (4, [.ref 52, .int x1, .int x2, .null], [], h)) (fun e h => some (.inr e, h)) := (sy_at X [0, 4, 6, 13, 16, 20, 40] (d + 1) 27 6 _).trans rfl
theorem e27_4 {X : XS} {d u : Nat} {D : Nat → Nat → Int32} {J : Nat → Nat → Int64} (x1 : Int32) (x2 : Int32) : Ev X d 27 (4, [.ref 52, .int x1, .int x2, .null], [], hS u D J) =
    Ev X d 27 (6, [.ref 52, .int x1, .int x2, .int 0], [], hS u D J) := (sy_at X [0, 4, 6, 13, 16, 20, 40] d 27 4 _).trans rfl
theorem e27_6 {X : XS} {d u : Nat} {D : Nat → Nat → Int32} {J : Nat → Nat → Int64} (x1 : Int32) (x2 : Int32) (x3 : Int32) : Ev X (d + 1) 27 (6, [.ref 52, .int x1, .int x2, .int x3], [], hS u D J) =
    br (decide (4 ≤ x3)) (Ev X (d + 1) 27 (20, [.ref 52, .int x1, .int x2, .int 0], [], hS u D J)) (bV (EvM X d 45 [.ref 31, .int 0] (hS u D J)) (fun h => Ev X (d + 1) 27 (13, [.ref 52, .int x1, .int x2, .int x3], [], h)) (fun e h => some (.inr e, h))) := (sy_at X [0, 4, 6, 13, 16, 20, 40] (d + 1) 27 9 _).trans rfl
theorem e27_13 {X : XS} {d u : Nat} {D : Nat → Nat → Int32} {J : Nat → Nat → Int64} (x1 : Int32) (x2 : Int32) (x3 : Int32) : Ev X (d + 1) 27 (13, [.ref 52, .int x1, .int x2, .int x3], [], hS u D J) =
    bV (EvM X d 50 [.ref 31] (hS u D J)) (fun h => Ev X (d + 1) 27 (16, [.ref 52, .int x1, .int x2, .int x3], [], h)) (fun e h => some (.inr e, h)) := (sy_at X [0, 4, 6, 13, 16, 20, 40] (d + 1) 27 5 _).trans rfl
theorem e27_16 {X : XS} {d u : Nat} {D : Nat → Nat → Int32} {J : Nat → Nat → Int64} (x1 : Int32) (x2 : Int32) (x3 : Int32) : Ev X d 27 (16, [.ref 52, .int x1, .int x2, .int x3], [], hS u D J) =
    Ev X d 27 (6, [.ref 52, .int x1, .int x2, .int (x3 + 1)], [], hS u D J) := (sy_at X [0, 4, 6, 13, 16, 20, 40] d 27 4 _).trans rfl
set_option maxRecDepth 20000 in
theorem f27_20 {X : XS} {d u : Nat} {D : Nat → Nat → Int32} {J : Nat → Nat → Int64} (x1 : Int32) (x2 : Int32) (x3 : Int32) : Ev X d 27 (20, [.ref 52, .int x1, .int x2, .int x3], [], hS u D J) =
    br (decide ((D 3 0) ≤ x3)) (some (.inl none, hS u D J)) (gd (ob x3 12) (Ev X d 27 (31, [.ref 52, .int x1, .int x2, .int x3], [.int (D 54 x3.toNatClampNeg), .int x3, .ref 54], hS u D J))) := (sy_at X [0, 4, 6, 13, 16, 20, 31, 39, 40] d 27 13 _).trans rfl
theorem f27_31 {X : XS} {d u : Nat} {D : Nat → Nat → Int32} {J : Nat → Nat → Int64} (x1 : Int32) (x2 : Int32) (x3 : Int32) (y0 : Int32) (y1 : Int32) : Ev X d 27 (31, [.ref 52, .int x1, .int x2, .int x3], [.int y0, .int y1, .ref 54], hS u D J) =
    gd (ob (0 + x3) 73) (Ev X d 27 (39, [.ref 52, .int x1, .int x2, .int x3], [.int (D 32 (0 + x3).toNatClampNeg), .int 1, .int y0, .int y1, .ref 54], hS u D J)) := (sy_at X [0, 4, 6, 13, 16, 20, 31, 39, 40] d 27 10 _).trans rfl
theorem f27_39 {X : XS} {d u : Nat} {D : Nat → Nat → Int32} {J : Nat → Nat → Int64} (x1 : Int32) (x2 : Int32) (x3 : Int32) (y0 : Int32) (y2 : Int32) (y3 : Int32) : Ev X (d + 1) 27 (39, [.ref 52, .int x1, .int x2, .int x3], [.int y0, .int 1, .int y2, .int y3, .ref 54], hS u D J) =
    bI (EvM X d 169 [.int y0] (hS u D J)) (fun y h => Ev X (d + 1) 27 (40, [.ref 52, .int x1, .int x2, .int x3], [.int y, .int 1, .int y2, .int y3, .ref 54], h)) (fun e h => none) := (sy_at X [0, 4, 6, 13, 16, 20, 31, 39, 40] (d + 1) 27 3 _).trans rfl
set_option maxRecDepth 20000 in
theorem e27_20 {X : XS} {d u : Nat} {D : Nat → Nat → Int32} {J : Nat → Nat → Int64} (x1 : Int32) (x2 : Int32) (x3 : Int32) : Ev X (d + 1) 27 (20, [.ref 52, .int x1, .int x2, .int x3], [], hS u D J) =
    br (decide ((D 3 0) ≤ x3)) (some (.inl none, hS u D J)) (gd (ob x3 12) (gd (ob (0 + x3) 73) (bI (EvM X d 169 [.int (D 32 (0 + x3).toNatClampNeg)] (hS u D J)) (fun y h => Ev X (d + 1) 27 (40, [.ref 52, .int x1, .int x2, .int x3], [.int y, .int 1, .int (D 54 x3.toNatClampNeg), .int x3, .ref 54], h)) (fun e h => none)))) := by
  refine (f27_20 _ _ _).trans ?_
  simp only [f27_31, f27_39]
theorem e27_40 {X : XS} {d u : Nat} {D : Nat → Nat → Int32} {J : Nat → Nat → Int64} (x1 : Int32) (x2 : Int32) (x3 : Int32) (y0 : Int32) (y1 : Int32) (y2 : Int32) (y3 : Int32) : Ev X d 27 (40, [.ref 52, .int x1, .int x2, .int x3], [.int y0, .int y1, .int y2, .int y3, .ref 54], hS u D J) =
    gd (ob y3 12) (Ev X d 27 (20, [.ref 52, .int x1, .int x2, .int (x3 + 1)], [], hS u (ud D 54 y3.toNatClampNeg (y2 ||| (y1 <<< (y0 &&& 31)))) J)) := (sy_at X [0, 4, 6, 13, 16, 20, 40] d 27 7 _).trans rfl
