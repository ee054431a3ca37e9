/-! ===== printed by wip/gen/eqparts.py: equations of the reference, 2 ===== -/
theorem e208_0 {X : XS} {d u : Nat} {D : Nat → Nat → Int32} {J : Nat → Nat → Int64} : Ev X d 208 (0, [.ref 70, .null], [], hS u D J) =
    br (decide (¬ (D 70 36) = 40)) (Ev X d 208 (29, [.ref 70, .int 0], [], hS u D J)) (Ev X d 208 (6, [.ref 70, .int 85], [], hS u D J)) := (sy_at X [0, 6, 29] d 208 8 _).trans rfl
set_option maxRecDepth 20000 in
theorem f208_6 {X : XS} {d u : Nat} {D : Nat → Nat → Int32} {J : Nat → Nat → Int64} (x1 : Int32) : Ev X d 208 (6, [.ref 70, .int x1], [], hS u D J) =
    br (decide (3400 ≤ x1)) (Ev X d 208 (29, [.ref 70, .int 0], [], hS u (ud D 70 36 ((D 70 36) - 1)) J)) (gd (ob x1 3400) (Ev X d 208 (18, [.ref 70, .int x1], [.int (D 79 x1.toNatClampNeg), .int (x1 - 85), .ref 79], hS u D J))) := (sy_at X [0, 6, 18, 19, 29, 44, 45] d 208 14 _).trans rfl
theorem f208_18 {X : XS} {d u : Nat} {D : Nat → Nat → Int32} {J : Nat → Nat → Int64} (x1 : Int32) (y0 : Int32) (y1 : Int32) : Ev X d 208 (18, [.ref 70, .int x1], [.int y0, .int y1, .ref 79], hS u D J) =
    gd (ob y1 3400) (Ev X d 208 (19, [.ref 70, .int x1], [], hS u (ud D 79 y1.toNatClampNeg y0) J)) := (sy_at X [0, 6, 18, 19, 29, 44, 45] d 208 3 _).trans rfl
theorem f208_19 {X : XS} {d u : Nat} {D : Nat → Nat → Int32} {J : Nat → Nat → Int64} (x1 : Int32) : Ev X d 208 (19, [.ref 70, .int x1], [], hS u D J) =
    Ev X d 208 (6, [.ref 70, .int (x1 + 1)], [], hS u D J) := (sy_at X [0, 6, 18, 19, 29, 44, 45] d 208 4 _).trans rfl
set_option maxRecDepth 20000 in
theorem e208_6 {X : XS} {d u : Nat} {D : Nat → Nat → Int32} {J : Nat → Nat → Int64} (x1 : Int32) : Ev X d 208 (6, [.ref 70, .int x1], [], hS u D J) =
    br (decide (3400 ≤ x1)) (Ev X d 208 (29, [.ref 70, .int 0], [], hS u (ud D 70 36 ((D 70 36) - 1)) J)) (gd (ob x1 3400) (gd (ob (x1 - 85) 3400) (Ev X d 208 (6, [.ref 70, .int (x1 + 1)], [], hS u (ud D 79 (x1 - 85).toNatClampNeg (D 79 x1.toNatClampNeg)) J)))) := by
  refine (f208_6 _).trans ?_
  simp only [f208_18, f208_19]
set_option maxRecDepth 20000 in
theorem f208_29 {X : XS} {d u : Nat} {D : Nat → Nat → Int32} {J : Nat → Nat → Int64} (x1 : Int32) : Ev X d 208 (29, [.ref 70, .int x1], [], hS u D J) =
    br (decide (85 ≤ x1)) (some (.inl none, hS u (ud D 70 36 ((D 70 36) + 1)) J)) (gd (ob x1 170) (Ev X d 208 (44, [.ref 70, .int x1], [.int (D 78 x1.toNatClampNeg), .int ((85 * (D 70 36)) + x1), .ref 79], hS u D J))) := (sy_at X [0, 6, 18, 19, 29, 44, 45] d 208 17 _).trans rfl
theorem f208_44 {X : XS} {d u : Nat} {D : Nat → Nat → Int32} {J : Nat → Nat → Int64} (x1 : Int32) (y0 : Int32) (y1 : Int32) : Ev X d 208 (44, [.ref 70, .int x1], [.int y0, .int y1, .ref 79], hS u D J) =
    gd (ob y1 3400) (Ev X d 208 (45, [.ref 70, .int x1], [], hS u (ud D 79 y1.toNatClampNeg y0) J)) := (sy_at X [0, 6, 18, 19, 29, 44, 45] d 208 3 _).trans rfl
theorem f208_45 {X : XS} {d u : Nat} {D : Nat → Nat → Int32} {J : Nat → Nat → Int64} (x1 : Int32) : Ev X d 208 (45, [.ref 70, .int x1], [], hS u D J) =
    Ev X d 208 (29, [.ref 70, .int (x1 + 1)], [], hS u D J) := (sy_at X [0, 6, 18, 19, 29, 44, 45] d 208 4 _).trans rfl
set_option maxRecDepth 20000 in
theorem e208_29 {X : XS} {d u : Nat} {D : Nat → Nat → Int32} {J : Nat → Nat → Int64} (x1 : Int32) : Ev X d 208 (29, [.ref 70, .int x1], [], hS u D J) =
    br (decide (85 ≤ x1)) (some (.inl none, hS u (ud D 70 36 ((D 70 36) + 1)) J)) (gd (ob x1 170) (gd (ob ((85 * (D 70 36)) + x1) 3400) (Ev X d 208 (29, [.ref 70, .int (x1 + 1)], [], hS u (ud D 79 ((85 * (D 70 36)) + x1).toNatClampNeg (D 78 x1.toNatClampNeg)) J)))) := by
  refine (f208_29 _).trans ?_
  simp only [f208_44, f208_45]
theorem e209_0 {X : XS} {d u : Nat} {D : Nat → Nat → Int32} {J : Nat → Nat → Int64} (x1 : Int32) : Ev X d 209 (0, [.ref 70, .int x1], [], hS u D J) =
    gd (ob x1 3) (gd (ob x1 3) (some (.inl (some (.int (-1))), hS u (ud D 73 x1.toNatClampNeg ((D 73 x1.toNatClampNeg) + 1)) J))) := (sy_at X [0] d 209 12 _).trans rfl
set_option maxRecDepth 20000 in
theorem e210_0 {X : XS} {d u : Nat} {D : Nat → Nat → Int32} {J : Nat → Nat → Int64} : Ev X d 210 (0, [.ref 70, .null], [], hS u D J) =
    br (decide (¬ ((ud D 70 0 0) 70 36) = 0)) (Ev X d 210 (16, [.ref 70, .int 0], [], hS u (ud (ud D 70 0 0) 70 36 (((ud D 70 0 0) 70 36) - 1)) J)) (some (.inl (some (.int (-1))), hS u (ud D 70 0 0) J)) := (sy_at X [0, 16] d 210 16 _).trans rfl
set_option maxRecDepth 20000 in
theorem f210_16 {X : XS} {d u : Nat} {D : Nat → Nat → Int32} {J : Nat → Nat → Int64} (x1 : Int32) : Ev X d 210 (16, [.ref 70, .int x1], [], hS u D J) =
    br (decide (85 ≤ x1)) (some (.inl (some (.int (D 70 36))), hS u D J)) (gd (ob ((85 * (D 70 36)) + x1) 3400) (Ev X d 210 (31, [.ref 70, .int x1], [.int (D 79 ((85 * (D 70 36)) + x1).toNatClampNeg), .int x1, .ref 78], hS u D J))) := (sy_at X [0, 16, 31, 32] d 210 17 _).trans rfl
theorem f210_31 {X : XS} {d u : Nat} {D : Nat → Nat → Int32} {J : Nat → Nat → Int64} (x1 : Int32) (y0 : Int32) (y1 : Int32) : Ev X d 210 (31, [.ref 70, .int x1], [.int y0, .int y1, .ref 78], hS u D J) =
    gd (ob y1 170) (Ev X d 210 (32, [.ref 70, .int x1], [], hS u (ud D 78 y1.toNatClampNeg y0) J)) := (sy_at X [0, 16, 31, 32] d 210 3 _).trans rfl
theorem f210_32 {X : XS} {d u : Nat} {D : Nat → Nat → Int32} {J : Nat → Nat → Int64} (x1 : Int32) : Ev X d 210 (32, [.ref 70, .int x1], [], hS u D J) =
    Ev X d 210 (16, [.ref 70, .int (x1 + 1)], [], hS u D J) := (sy_at X [0, 16, 31, 32] d 210 4 _).trans rfl
set_option maxRecDepth 20000 in
theorem e210_16 {X : XS} {d u : Nat} {D : Nat → Nat → Int32} {J : Nat → Nat → Int64} (x1 : Int32) : Ev X d 210 (16, [.ref 70, .int x1], [], hS u D J) =
    br (decide (85 ≤ x1)) (some (.inl (some (.int (D 70 36))), hS u D J)) (gd (ob ((85 * (D 70 36)) + x1) 3400) (gd (ob x1 170) (Ev X d 210 (16, [.ref 70, .int (x1 + 1)], [], hS u (ud D 78 x1.toNatClampNeg (D 79 ((85 * (D 70 36)) + x1).toNatClampNeg)) J)))) := by
  refine (f210_16 _).trans ?_
  simp only [f210_31, f210_32]
theorem e211_0 {X : XS} {d u : Nat} {D : Nat → Nat → Int32} {J : Nat → Nat → Int64} : Ev X d 211 (0, [.ref 70, .null], [], hS u D J) =
    Ev X d 211 (2, [.ref 70, .int 0], [], hS u D J) := (sy_at X [0, 2, 19] d 211 4 _).trans rfl
set_option maxRecDepth 20000 in
theorem f211_2 {X : XS} {d u : Nat} {D : Nat → Nat → Int32} {J : Nat → Nat → Int64} (x1 : Int32) : Ev X d 211 (2, [.ref 70, .int x1], [], hS u D J) =
    br (decide (85 ≤ x1)) (Ev X d 211 (19, [.ref 70, .int 0], [], hS u D J)) (gd (ob x1 170) (Ev X d 211 (14, [.ref 70, .int x1], [.int (D 78 x1.toNatClampNeg), .int (85 + x1), .ref 78], hS u D J))) := (sy_at X [0, 2, 14, 15, 19] d 211 14 _).trans rfl
theorem f211_14 {X : XS} {d u : Nat} {D : Nat → Nat → Int32} {J : Nat → Nat → Int64} (x1 : Int32) (y0 : Int32) (y1 : Int32) : Ev X d 211 (14, [.ref 70, .int x1], [.int y0, .int y1, .ref 78], hS u D J) =
    gd (ob y1 170) (Ev X d 211 (15, [.ref 70, .int x1], [], hS u (ud D 78 y1.toNatClampNeg y0) J)) := (sy_at X [0, 2, 14, 15, 19] d 211 3 _).trans rfl
theorem f211_15 {X : XS} {d u : Nat} {D : Nat → Nat → Int32} {J : Nat → Nat → Int64} (x1 : Int32) : Ev X d 211 (15, [.ref 70, .int x1], [], hS u D J) =
    Ev X d 211 (2, [.ref 70, .int (x1 + 1)], [], hS u D J) := (sy_at X [0, 2, 14, 15, 19] d 211 4 _).trans rfl
set_option maxRecDepth 20000 in
theorem e211_2 {X : XS} {d u : Nat} {D : Nat → Nat → Int32} {J : Nat → Nat → Int64} (x1 : Int32) : Ev X d 211 (2, [.ref 70, .int x1], [], hS u D J) =
    br (decide (85 ≤ x1)) (Ev X d 211 (19, [.ref 70, .int 0], [], hS u D J)) (gd (ob x1 170) (gd (ob (85 + x1) 170) (Ev X d 211 (2, [.ref 70, .int (x1 + 1)], [], hS u (ud D 78 (85 + x1).toNatClampNeg (D 78 x1.toNatClampNeg)) J)))) := by
  refine (f211_2 _).trans ?_
  simp only [f211_14, f211_15]
theorem e211_19 {X : XS} {d u : Nat} {D : Nat → Nat → Int32} {J : Nat → Nat → Int64} (x1 : Int32) : Ev X d 211 (19, [.ref 70, .int x1], [], hS u D J) =
    br (decide (144 ≤ x1)) (some (.inl none, hS u D J)) (gd (ob x1 144) (Ev X d 211 (19, [.ref 70, .int (x1 + 1)], [], hS u (ud D 80 x1.toNatClampNeg 0) J))) := (sy_at X [0, 2, 19] d 211 12 _).trans rfl
theorem e212_0 {X : XS} {d u : Nat} {D : Nat → Nat → Int32} {J : Nat → Nat → Int64} (x0 : Int32) (x1 : Int32) (x2 : Int32) : Ev X d 212 (0, [.int x0, .int x1, .int x2], [], hS u D J) =
    br (decide (x0 = 4)) (br (decide (x1 = 0)) (some (.inl (some (.int 0)), hS u D J)) (br (decide (x2 = 0)) (some (.inl (some (.int 0)), hS u D J)) (some (.inl (some (.int 1)), hS u D J)))) (br (decide (x0 = 5)) (br (decide (¬ x1 = 0)) (some (.inl (some (.int 1)), hS u D J)) (br (decide (x2 = 0)) (some (.inl (some (.int 0)), hS u D J)) (some (.inl (some (.int 1)), hS u D J)))) (br (decide (x0 = 6)) (br (decide (x2 ≤ x1)) (some (.inl (some (.int 0)), hS u D J)) (some (.inl (some (.int 1)), hS u D J))) (br (decide (x0 = 7)) (br (decide (¬ x1 = x2)) (some (.inl (some (.int 0)), hS u D J)) (some (.inl (some (.int 1)), hS u D J))) (br (decide (x0 = 8)) (some (.inl (some (.int (x1 + x2))), hS u D J)) (br (decide (x0 = 9)) (some (.inl (some (.int (x1 - x2))), hS u D J)) (br (decide (x0 = 10)) (some (.inl (some (.int (x1 * x2))), hS u D J)) (br (decide (¬ x2 = 0)) (gd (decide (¬ x2 = 0)) (some (.inl (some (.int (x1 / x2))), hS u D J))) (some (.inl (some (.int 0)), hS u D J))))))))) := (sy_at X [0] d 212 11 _).trans rfl
theorem e213_0 {X : XS} {d u : Nat} {D : Nat → Nat → Int32} {J : Nat → Nat → Int64} (x1 : Int32) : Ev X d 213 (0, [.ref 70, .int x1, .null, .null, .null], [], hS u D J) =
    Ev X d 213 (2, [.ref 70, .int x1, .int 0, .null, .null], [], hS u D J) := (sy_at X [0, 2, 4, 14, 15, 21, 40, 41, 42, 43, 62, 63, 64, 81, 82, 83] d 213 4 _).trans rfl
theorem e213_2 {X : XS} {d u : Nat} {D : Nat → Nat → Int32} {J : Nat → Nat → Int64} (x1 : Int32) (x2 : Int32) : Ev X d 213 (2, [.ref 70, .int x1, .int x2, .null, .null], [], hS u D J) =
    Ev X d 213 (4, [.ref 70, .int x1, .int x2, .int x1, .null], [], hS u D J) := (sy_at X [0, 2, 4, 14, 15, 21, 40, 41, 42, 43, 62, 63, 64, 81, 82, 83] d 213 4 _).trans rfl
theorem e213_4 {X : XS} {d u : Nat} {D : Nat → Nat → Int32} {J : Nat → Nat → Int64} (x1 : Int32) (x2 : Int32) (x3 : Int32) : Ev X d 213 (4, [.ref 70, .int x1, .int x2, .int x3, .null], [], hS u D J) =
    gd (ob x3 1400) (br (decide ((D 71 x3.toNatClampNeg) = 0)) (Ev X d 213 (83, [.ref 70, .int x1, .int x2, .int x3, .null], [], hS u D J)) (gd (ob x3 1400) (Ev X d 213 (14, [.ref 70, .int x1, .int x2, .int x3, .int (D 71 x3.toNatClampNeg)], [], hS u D J)))) := (sy_at X [0, 2, 4, 14, 15, 21, 40, 41, 42, 43, 62, 63, 64, 81, 82, 83] d 213 12 _).trans rfl
theorem e213_14 {X : XS} {d u : Nat} {D : Nat → Nat → Int32} {J : Nat → Nat → Int64} (x1 : Int32) (x2 : Int32) (x3 : Int32) (x4 : Int32) : Ev X d 213 (14, [.ref 70, .int x1, .int x2, .int x3, .int x4], [], hS u D J) =
    Ev X d 213 (15, [.ref 70, .int x1, .int x2, .int (x3 + 1), .int x4], [], hS u D J) := (sy_at X [0, 2, 4, 14, 15, 21, 40, 41, 42, 43, 62, 63, 64, 81, 82, 83] d 213 3 _).trans rfl
theorem e213_15 {X : XS} {d u : Nat} {D : Nat → Nat → Int32} {J : Nat → Nat → Int64} (x1 : Int32) (x2 : Int32) (x3 : Int32) (x4 : Int32) : Ev X d 213 (15, [.ref 70, .int x1, .int x2, .int x3, .int x4], [], hS u D J) =
    br (decide (x4 = 1)) (Ev X d 213 (21, [.ref 70, .int x1, .int x2, .int x3, .int x4], [], hS u D J)) (br (decide (¬ x4 = 2)) (Ev X d 213 (43, [.ref 70, .int x1, .int x2, .int x3, .int x4], [], hS u D J)) (Ev X d 213 (21, [.ref 70, .int x1, .int x2, .int x3, .int x4], [], hS u D J))) := (sy_at X [0, 2, 4, 14, 15, 21, 40, 41, 42, 43, 62, 63, 64, 81, 82, 83] d 213 8 _).trans rfl
set_option maxRecDepth 20000 in
theorem f213_21 {X : XS} {d u : Nat} {D : Nat → Nat → Int32} {J : Nat → Nat → Int64} (x1 : Int32) (x2 : Int32) (x3 : Int32) (x4 : Int32) : Ev X d 213 (21, [.ref 70, .int x1, .int x2, .int x3, .int x4], [], hS u D J) =
    br (decide (¬ x4 = 1)) (gd (ob x3 1400) (Ev X d 213 (38, [.ref 70, .int x1, .int x2, .int x3, .int x4], [.int (D 71 x3.toNatClampNeg), .ref 81, .int x2, .ref 82], hS u D J))) (gd (ob x3 1400) (Ev X d 213 (31, [.ref 70, .int x1, .int x2, .int x3, .int x4], [.int (D 71 x3.toNatClampNeg), .int x2, .ref 82], hS u D J))) := (sy_at X [0, 2, 4, 14, 15, 21, 31, 38, 39, 40, 41, 42, 43, 62, 63, 64, 76, 80, 81, 82, 83] d 213 14 _).trans rfl
theorem f213_31 {X : XS} {d u : Nat} {D : Nat → Nat → Int32} {J : Nat → Nat → Int64} (x1 : Int32) (x2 : Int32) (x3 : Int32) (x4 : Int32) (y0 : Int32) (y1 : Int32) : Ev X d 213 (31, [.ref 70, .int x1, .int x2, .int x3, .int x4], [.int y0, .int y1, .ref 82], hS u D J) =
    Ev X d 213 (39, [.ref 70, .int x1, .int x2, .int x3, .int x4], [.int y0, .int y1, .ref 82], hS u D J) := (sy_at X [0, 2, 4, 14, 15, 21, 31, 38, 39, 40, 41, 42, 43, 62, 63, 64, 76, 80, 81, 82, 83] d 213 3 _).trans rfl
theorem f213_39 {X : XS} {d u : Nat} {D : Nat → Nat → Int32} {J : Nat → Nat → Int64} (x1 : Int32) (x2 : Int32) (x3 : Int32) (x4 : Int32) (y0 : Int32) (y1 : Int32) : Ev X d 213 (39, [.ref 70, .int x1, .int x2, .int x3, .int x4], [.int y0, .int y1, .ref 82], hS u D J) =
    gd (ob y1 950) (Ev X d 213 (40, [.ref 70, .int x1, .int x2, .int x3, .int x4], [], hS u (ud D 82 y1.toNatClampNeg y0) J)) := (sy_at X [0, 2, 4, 14, 15, 21, 31, 38, 39, 40, 41, 42, 43, 62, 63, 64, 76, 80, 81, 82, 83] d 213 3 _).trans rfl
theorem f213_38 {X : XS} {d u : Nat} {D : Nat → Nat → Int32} {J : Nat → Nat → Int64} (x1 : Int32) (x2 : Int32) (x3 : Int32) (x4 : Int32) (y0 : Int32) (y2 : Int32) : Ev X d 213 (38, [.ref 70, .int x1, .int x2, .int x3, .int x4], [.int y0, .ref 81, .int y2, .ref 82], hS u D J) =
    gd (ob y0 7) (Ev X d 213 (39, [.ref 70, .int x1, .int x2, .int x3, .int x4], [.int (D 81 y0.toNatClampNeg), .int y2, .ref 82], hS u D J)) := (sy_at X [0, 2, 4, 14, 15, 21, 31, 38, 39, 40, 41, 42, 43, 62, 63, 64, 76, 80, 81, 82, 83] d 213 3 _).trans rfl
set_option maxRecDepth 20000 in
theorem e213_21 {X : XS} {d u : Nat} {D : Nat → Nat → Int32} {J : Nat → Nat → Int64} (x1 : Int32) (x2 : Int32) (x3 : Int32) (x4 : Int32) : Ev X d 213 (21, [.ref 70, .int x1, .int x2, .int x3, .int x4], [], hS u D J) =
    br (decide (¬ x4 = 1)) (gd (ob x3 1400) (gd (ob (D 71 x3.toNatClampNeg) 7) (gd (ob x2 950) (Ev X d 213 (40, [.ref 70, .int x1, .int x2, .int x3, .int x4], [], hS u (ud D 82 x2.toNatClampNeg (D 81 (D 71 x3.toNatClampNeg).toNatClampNeg)) J))))) (gd (ob x3 1400) (gd (ob x2 950) (Ev X d 213 (40, [.ref 70, .int x1, .int x2, .int x3, .int x4], [], hS u (ud D 82 x2.toNatClampNeg (D 71 x3.toNatClampNeg)) J)))) := by
  refine (f213_21 _ _ _ _).trans ?_
  simp only [f213_31, f213_39, f213_38]
theorem e213_40 {X : XS} {d u : Nat} {D : Nat → Nat → Int32} {J : Nat → Nat → Int64} (x1 : Int32) (x2 : Int32) (x3 : Int32) (x4 : Int32) : Ev X d 213 (40, [.ref 70, .int x1, .int x2, .int x3, .int x4], [], hS u D J) =
    Ev X d 213 (41, [.ref 70, .int x1, .int x2, .int (x3 + 1), .int x4], [], hS u D J) := (sy_at X [0, 2, 4, 14, 15, 21, 40, 41, 42, 43, 62, 63, 64, 81, 82, 83] d 213 3 _).trans rfl
theorem e213_41 {X : XS} {d u : Nat} {D : Nat → Nat → Int32} {J : Nat → Nat → Int64} (x1 : Int32) (x2 : Int32) (x3 : Int32) (x4 : Int32) : Ev X d 213 (41, [.ref 70, .int x1, .int x2, .int x3, .int x4], [], hS u D J) =
    Ev X d 213 (42, [.ref 70, .int x1, .int (x2 + 1), .int x3, .int x4], [], hS u D J) := (sy_at X [0, 2, 4, 14, 15, 21, 40, 41, 42, 43, 62, 63, 64, 81, 82, 83] d 213 3 _).trans rfl
theorem e213_42 {X : XS} {d u : Nat} {D : Nat → Nat → Int32} {J : Nat → Nat → Int64} (x1 : Int32) (x2 : Int32) (x3 : Int32) (x4 : Int32) : Ev X d 213 (42, [.ref 70, .int x1, .int x2, .int x3, .int x4], [], hS u D J) =
    Ev X d 213 (82, [.ref 70, .int x1, .int x2, .int x3, .int x4], [], hS u D J) := (sy_at X [0, 2, 4, 14, 15, 21, 40, 41, 42, 43, 62, 63, 64, 81, 82, 83] d 213 3 _).trans rfl
set_option maxRecDepth 20000 in
theorem e213_43 {X : XS} {d u : Nat} {D : Nat → Nat → Int32} {J : Nat → Nat → Int64} (x1 : Int32) (x2 : Int32) (x3 : Int32) (x4 : Int32) : Ev X d 213 (43, [.ref 70, .int x1, .int x2, .int x3, .int x4], [], hS u D J) =
    br (decide (¬ x4 = 3)) (Ev X d 213 (63, [.ref 70, .int x1, .int x2, .int x3, .int x4], [], hS u D J)) (gd (ob (x2 - 1) 950) (br (decide (¬ (D 82 (x2 - 1).toNatClampNeg) = 0)) (gd (ob (x2 - 1) 950) (Ev X d 213 (62, [.ref 70, .int x1, .int x2, .int x3, .int x4], [], hS u (ud D 82 (x2 - 1).toNatClampNeg 0) J))) (gd (ob (x2 - 1) 950) (Ev X d 213 (62, [.ref 70, .int x1, .int x2, .int x3, .int x4], [], hS u (ud D 82 (x2 - 1).toNatClampNeg 1) J))))) := (sy_at X [0, 2, 4, 14, 15, 21, 40, 41, 42, 43, 62, 63, 64, 81, 82, 83] d 213 20 _).trans rfl
theorem e213_62 {X : XS} {d u : Nat} {D : Nat → Nat → Int32} {J : Nat → Nat → Int64} (x1 : Int32) (x2 : Int32) (x3 : Int32) (x4 : Int32) : Ev X d 213 (62, [.ref 70, .int x1, .int x2, .int x3, .int x4], [], hS u D J) =
    Ev X d 213 (82, [.ref 70, .int x1, .int x2, .int x3, .int x4], [], hS u D J) := (sy_at X [0, 2, 4, 14, 15, 21, 40, 41, 42, 43, 62, 63, 64, 81, 82, 83] d 213 3 _).trans rfl
theorem e213_63 {X : XS} {d u : Nat} {D : Nat → Nat → Int32} {J : Nat → Nat → Int64} (x1 : Int32) (x2 : Int32) (x3 : Int32) (x4 : Int32) : Ev X d 213 (63, [.ref 70, .int x1, .int x2, .int x3, .int x4], [], hS u D J) =
    Ev X d 213 (64, [.ref 70, .int x1, .int (x2 + (-1)), .int x3, .int x4], [], hS u D J) := (sy_at X [0, 2, 4, 14, 15, 21, 40, 41, 42, 43, 62, 63, 64, 81, 82, 83] d 213 3 _).trans rfl
set_option maxRecDepth 20000 in
theorem f213_64 {X : XS} {d u : Nat} {D : Nat → Nat → Int32} {J : Nat → Nat → Int64} (x1 : Int32) (x2 : Int32) (x3 : Int32) (x4 : Int32) : Ev X d 213 (64, [.ref 70, .int x1, .int x2, .int x3, .int x4], [], hS u D J) =
    gd (ob (x2 - 1) 950) (Ev X d 213 (76, [.ref 70, .int x1, .int x2, .int x3, .int x4], [.int (D 82 (x2 - 1).toNatClampNeg), .int x4, .int (x2 - 1), .ref 82], hS u D J)) := (sy_at X [0, 2, 4, 14, 15, 21, 31, 38, 39, 40, 41, 42, 43, 62, 63, 64, 76, 80, 81, 82, 83] d 213 14 _).trans rfl
theorem f213_76 {X : XS} {d u : Nat} {D : Nat → Nat → Int32} {J : Nat → Nat → Int64} (x1 : Int32) (x2 : Int32) (x3 : Int32) (x4 : Int32) (y0 : Int32) (y1 : Int32) (y2 : Int32) : Ev X d 213 (76, [.ref 70, .int x1, .int x2, .int x3, .int x4], [.int y0, .int y1, .int y2, .ref 82], hS u D J) =
    gd (ob x2 950) (Ev X d 213 (80, [.ref 70, .int x1, .int x2, .int x3, .int x4], [.int (D 82 x2.toNatClampNeg), .int y0, .int y1, .int y2, .ref 82], hS u D J)) := (sy_at X [0, 2, 4, 14, 15, 21, 31, 38, 39, 40, 41, 42, 43, 62, 63, 64, 76, 80, 81, 82, 83] d 213 6 _).trans rfl
theorem f213_80 {X : XS} {d u : Nat} {D : Nat → Nat → Int32} {J : Nat → Nat → Int64} (x1 : Int32) (x2 : Int32) (x3 : Int32) (x4 : Int32) (y0 : Int32) (y1 : Int32) (y2 : Int32) (y3 : Int32) : Ev X (d + 1) 213 (80, [.ref 70, .int x1, .int x2, .int x3, .int x4], [.int y0, .int y1, .int y2, .int y3, .ref 82], hS u D J) =
    bI (EvM X d 212 [.int y2, .int y1, .int y0] (hS u D J)) (fun y h => Ev X (d + 1) 213 (81, [.ref 70, .int x1, .int x2, .int x3, .int x4], [.int y, .int y3, .ref 82], h)) (fun e h => some (.inr e, h)) := (sy_at X [0, 2, 4, 14, 15, 21, 31, 38, 39, 40, 41, 42, 43, 62, 63, 64, 76, 80, 81, 82, 83] (d + 1) 213 3 _).trans rfl
set_option maxRecDepth 20000 in
theorem e213_64 {X : XS} {d u : Nat} {D : Nat → Nat → Int32} {J : Nat → Nat → Int64} (x1 : Int32) (x2 : Int32) (x3 : Int32) (x4 : Int32) : Ev X (d + 1) 213 (64, [.ref 70, .int x1, .int x2, .int x3, .int x4], [], hS u D J) =
    gd (ob (x2 - 1) 950) (gd (ob x2 950) (bI (EvM X d 212 [.int x4, .int (D 82 (x2 - 1).toNatClampNeg), .int (D 82 x2.toNatClampNeg)] (hS u D J)) (fun y h => Ev X (d + 1) 213 (81, [.ref 70, .int x1, .int x2, .int x3, .int x4], [.int y, .int (x2 - 1), .ref 82], h)) (fun e h => some (.inr e, h)))) := by
  refine (f213_64 _ _ _ _).trans ?_
  simp only [f213_76, f213_80]
theorem e213_81 {X : XS} {d u : Nat} {D : Nat → Nat → Int32} {J : Nat → Nat → Int64} (x1 : Int32) (x2 : Int32) (x3 : Int32) (x4 : Int32) (y0 : Int32) (y1 : Int32) : Ev X d 213 (81, [.ref 70, .int x1, .int x2, .int x3, .int x4], [.int y0, .int y1, .ref 82], hS u D J) =
    gd (ob y1 950) (Ev X d 213 (82, [.ref 70, .int x1, .int x2, .int x3, .int x4], [], hS u (ud D 82 y1.toNatClampNeg y0) J)) := (sy_at X [0, 2, 4, 14, 15, 21, 40, 41, 42, 43, 62, 63, 64, 81, 82, 83] d 213 3 _).trans rfl
theorem e213_82 {X : XS} {d u : Nat} {D : Nat → Nat → Int32} {J : Nat → Nat → Int64} (x1 : Int32) (x2 : Int32) (x3 : Int32) (x4 : Int32) : Ev X d 213 (82, [.ref 70, .int x1, .int x2, .int x3, .int x4], [], hS u D J) =
    Ev X d 213 (4, [.ref 70, .int x1, .int x2, .int x3, .int x4], [], hS u D J) := (sy_at X [0, 2, 4, 14, 15, 21, 40, 41, 42, 43, 62, 63, 64, 81, 82, 83] d 213 3 _).trans rfl
theorem e213_83 {X : XS} {d u : Nat} {D : Nat → Nat → Int32} {J : Nat → Nat → Int64} (x1 : Int32) (x2 : Int32) (x3 : Int32) : Ev X d 213 (83, [.ref 70, .int x1, .int x2, .int x3, .null], [], hS u D J) =
    some (.inl (some (.int (D 82 0))), hS u D J) := (sy_at X [0, 2, 4, 14, 15, 21, 40, 41, 42, 43, 62, 63, 64, 81, 82, 83] d 213 7 _).trans rfl
theorem e214_0 {X : XS} {d u : Nat} {D : Nat → Nat → Int32} {J : Nat → Nat → Int64} (x1 : Int32) (x2 : Int32) : Ev X d 214 (0, [.ref 70, .int x1, .int x2, .null, .null], [], hS u D J) =
    Ev X d 214 (4, [.ref 70, .int x1, .int x2, .int 0, .int 0], [], hS u D J) := (sy_at X [0, 4] d 214 6 _).trans rfl
set_option maxRecDepth 20000 in
theorem e214_4 {X : XS} {d u : Nat} {D : Nat → Nat → Int32} {J : Nat → Nat → Int64} (x1 : Int32) (x2 : Int32) (x3 : Int32) (x4 : Int32) : Ev X d 214 (4, [.ref 70, .int x1, .int x2, .int x3, .int x4], [], hS u D J) =
    br (decide ((D 70 1) ≤ x4)) (some (.inl (some (.int x3)), hS u D J)) (gd (ob ((x1 + 13) + x4) 170) (br (decide (¬ (D 78 ((x1 + 13) + x4).toNatClampNeg) = x2)) (Ev X d 214 (4, [.ref 70, .int x1, .int x2, .int (x3 ||| 0), .int (x4 + 1)], [], hS u D J)) (Ev X d 214 (4, [.ref 70, .int x1, .int x2, .int (x3 ||| ((1 : Int32) <<< (x4 &&& 31))), .int (x4 + 1)], [], hS u D J)))) := (sy_at X [0, 4] d 214 25 _).trans rfl
theorem e215_0 {X : XS} {d u : Nat} {D : Nat → Nat → Int32} {J : Nat → Nat → Int64} (x1 : Int32) (x2 : Int32) : Ev X (d + 1) 215 (0, [.ref 70, .int x1, .int x2], [], hS u D J) =
    bI (EvM X d 214 [.ref 70, .int x1, .int x2] (hS u D J)) (fun y h => Ev X (d + 1) 215 (4, [.ref 70, .int x1, .int x2], [.int y], h)) (fun e h => some (.inr e, h)) := (sy_at X [0, 4, 5] (d + 1) 215 6 _).trans rfl
theorem e215_4 {X : XS} {d u : Nat} {D : Nat → Nat → Int32} {J : Nat → Nat → Int64} (x1 : Int32) (x2 : Int32) (y0 : Int32) : Ev X (d + 1) 215 (4, [.ref 70, .int x1, .int x2], [.int y0], hS u D J) =
    bI (EvM X d 177 [.int y0] (hS u D J)) (fun y h => Ev X (d + 1) 215 (5, [.ref 70, .int x1, .int x2], [.int y], h)) (fun e h => some (.inr e, h)) := (sy_at X [0, 4, 5] (d + 1) 215 3 _).trans rfl
theorem e215_5 {X : XS} {d u : Nat} {D : Nat → Nat → Int32} {J : Nat → Nat → Int64} (x1 : Int32) (x2 : Int32) (y0 : Int32) : Ev X d 215 (5, [.ref 70, .int x1, .int x2], [.int y0], hS u D J) =
    some (.inl (some (.int y0)), hS u D J) := (sy_at X [0, 4, 5] d 215 3 _).trans rfl
theorem e216_0 {X : XS} {d u : Nat} {D : Nat → Nat → Int32} {J : Nat → Nat → Int64} (x1 : Int32) (x2 : Int32) (x3 : Int32) : Ev X d 216 (0, [.ref 70, .int x1, .int x2, .int x3, .null], [], hS u D J) =
    Ev X d 216 (2, [.ref 70, .int x1, .int x2, .int x3, .int 0], [], hS u D J) := (sy_at X [0, 2] d 216 4 _).trans rfl
set_option maxRecDepth 20000 in
theorem e216_2 {X : XS} {d u : Nat} {D : Nat → Nat → Int32} {J : Nat → Nat → Int64} (x1 : Int32) (x2 : Int32) (x3 : Int32) (x4 : Int32) : Ev X d 216 (2, [.ref 70, .int x1, .int x2, .int x3, .int x4], [], hS u D J) =
    br (decide ((D 70 1) ≤ x4)) (some (.inl (some (.int (-1))), hS u D J)) (gd (ob ((x1 + 13) + x4) 170) (br (decide (¬ (D 78 ((x1 + 13) + x4).toNatClampNeg) = x2)) (Ev X d 216 (2, [.ref 70, .int x1, .int x2, .int x3, .int (x4 + 1)], [], hS u D J)) (gd (ob ((x1 + 25) + x4) 170) (br (decide (¬ (D 78 ((x1 + 25) + x4).toNatClampNeg) = x3)) (Ev X d 216 (2, [.ref 70, .int x1, .int x2, .int x3, .int (x4 + 1)], [], hS u D J)) (some (.inl (some (.int x4)), hS u D J)))))) := (sy_at X [0, 2] d 216 28 _).trans rfl
theorem e217_0 {X : XS} {d u : Nat} {D : Nat → Nat → Int32} {J : Nat → Nat → Int64} (x1 : Int32) : Ev X d 217 (0, [.ref 70, .int x1, .null], [], hS u D J) =
    Ev X d 217 (2, [.ref 70, .int x1, .int 0], [], hS u D J) := (sy_at X [0, 2, 9] d 217 4 _).trans rfl
theorem e217_2 {X : XS} {d u : Nat} {D : Nat → Nat → Int32} {J : Nat → Nat → Int64} (x1 : Int32) (x2 : Int32) : Ev X (d + 1) 217 (2, [.ref 70, .int x1, .int x2], [], hS u D J) =
    br (decide (12 ≤ x2)) (some (.inl (some (.int x2)), hS u D J)) (bI (EvM X d 214 [.ref 70, .int x1, .int x2] (hS u D J)) (fun y h => Ev X (d + 1) 217 (9, [.ref 70, .int x1, .int x2], [.int y], h)) (fun e h => some (.inr e, h))) := (sy_at X [0, 2, 9] (d + 1) 217 9 _).trans rfl
theorem e217_9 {X : XS} {d u : Nat} {D : Nat → Nat → Int32} {J : Nat → Nat → Int64} (x1 : Int32) (x2 : Int32) (y0 : Int32) : Ev X d 217 (9, [.ref 70, .int x1, .int x2], [.int y0], hS u D J) =
    br (decide (y0 = 0)) (some (.inl (some (.int x2)), hS u D J)) (Ev X d 217 (2, [.ref 70, .int x1, .int (x2 + 1)], [], hS u D J)) := (sy_at X [0, 2, 9] d 217 5 _).trans rfl
theorem e218_0 {X : XS} {d u : Nat} {D : Nat → Nat → Int32} {J : Nat → Nat → Int64} (x1 : Int32) : Ev X d 218 (0, [.ref 70, .int x1, .null, .null], [], hS u D J) =
    Ev X d 218 (4, [.ref 70, .int x1, .int 0, .int 0], [], hS u D J) := (sy_at X [0, 4] d 218 6 _).trans rfl
set_option maxRecDepth 20000 in
theorem e218_4 {X : XS} {d u : Nat} {D : Nat → Nat → Int32} {J : Nat → Nat → Int64} (x1 : Int32) (x2 : Int32) (x3 : Int32) : Ev X d 218 (4, [.ref 70, .int x1, .int x2, .int x3], [], hS u D J) =
    br (decide ((D 70 1) ≤ x3)) (some (.inl (some (.int x2)), hS u D J)) (gd (ob ((x1 + 13) + x3) 170) (br (decide ((D 78 ((x1 + 13) + x3).toNatClampNeg) = (-1))) (Ev X d 218 (4, [.ref 70, .int x1, .int (x2 ||| 0), .int (x3 + 1)], [], hS u D J)) (Ev X d 218 (4, [.ref 70, .int x1, .int (x2 ||| ((1 : Int32) <<< (x3 &&& 31))), .int (x3 + 1)], [], hS u D J)))) := (sy_at X [0, 4] d 218 25 _).trans rfl
set_option maxRecDepth 20000 in
theorem f219_0 {X : XS} {d u : Nat} {D : Nat → Nat → Int32} {J : Nat → Nat → Int64} (x1 : Int32) (x2 : Int32) (x3 : Int32) : Ev X d 219 (0, [.ref 70, .int x1, .int x2, .int x3], [], hS u D J) =
    br (decide (¬ (D 70 5) = (-1))) (Ev X d 219 (25, [.ref 70, .int x1, .int x2, .int x3], [], hS u D J)) (gd (ob ((x1 + 1) + x2) 170) (Ev X d 219 (12, [.ref 70, .int x1, .int x2, .int x3], [.int (D 78 ((x1 + 1) + x2).toNatClampNeg)], hS u D J))) := (sy_at X [0, 12, 20, 23, 25, 37, 49, 61, 73, 85, 89, 92] d 219 14 _).trans rfl
theorem f219_12 {X : XS} {d u : Nat} {D : Nat → Nat → Int32} {J : Nat → Nat → Int64} (x1 : Int32) (x2 : Int32) (x3 : Int32) (y0 : Int32) : Ev X d 219 (12, [.ref 70, .int x1, .int x2, .int x3], [.int y0], hS u D J) =
    gd (ob ((x1 + 1) + x3) 170) (Ev X d 219 (20, [.ref 70, .int x1, .int x2, .int x3], [.int (D 78 ((x1 + 1) + x3).toNatClampNeg), .int y0], hS u D J)) := (sy_at X [0, 12, 20, 23, 25, 37, 49, 61, 73, 85, 89, 92] d 219 10 _).trans rfl
theorem f219_20 {X : XS} {d u : Nat} {D : Nat → Nat → Int32} {J : Nat → Nat → Int64} (x1 : Int32) (x2 : Int32) (x3 : Int32) (y0 : Int32) (y1 : Int32) : Ev X d 219 (20, [.ref 70, .int x1, .int x2, .int x3], [.int y0, .int y1], hS u D J) =
    br (decide (y1 ≤ y0)) (Ev X d 219 (23, [.ref 70, .int x1, .int x2, .int x3], [], hS u D J)) (some (.inl (some (.int 1)), hS u D J)) := (sy_at X [0, 12, 20, 23, 25, 37, 49, 61, 73, 85, 89, 92] d 219 6 _).trans rfl
set_option maxRecDepth 20000 in
theorem e219_0 {X : XS} {d u : Nat} {D : Nat → Nat → Int32} {J : Nat → Nat → Int64} (x1 : Int32) (x2 : Int32) (x3 : Int32) : Ev X d 219 (0, [.ref 70, .int x1, .int x2, .int x3], [], hS u D J) =
    br (decide (¬ (D 70 5) = (-1))) (Ev X d 219 (25, [.ref 70, .int x1, .int x2, .int x3], [], hS u D J)) (gd (ob ((x1 + 1) + x2) 170) (gd (ob ((x1 + 1) + x3) 170) (br (decide ((D 78 ((x1 + 1) + x2).toNatClampNeg) ≤ (D 78 ((x1 + 1) + x3).toNatClampNeg))) (Ev X d 219 (23, [.ref 70, .int x1, .int x2, .int x3], [], hS u D J)) (some (.inl (some (.int 1)), hS u D J))))) := by
  refine (f219_0 _ _ _).trans ?_
  simp only [f219_12, f219_20]
theorem e219_23 {X : XS} {d u : Nat} {D : Nat → Nat → Int32} {J : Nat → Nat → Int64} (x1 : Int32) (x2 : Int32) (x3 : Int32) : Ev X d 219 (23, [.ref 70, .int x1, .int x2, .int x3], [], hS u D J) =
    some (.inl (some (.int 0)), hS u D J) := (sy_at X [0, 23, 25, 37, 49, 61, 73, 85, 89, 92] d 219 4 _).trans rfl
set_option maxRecDepth 20000 in
theorem e219_25 {X : XS} {d u : Nat} {D : Nat → Nat → Int32} {J : Nat → Nat → Int64} (x1 : Int32) (x2 : Int32) (x3 : Int32) : Ev X d 219 (25, [.ref 70, .int x1, .int x2, .int x3], [], hS u D J) =
    gd (ob ((x1 + 1) + x2) 170) (Ev X d 219 (37, [.ref 70, .int x1, .int x2, .int x3], [], hS u (ud D 81 2 (D 78 ((x1 + 1) + x2).toNatClampNeg)) J)) := (sy_at X [0, 23, 25, 37, 49, 61, 73, 85, 89, 92] d 219 14 _).trans rfl
set_option maxRecDepth 20000 in
theorem e219_37 {X : XS} {d u : Nat} {D : Nat → Nat → Int32} {J : Nat → Nat → Int64} (x1 : Int32) (x2 : Int32) (x3 : Int32) : Ev X d 219 (37, [.ref 70, .int x1, .int x2, .int x3], [], hS u D J) =
    gd (ob ((x1 + 1) + x3) 170) (Ev X d 219 (49, [.ref 70, .int x1, .int x2, .int x3], [], hS u (ud D 81 6 (D 78 ((x1 + 1) + x3).toNatClampNeg)) J)) := (sy_at X [0, 23, 25, 37, 49, 61, 73, 85, 89, 92] d 219 14 _).trans rfl
set_option maxRecDepth 20000 in
theorem e219_49 {X : XS} {d u : Nat} {D : Nat → Nat → Int32} {J : Nat → Nat → Int64} (x1 : Int32) (x2 : Int32) (x3 : Int32) : Ev X d 219 (49, [.ref 70, .int x1, .int x2, .int x3], [], hS u D J) =
    gd (ob ((x1 + 13) + x2) 170) (Ev X d 219 (61, [.ref 70, .int x1, .int x2, .int x3], [], hS u (ud D 81 3 (D 78 ((x1 + 13) + x2).toNatClampNeg)) J)) := (sy_at X [0, 23, 25, 37, 49, 61, 73, 85, 89, 92] d 219 14 _).trans rfl
set_option maxRecDepth 20000 in
theorem e219_61 {X : XS} {d u : Nat} {D : Nat → Nat → Int32} {J : Nat → Nat → Int64} (x1 : Int32) (x2 : Int32) (x3 : Int32) : Ev X d 219 (61, [.ref 70, .int x1, .int x2, .int x3], [], hS u D J) =
    gd (ob ((x1 + 25) + x2) 170) (Ev X d 219 (73, [.ref 70, .int x1, .int x2, .int x3], [], hS u (ud D 81 4 (D 78 ((x1 + 25) + x2).toNatClampNeg)) J)) := (sy_at X [0, 23, 25, 37, 49, 61, 73, 85, 89, 92] d 219 14 _).trans rfl
set_option maxRecDepth 20000 in
theorem e219_73 {X : XS} {d u : Nat} {D : Nat → Nat → Int32} {J : Nat → Nat → Int64} (x1 : Int32) (x2 : Int32) (x3 : Int32) : Ev X d 219 (73, [.ref 70, .int x1, .int x2, .int x3], [], hS u D J) =
    gd (ob ((x1 + 37) + x2) 170) (Ev X d 219 (85, [.ref 70, .int x1, .int x2, .int x3], [], hS u (ud D 81 5 (D 78 ((x1 + 37) + x2).toNatClampNeg)) J)) := (sy_at X [0, 23, 25, 37, 49, 61, 73, 85, 89, 92] d 219 14 _).trans rfl
theorem e219_85 {X : XS} {d u : Nat} {D : Nat → Nat → Int32} {J : Nat → Nat → Int64} (x1 : Int32) (x2 : Int32) (x3 : Int32) : Ev X (d + 1) 219 (85, [.ref 70, .int x1, .int x2, .int x3], [], hS u D J) =
    bI (EvM X d 213 [.ref 70, .int (D 70 5)] (hS u D J)) (fun y h => Ev X (d + 1) 219 (89, [.ref 70, .int x1, .int x2, .int x3], [.int y], h)) (fun e h => some (.inr e, h)) := (sy_at X [0, 23, 25, 37, 49, 61, 73, 85, 89, 92] (d + 1) 219 6 _).trans rfl
theorem e219_89 {X : XS} {d u : Nat} {D : Nat → Nat → Int32} {J : Nat → Nat → Int64} (x1 : Int32) (x2 : Int32) (x3 : Int32) (y0 : Int32) : Ev X d 219 (89, [.ref 70, .int x1, .int x2, .int x3], [.int y0], hS u D J) =
    br (decide (y0 ≤ 0)) (Ev X d 219 (92, [.ref 70, .int x1, .int x2, .int x3], [], hS u D J)) (some (.inl (some (.int 1)), hS u D J)) := (sy_at X [0, 23, 25, 37, 49, 61, 73, 85, 89, 92] d 219 6 _).trans rfl
theorem e219_92 {X : XS} {d u : Nat} {D : Nat → Nat → Int32} {J : Nat → Nat → Int64} (x1 : Int32) (x2 : Int32) (x3 : Int32) : Ev X d 219 (92, [.ref 70, .int x1, .int x2, .int x3], [], hS u D J) =
    some (.inl (some (.int 0)), hS u D J) := (sy_at X [0, 23, 25, 37, 49, 61, 73, 85, 89, 92] d 219 4 _).trans rfl
theorem e220_0 {X : XS} {d u : Nat} {D : Nat → Nat → Int32} {J : Nat → Nat → Int64} (x1 : Int32) (x2 : Int32) (x3 : Int32) : Ev X (d + 1) 220 (0, [.ref 70, .int x1, .int x2, .int x3, .null, .null], [], hS u D J) =
    bI (EvM X d 215 [.ref 70, .int x1, .int x2] (hS u D J)) (fun y h => Ev X (d + 1) 220 (4, [.ref 70, .int x1, .int x2, .int x3, .null, .null], [.int y], h)) (fun e h => some (.inr e, h)) := (sy_at X [0, 4, 7, 17, 19, 25] (d + 1) 220 6 _).trans rfl
theorem e220_4 {X : XS} {d u : Nat} {D : Nat → Nat → Int32} {J : Nat → Nat → Int64} (x1 : Int32) (x2 : Int32) (x3 : Int32) (y0 : Int32) : Ev X d 220 (4, [.ref 70, .int x1, .int x2, .int x3, .null, .null], [.int y0], hS u D J) =
    Ev X d 220 (7, [.ref 70, .int x1, .int x2, .int x3, .int y0, .int 0], [], hS u D J) := (sy_at X [0, 4, 7, 17, 19, 25] d 220 5 _).trans rfl
theorem e220_7 {X : XS} {d u : Nat} {D : Nat → Nat → Int32} {J : Nat → Nat → Int64} (x1 : Int32) (x2 : Int32) (x3 : Int32) (x4 : Int32) (x5 : Int32) : Ev X (d + 1) 220 (7, [.ref 70, .int x1, .int x2, .int x3, .int x4, .int x5], [], hS u D J) =
    br (decide (x4 ≤ x5)) (some (.inl (some (.int (-1))), hS u D J)) (bI (EvM X d 216 [.ref 70, .int x1, .int x2, .int x5] (hS u D J)) (fun y h => Ev X (d + 1) 220 (17, [.ref 70, .int x1, .int x2, .int x3, .int x4, .int x5], [.int y, .int x1, .ref 70], h)) (fun e h => some (.inr e, h))) := (sy_at X [0, 4, 7, 17, 19, 25] (d + 1) 220 12 _).trans rfl
theorem e220_17 {X : XS} {d u : Nat} {D : Nat → Nat → Int32} {J : Nat → Nat → Int64} (x1 : Int32) (x2 : Int32) (x3 : Int32) (x4 : Int32) (x5 : Int32) (y0 : Int32) (y1 : Int32) : Ev X (d + 1) 220 (17, [.ref 70, .int x1, .int x2, .int x3, .int x4, .int x5], [.int y0, .int y1, .ref 70], hS u D J) =
    bI (EvM X d 219 [.ref 70, .int y1, .int y0, .int x3] (hS u D J)) (fun y h => Ev X (d + 1) 220 (19, [.ref 70, .int x1, .int x2, .int x3, .int x4, .int x5], [.int y], h)) (fun e h => some (.inr e, h)) := (sy_at X [0, 4, 7, 17, 19, 25] (d + 1) 220 4 _).trans rfl
theorem e220_19 {X : XS} {d u : Nat} {D : Nat → Nat → Int32} {J : Nat → Nat → Int64} (x1 : Int32) (x2 : Int32) (x3 : Int32) (x4 : Int32) (x5 : Int32) (y0 : Int32) : Ev X (d + 1) 220 (19, [.ref 70, .int x1, .int x2, .int x3, .int x4, .int x5], [.int y0], hS u D J) =
    br (decide (y0 = 0)) (Ev X (d + 1) 220 (7, [.ref 70, .int x1, .int x2, .int x3, .int x4, .int (x5 + 1)], [], hS u D J)) (bI (EvM X d 216 [.ref 70, .int x1, .int x2, .int x5] (hS u D J)) (fun y h => Ev X (d + 1) 220 (25, [.ref 70, .int x1, .int x2, .int x3, .int x4, .int x5], [.int y], h)) (fun e h => some (.inr e, h))) := (sy_at X [0, 4, 7, 17, 19, 25] (d + 1) 220 8 _).trans rfl
theorem e220_25 {X : XS} {d u : Nat} {D : Nat → Nat → Int32} {J : Nat → Nat → Int64} (x1 : Int32) (x2 : Int32) (x3 : Int32) (x4 : Int32) (x5 : Int32) (y0 : Int32) : Ev X d 220 (25, [.ref 70, .int x1, .int x2, .int x3, .int x4, .int x5], [.int y0], hS u D J) =
    some (.inl (some (.int y0)), hS u D J) := (sy_at X [0, 4, 7, 17, 19, 25] d 220 3 _).trans rfl
theorem e221_0 {X : XS} {d u : Nat} {D : Nat → Nat → Int32} {J : Nat → Nat → Int64} (x1 : Int32) (x2 : Int32) : Ev X d 221 (0, [.ref 70, .int x1, .int x2, .null, .null, .null, .null], [], hS u D J) =
    Ev X d 221 (7, [.ref 70, .int x1, .int x2, .int x2, .int 0, .null, .null], [], hS u (ud D 70 40 0) J) := (sy_at X [0, 7, 10, 18, 26, 27, 36, 45, 54, 63, 66, 78, 90, 102, 114, 120, 128, 132] d 221 9 _).trans rfl
theorem e221_7 {X : XS} {d u : Nat} {D : Nat → Nat → Int32} {J : Nat → Nat → Int64} (x1 : Int32) (x2 : Int32) (x3 : Int32) (x4 : Int32) : Ev X d 221 (7, [.ref 70, .int x1, .int x2, .int x3, .int x4, .null, .null], [], hS u D J) =
    Ev X d 221 (10, [.ref 70, .int x1, .int x2, .int x3, .int x4, .null, .null], [], hS u (ud D 70 41 0) J) := (sy_at X [0, 7, 10, 18, 26, 27, 36, 45, 54, 63, 66, 78, 90, 102, 114, 120, 128, 132] d 221 5 _).trans rfl
theorem e221_10 {X : XS} {d u : Nat} {D : Nat → Nat → Int32} {J : Nat → Nat → Int64} (x1 : Int32) (x2 : Int32) (x3 : Int32) (x4 : Int32) : Ev X (d + 1) 221 (10, [.ref 70, .int x1, .int x2, .int x3, .int x4, .null, .null], [], hS u D J) =
    br (decide (x3 = (-1))) (Ev X (d + 1) 221 (132, [.ref 70, .int x1, .int x2, .int x3, .int x4, .null, .null], [], hS u D J)) (bI (EvM X d 220 [.ref 70, .int x1, .int x4, .int x3] (hS u D J)) (fun y h => Ev X (d + 1) 221 (18, [.ref 70, .int x1, .int x2, .int x3, .int x4, .null, .null], [.int y], h)) (fun e h => some (.inr e, h))) := (sy_at X [0, 7, 10, 18, 26, 27, 36, 45, 54, 63, 66, 78, 90, 102, 114, 120, 128, 132] (d + 1) 221 10 _).trans rfl
theorem e221_18 {X : XS} {d u : Nat} {D : Nat → Nat → Int32} {J : Nat → Nat → Int64} (x1 : Int32) (x2 : Int32) (x3 : Int32) (x4 : Int32) (y0 : Int32) : Ev X (d + 1) 221 (18, [.ref 70, .int x1, .int x2, .int x3, .int x4, .null, .null], [.int y0], hS u D J) =
    br (decide (¬ y0 = (-1))) (Ev X (d + 1) 221 (27, [.ref 70, .int x1, .int x2, .int x3, .int x4, .int y0, .null], [], hS u D J)) (bI (EvM X d 215 [.ref 70, .int x1, .int x4] (hS u D J)) (fun y h => Ev X (d + 1) 221 (26, [.ref 70, .int x1, .int x2, .int x3, .int x4, .int y0, .null], [.int y], h)) (fun e h => some (.inr e, h))) := (sy_at X [0, 7, 10, 18, 26, 27, 36, 45, 54, 63, 66, 78, 90, 102, 114, 120, 128, 132] (d + 1) 221 10 _).trans rfl
theorem e221_26 {X : XS} {d u : Nat} {D : Nat → Nat → Int32} {J : Nat → Nat → Int64} (x1 : Int32) (x2 : Int32) (x3 : Int32) (x4 : Int32) (x5 : Int32) (y0 : Int32) : Ev X d 221 (26, [.ref 70, .int x1, .int x2, .int x3, .int x4, .int x5, .null], [.int y0], hS u D J) =
    Ev X d 221 (36, [.ref 70, .int x1, .int x2, .int x3, .int x4, .int x5, .int y0], [], hS u D J) := (sy_at X [0, 7, 10, 18, 26, 27, 36, 45, 54, 63, 66, 78, 90, 102, 114, 120, 128, 132] d 221 4 _).trans rfl
theorem e221_27 {X : XS} {d u : Nat} {D : Nat → Nat → Int32} {J : Nat → Nat → Int64} (x1 : Int32) (x2 : Int32) (x3 : Int32) (x4 : Int32) (x5 : Int32) : Ev X d 221 (27, [.ref 70, .int x1, .int x2, .int x3, .int x4, .int x5, .null], [], hS u D J) =
    gd (ob ((x1 + 25) + x5) 170) (Ev X d 221 (36, [.ref 70, .int x1, .int x2, .int x3, .int x4, .int x5, .int (D 78 ((x1 + 25) + x5).toNatClampNeg)], [], hS u D J)) := (sy_at X [0, 7, 10, 18, 26, 27, 36, 45, 54, 63, 66, 78, 90, 102, 114, 120, 128, 132] d 221 11 _).trans rfl
theorem e221_36 {X : XS} {d u : Nat} {D : Nat → Nat → Int32} {J : Nat → Nat → Int64} (x1 : Int32) (x2 : Int32) (x3 : Int32) (x4 : Int32) (x5 : Int32) (x6 : Int32) : Ev X d 221 (36, [.ref 70, .int x1, .int x2, .int x3, .int x4, .int x5, .int x6], [], hS u D J) =
    br (decide (¬ x5 = (-1))) (Ev X d 221 (45, [.ref 70, .int x1, .int x2, .int x3, .int x4, .int x5, .int x6], [], hS u D J)) (br (decide (x6 < (D 70 2))) (Ev X d 221 (45, [.ref 70, .int x1, .int x2, .int x3, .int x4, .int x5, .int x6], [], hS u D J)) (Ev X d 221 (10, [.ref 70, .int x1, .int x2, .int x3, .int (x4 + 1), .int x5, .int x6], [], hS u D J))) := (sy_at X [0, 7, 10, 18, 26, 27, 36, 45, 54, 63, 66, 78, 90, 102, 114, 120, 128, 132] d 221 11 _).trans rfl
theorem e221_45 {X : XS} {d u : Nat} {D : Nat → Nat → Int32} {J : Nat → Nat → Int64} (x1 : Int32) (x2 : Int32) (x3 : Int32) (x4 : Int32) (x5 : Int32) (x6 : Int32) : Ev X d 221 (45, [.ref 70, .int x1, .int x2, .int x3, .int x4, .int x5, .int x6], [], hS u D J) =
    gd (ob ((x1 + 13) + x3) 170) (Ev X d 221 (54, [.ref 70, .int x1, .int x2, .int x3, .int x4, .int x5, .int x6], [], hS u (ud D 78 ((x1 + 13) + x3).toNatClampNeg x4) J)) := (sy_at X [0, 7, 10, 18, 26, 27, 36, 45, 54, 63, 66, 78, 90, 102, 114, 120, 128, 132] d 221 11 _).trans rfl
theorem e221_54 {X : XS} {d u : Nat} {D : Nat → Nat → Int32} {J : Nat → Nat → Int64} (x1 : Int32) (x2 : Int32) (x3 : Int32) (x4 : Int32) (x5 : Int32) (x6 : Int32) : Ev X d 221 (54, [.ref 70, .int x1, .int x2, .int x3, .int x4, .int x5, .int x6], [], hS u D J) =
    gd (ob ((x1 + 25) + x3) 170) (Ev X d 221 (63, [.ref 70, .int x1, .int x2, .int x3, .int x4, .int x5, .int x6], [], hS u (ud D 78 ((x1 + 25) + x3).toNatClampNeg x6) J)) := (sy_at X [0, 7, 10, 18, 26, 27, 36, 45, 54, 63, 66, 78, 90, 102, 114, 120, 128, 132] d 221 11 _).trans rfl
theorem e221_63 {X : XS} {d u : Nat} {D : Nat → Nat → Int32} {J : Nat → Nat → Int64} (x1 : Int32) (x2 : Int32) (x3 : Int32) (x4 : Int32) (x5 : Int32) (x6 : Int32) : Ev X d 221 (63, [.ref 70, .int x1, .int x2, .int x3, .int x4, .int x5, .int x6], [], hS u D J) =
    Ev X d 221 (66, [.ref 70, .int x1, .int x2, .int x3, .int x4, .int x5, .int x6], [], hS u (ud D 70 42 x4) J) := (sy_at X [0, 7, 10, 18, 26, 27, 36, 45, 54, 63, 66, 78, 90, 102, 114, 120, 128, 132] d 221 5 _).trans rfl
set_option maxRecDepth 20000 in
theorem e221_66 {X : XS} {d u : Nat} {D : Nat → Nat → Int32} {J : Nat → Nat → Int64} (x1 : Int32) (x2 : Int32) (x3 : Int32) (x4 : Int32) (x5 : Int32) (x6 : Int32) : Ev X d 221 (66, [.ref 70, .int x1, .int x2, .int x3, .int x4, .int x5, .int x6], [], hS u D J) =
    br (decide (x5 = (-1))) (Ev X d 221 (128, [.ref 70, .int x1, .int x2, .int x3, .int x4, .int x5, .int x6], [], hS u D J)) (gd (ob ((x1 + 13) + x5) 170) (Ev X d 221 (78, [.ref 70, .int x1, .int x2, .int x3, .int x4, .int x5, .int x6], [], hS u (ud D 78 ((x1 + 13) + x5).toNatClampNeg (-1)) J))) := (sy_at X [0, 7, 10, 18, 26, 27, 36, 45, 54, 63, 66, 78, 90, 102, 114, 120, 128, 132] d 221 14 _).trans rfl
set_option maxRecDepth 20000 in
theorem e221_78 {X : XS} {d u : Nat} {D : Nat → Nat → Int32} {J : Nat → Nat → Int64} (x1 : Int32) (x2 : Int32) (x3 : Int32) (x4 : Int32) (x5 : Int32) (x6 : Int32) : Ev X d 221 (78, [.ref 70, .int x1, .int x2, .int x3, .int x4, .int x5, .int x6], [], hS u D J) =
    gd (ob ((x1 + 37) + x5) 170) (gd (ob ((x1 + 37) + x5) 170) (Ev X d 221 (90, [.ref 70, .int x1, .int x2, .int x3, .int x4, .int x5, .int x6], [], hS u (ud D 78 ((x1 + 37) + x5).toNatClampNeg ((D 78 ((x1 + 37) + x5).toNatClampNeg) + 1)) J))) := (sy_at X [0, 7, 10, 18, 26, 27, 36, 45, 54, 63, 66, 78, 90, 102, 114, 120, 128, 132] d 221 14 _).trans rfl
set_option maxRecDepth 20000 in
theorem e221_90 {X : XS} {d u : Nat} {D : Nat → Nat → Int32} {J : Nat → Nat → Int64} (x1 : Int32) (x2 : Int32) (x3 : Int32) (x4 : Int32) (x5 : Int32) (x6 : Int32) : Ev X d 221 (90, [.ref 70, .int x1, .int x2, .int x3, .int x4, .int x5, .int x6], [], hS u D J) =
    gd (ob ((x1 + 49) + x5) 170) (gd (ob ((x1 + 49) + x5) 170) (Ev X d 221 (102, [.ref 70, .int x1, .int x2, .int x3, .int x4, .int x5, .int x6], [], hS u (ud D 78 ((x1 + 49) + x5).toNatClampNeg ((D 78 ((x1 + 49) + x5).toNatClampNeg) + 1)) J))) := (sy_at X [0, 7, 10, 18, 26, 27, 36, 45, 54, 63, 66, 78, 90, 102, 114, 120, 128, 132] d 221 14 _).trans rfl
set_option maxRecDepth 20000 in
theorem e221_102 {X : XS} {d u : Nat} {D : Nat → Nat → Int32} {J : Nat → Nat → Int64} (x1 : Int32) (x2 : Int32) (x3 : Int32) (x4 : Int32) (x5 : Int32) (x6 : Int32) : Ev X d 221 (102, [.ref 70, .int x1, .int x2, .int x3, .int x4, .int x5, .int x6], [], hS u D J) =
    gd (ob ((12 * x5) + x3) 144) (gd (ob ((12 * x5) + x3) 144) (Ev X d 221 (114, [.ref 70, .int x1, .int x2, .int x3, .int x4, .int x5, .int x6], [], hS u (ud D 80 ((12 * x5) + x3).toNatClampNeg ((D 80 ((12 * x5) + x3).toNatClampNeg) + 1)) J))) := (sy_at X [0, 7, 10, 18, 26, 27, 36, 45, 54, 63, 66, 78, 90, 102, 114, 120, 128, 132] d 221 14 _).trans rfl
theorem e221_114 {X : XS} {d u : Nat} {D : Nat → Nat → Int32} {J : Nat → Nat → Int64} (x1 : Int32) (x2 : Int32) (x3 : Int32) (x4 : Int32) (x5 : Int32) (x6 : Int32) : Ev X d 221 (114, [.ref 70, .int x1, .int x2, .int x3, .int x4, .int x5, .int x6], [], hS u D J) =
    Ev X d 221 (120, [.ref 70, .int x1, .int x2, .int x3, .int x4, .int x5, .int x6], [], hS u (ud D 70 40 ((D 70 40) + 1)) J) := (sy_at X [0, 7, 10, 18, 26, 27, 36, 45, 54, 63, 66, 78, 90, 102, 114, 120, 128, 132] d 221 8 _).trans rfl
theorem e221_120 {X : XS} {d u : Nat} {D : Nat → Nat → Int32} {J : Nat → Nat → Int64} (x1 : Int32) (x2 : Int32) (x3 : Int32) (x4 : Int32) (x5 : Int32) (x6 : Int32) : Ev X d 221 (120, [.ref 70, .int x1, .int x2, .int x3, .int x4, .int x5, .int x6], [], hS u D J) =
    Ev X d 221 (128, [.ref 70, .int x1, .int x2, .int x3, .int x4, .int x5, .int x6], [], hS u (ud D 70 41 ((D 70 41) ||| ((1 : Int32) <<< (x5 &&& 31)))) J) := (sy_at X [0, 7, 10, 18, 26, 27, 36, 45, 54, 63, 66, 78, 90, 102, 114, 120, 128, 132] d 221 10 _).trans rfl
theorem e221_128 {X : XS} {d u : Nat} {D : Nat → Nat → Int32} {J : Nat → Nat → Int64} (x1 : Int32) (x2 : Int32) (x3 : Int32) (x4 : Int32) (x5 : Int32) (x6 : Int32) : Ev X d 221 (128, [.ref 70, .int x1, .int x2, .int x3, .int x4, .int x5, .int x6], [], hS u D J) =
    Ev X d 221 (10, [.ref 70, .int x1, .int x2, .int x5, .int (x4 + 1), .int x5, .int x6], [], hS u D J) := (sy_at X [0, 7, 10, 18, 26, 27, 36, 45, 54, 63, 66, 78, 90, 102, 114, 120, 128, 132] d 221 6 _).trans rfl
theorem e221_132 {X : XS} {d u : Nat} {D : Nat → Nat → Int32} {J : Nat → Nat → Int64} (x1 : Int32) (x2 : Int32) (x3 : Int32) (x4 : Int32) : Ev X d 221 (132, [.ref 70, .int x1, .int x2, .int x3, .int x4, .null, .null], [], hS u D J) =
    some (.inl none, hS u D J) := (sy_at X [0, 7, 10, 18, 26, 27, 36, 45, 54, 63, 66, 78, 90, 102, 114, 120, 128, 132] d 221 3 _).trans rfl
set_option maxRecDepth 20000 in
theorem e222_0 {X : XS} {d u : Nat} {D : Nat → Nat → Int32} {J : Nat → Nat → Int64} (x1 : Int32) (x2 : Int32) : Ev X d 222 (0, [.ref 70, .int x1, .int x2, .null], [], hS u D J) =
    gd (ob ((x1 + 13) + x2) 170) (br (decide ((D 78 ((x1 + 13) + x2).toNatClampNeg) = (-1))) (Ev X d 222 (12, [.ref 70, .int x1, .int x2, .null], [], hS u D J)) (Ev X d 222 (14, [.ref 70, .int x1, .int x2, .int 1], [], hS u D J))) := (sy_at X [0, 12, 14, 26, 36, 48, 64, 80, 92] d 222 15 _).trans rfl
theorem e222_12 {X : XS} {d u : Nat} {D : Nat → Nat → Int32} {J : Nat → Nat → Int64} (x1 : Int32) (x2 : Int32) : Ev X d 222 (12, [.ref 70, .int x1, .int x2, .null], [], hS u D J) =
    Ev X d 222 (14, [.ref 70, .int x1, .int x2, .int 0], [], hS u D J) := (sy_at X [0, 12, 14, 26, 36, 48, 64, 80, 92] d 222 4 _).trans rfl
set_option maxRecDepth 20000 in
theorem e222_14 {X : XS} {d u : Nat} {D : Nat → Nat → Int32} {J : Nat → Nat → Int64} (x1 : Int32) (x2 : Int32) (x3 : Int32) : Ev X d 222 (14, [.ref 70, .int x1, .int x2, .int x3], [], hS u D J) =
    gd (ob ((x1 + 61) + x2) 170) (Ev X d 222 (26, [.ref 70, .int x1, .int x2, .int x3], [], hS u (ud D 81 0 (D 78 ((x1 + 61) + x2).toNatClampNeg)) J)) := (sy_at X [0, 12, 14, 26, 36, 48, 64, 80, 92] d 222 14 _).trans rfl
theorem e222_26 {X : XS} {d u : Nat} {D : Nat → Nat → Int32} {J : Nat → Nat → Int64} (x1 : Int32) (x2 : Int32) (x3 : Int32) : Ev X d 222 (26, [.ref 70, .int x1, .int x2, .int x3], [], hS u D J) =
    gd (ob (x1 + 0) 170) (Ev X d 222 (36, [.ref 70, .int x1, .int x2, .int x3], [], hS u (ud D 81 1 (D 78 (x1 + 0).toNatClampNeg)) J)) := (sy_at X [0, 12, 14, 26, 36, 48, 64, 80, 92] d 222 12 _).trans rfl
set_option maxRecDepth 20000 in
theorem e222_36 {X : XS} {d u : Nat} {D : Nat → Nat → Int32} {J : Nat → Nat → Int64} (x1 : Int32) (x2 : Int32) (x3 : Int32) : Ev X d 222 (36, [.ref 70, .int x1, .int x2, .int x3], [], hS u D J) =
    gd (ob ((x1 + 1) + x2) 170) (Ev X d 222 (48, [.ref 70, .int x1, .int x2, .int x3], [], hS u (ud D 81 2 (D 78 ((x1 + 1) + x2).toNatClampNeg)) J)) := (sy_at X [0, 12, 14, 26, 36, 48, 64, 80, 92] d 222 14 _).trans rfl
set_option maxRecDepth 20000 in
theorem e222_48 {X : XS} {d u : Nat} {D : Nat → Nat → Int32} {J : Nat → Nat → Int64} (x1 : Int32) (x2 : Int32) (x3 : Int32) : Ev X d 222 (48, [.ref 70, .int x1, .int x2, .int x3], [], hS u D J) =
    br (decide (x3 = 0)) (Ev X d 222 (64, [.ref 70, .int x1, .int x2, .int x3], [], hS u (ud D 81 3 12) J)) (gd (ob ((x1 + 13) + x2) 170) (Ev X d 222 (64, [.ref 70, .int x1, .int x2, .int x3], [], hS u (ud D 81 3 (D 78 ((x1 + 13) + x2).toNatClampNeg)) J))) := (sy_at X [0, 12, 14, 26, 36, 48, 64, 80, 92] d 222 17 _).trans rfl
set_option maxRecDepth 20000 in
theorem e222_64 {X : XS} {d u : Nat} {D : Nat → Nat → Int32} {J : Nat → Nat → Int64} (x1 : Int32) (x2 : Int32) (x3 : Int32) : Ev X d 222 (64, [.ref 70, .int x1, .int x2, .int x3], [], hS u D J) =
    br (decide (x3 = 0)) (Ev X d 222 (80, [.ref 70, .int x1, .int x2, .int x3], [], hS u (ud D 81 4 12) J)) (gd (ob ((x1 + 25) + x2) 170) (Ev X d 222 (80, [.ref 70, .int x1, .int x2, .int x3], [], hS u (ud D 81 4 (D 78 ((x1 + 25) + x2).toNatClampNeg)) J))) := (sy_at X [0, 12, 14, 26, 36, 48, 64, 80, 92] d 222 17 _).trans rfl
set_option maxRecDepth 20000 in
theorem e222_80 {X : XS} {d u : Nat} {D : Nat → Nat → Int32} {J : Nat → Nat → Int64} (x1 : Int32) (x2 : Int32) (x3 : Int32) : Ev X d 222 (80, [.ref 70, .int x1, .int x2, .int x3], [], hS u D J) =
    gd (ob ((x1 + 37) + x2) 170) (Ev X d 222 (92, [.ref 70, .int x1, .int x2, .int x3], [], hS u (ud D 81 5 (D 78 ((x1 + 37) + x2).toNatClampNeg)) J)) := (sy_at X [0, 12, 14, 26, 36, 48, 64, 80, 92] d 222 14 _).trans rfl
theorem e222_92 {X : XS} {d u : Nat} {D : Nat → Nat → Int32} {J : Nat → Nat → Int64} (x1 : Int32) (x2 : Int32) (x3 : Int32) : Ev X d 222 (92, [.ref 70, .int x1, .int x2, .int x3], [], hS u D J) =
    some (.inl none, hS u D J) := (sy_at X [0, 12, 14, 26, 36, 48, 64, 80, 92] d 222 3 _).trans rfl
set_option maxRecDepth 20000 in
theorem e223_0 {X : XS} {d u : Nat} {D : Nat → Nat → Int32} {J : Nat → Nat → Int64} (x1 : Int32) (x2 : Int32) : Ev X (d + 1) 223 (0, [.ref 70, .int x1, .int x2], [], hS u D J) =
    gd (ob ((x1 + 73) + x2) 170) (br (decide (0 < (D 78 ((x1 + 73) + x2).toNatClampNeg))) (some (.inl (some (.int 0)), hS u D J)) (br (decide ((D 70 43) = 0)) (br (decide (¬ (D 70 4) = (-1))) (bV (EvM X d 222 [.ref 70, .int x1, .int x2] (hS u D J)) (fun h => Ev X (d + 1) 223 (34, [.ref 70, .int x1, .int x2], [], h)) (fun e h => some (.inr e, h))) (some (.inl (some (.int 1)), hS u D J))) (gd (ob ((x1 + 1) + x2) 170) (br (decide ((D 78 ((x1 + 1) + x2).toNatClampNeg) < 15)) (br (decide (¬ (D 70 4) = (-1))) (bV (EvM X d 222 [.ref 70, .int x1, .int x2] (hS u D J)) (fun h => Ev X (d + 1) 223 (34, [.ref 70, .int x1, .int x2], [], h)) (fun e h => some (.inr e, h))) (some (.inl (some (.int 1)), hS u D J))) (some (.inl (some (.int 0)), hS u D J)))))) := (sy_at X [0, 34, 38] (d + 1) 223 32 _).trans rfl
theorem e223_34 {X : XS} {d u : Nat} {D : Nat → Nat → Int32} {J : Nat → Nat → Int64} (x1 : Int32) (x2 : Int32) : Ev X (d + 1) 223 (34, [.ref 70, .int x1, .int x2], [], hS u D J) =
    bI (EvM X d 213 [.ref 70, .int (D 70 4)] (hS u D J)) (fun y h => Ev X (d + 1) 223 (38, [.ref 70, .int x1, .int x2], [.int y], h)) (fun e h => some (.inr e, h)) := (sy_at X [0, 34, 38] (d + 1) 223 6 _).trans rfl
theorem e223_38 {X : XS} {d u : Nat} {D : Nat → Nat → Int32} {J : Nat → Nat → Int64} (x1 : Int32) (x2 : Int32) (y0 : Int32) : Ev X d 223 (38, [.ref 70, .int x1, .int x2], [.int y0], hS u D J) =
    br (decide (0 < y0)) (some (.inl (some (.int 0)), hS u D J)) (some (.inl (some (.int 1)), hS u D J)) := (sy_at X [0, 34, 38] d 223 6 _).trans rfl
theorem e224_0 {X : XS} {d u : Nat} {D : Nat → Nat → Int32} {J : Nat → Nat → Int64} (x1 : Int32) : Ev X d 224 (0, [.ref 70, .int x1, .null, .null], [], hS u D J) =
    Ev X d 224 (5, [.ref 70, .int x1, .int 0, .null], [], hS u (ud D 70 46 0) J) := (sy_at X [0, 5, 13, 19, 32, 36] d 224 7 _).trans rfl
theorem e224_5 {X : XS} {d u : Nat} {D : Nat → Nat → Int32} {J : Nat → Nat → Int64} (x1 : Int32) (x2 : Int32) : Ev X (d + 1) 224 (5, [.ref 70, .int x1, .int x2, .null], [], hS u D J) =
    br (decide ((D 70 1) ≤ x2)) (some (.inl none, hS u D J)) (bI (EvM X d 223 [.ref 70, .int x1, .int x2] (hS u D J)) (fun y h => Ev X (d + 1) 224 (13, [.ref 70, .int x1, .int x2, .null], [.int y], h)) (fun e h => some (.inr e, h))) := (sy_at X [0, 5, 13, 19, 32, 36] (d + 1) 224 10 _).trans rfl
theorem e224_13 {X : XS} {d u : Nat} {D : Nat → Nat → Int32} {J : Nat → Nat → Int64} (x1 : Int32) (x2 : Int32) (y0 : Int32) : Ev X (d + 1) 224 (13, [.ref 70, .int x1, .int x2, .null], [.int y0], hS u D J) =
    br (decide (¬ y0 = 0)) (bV (EvM X d 222 [.ref 70, .int x1, .int x2] (hS u D J)) (fun h => Ev X (d + 1) 224 (19, [.ref 70, .int x1, .int x2, .null], [], h)) (fun e h => some (.inr e, h))) (Ev X (d + 1) 224 (5, [.ref 70, .int x1, .int (x2 + 1), .null], [], hS u D J)) := (sy_at X [0, 5, 13, 19, 32, 36] (d + 1) 224 7 _).trans rfl
set_option maxRecDepth 20000 in
theorem e224_19 {X : XS} {d u : Nat} {D : Nat → Nat → Int32} {J : Nat → Nat → Int64} (x1 : Int32) (x2 : Int32) : Ev X (d + 1) 224 (19, [.ref 70, .int x1, .int x2, .null], [], hS u D J) =
    br (decide (¬ (D 70 3) = (-1))) (bI (EvM X d 213 [.ref 70, .int (D 70 3)] (hS u D J)) (fun y h => Ev X (d + 1) 224 (32, [.ref 70, .int x1, .int x2, .null], [.int y, .int x2, .ref 84], h)) (fun e h => some (.inr e, h))) (Ev X (d + 1) 224 (32, [.ref 70, .int x1, .int x2, .null], [.int x2, .int x2, .ref 84], hS u D J)) := (sy_at X [0, 5, 13, 19, 32, 36] (d + 1) 224 13 _).trans rfl
theorem e224_32 {X : XS} {d u : Nat} {D : Nat → Nat → Int32} {J : Nat → Nat → Int64} (x1 : Int32) (x2 : Int32) (y0 : Int32) (y1 : Int32) : Ev X d 224 (32, [.ref 70, .int x1, .int x2, .null], [.int y0, .int y1, .ref 84], hS u D J) =
    gd (ob y1 12) (Ev X d 224 (36, [.ref 70, .int x1, .int x2, .int ((ud D 84 y1.toNatClampNeg y0) 70 46)], [], hS u (ud D 84 y1.toNatClampNeg y0) J)) := (sy_at X [0, 5, 13, 19, 32, 36] d 224 6 _).trans rfl
theorem f224_36 {X : XS} {d u : Nat} {D : Nat → Nat → Int32} {J : Nat → Nat → Int64} (x1 : Int32) (x2 : Int32) (x3 : Int32) : Ev X d 224 (36, [.ref 70, .int x1, .int x2, .int x3], [], hS u D J) =
    br (decide (x3 ≤ 0)) (gd (ob x3 12) (Ev X d 224 (69, [.ref 70, .int x1, .int x2, .int x3], [], hS u (ud D 83 x3.toNatClampNeg x2) J))) (gd (ob (x3 - 1) 12) (Ev X d 224 (46, [.ref 70, .int x1, .int x2, .int x3], [.int (D 83 (x3 - 1).toNatClampNeg), .ref 84], hS u D J))) := (sy_at X [0, 5, 13, 19, 32, 36, 46, 47, 51, 61, 62, 69] d 224 12 _).trans rfl
theorem f224_46 {X : XS} {d u : Nat} {D : Nat → Nat → Int32} {J : Nat → Nat → Int64} (x1 : Int32) (x2 : Int32) (x3 : Int32) (y0 : Int32) : Ev X d 224 (46, [.ref 70, .int x1, .int x2, .int x3], [.int y0, .ref 84], hS u D J) =
    gd (ob y0 12) (Ev X d 224 (47, [.ref 70, .int x1, .int x2, .int x3], [.int (D 84 y0.toNatClampNeg)], hS u D J)) := (sy_at X [0, 5, 13, 19, 32, 36, 46, 47, 51, 61, 62, 69] d 224 3 _).trans rfl
theorem f224_47 {X : XS} {d u : Nat} {D : Nat → Nat → Int32} {J : Nat → Nat → Int64} (x1 : Int32) (x2 : Int32) (x3 : Int32) (y0 : Int32) : Ev X d 224 (47, [.ref 70, .int x1, .int x2, .int x3], [.int y0], hS u D J) =
    gd (ob x2 12) (Ev X d 224 (51, [.ref 70, .int x1, .int x2, .int x3], [.int (D 84 x2.toNatClampNeg), .int y0], hS u D J)) := (sy_at X [0, 5, 13, 19, 32, 36, 46, 47, 51, 61, 62, 69] d 224 6 _).trans rfl
theorem f224_51 {X : XS} {d u : Nat} {D : Nat → Nat → Int32} {J : Nat → Nat → Int64} (x1 : Int32) (x2 : Int32) (x3 : Int32) (y0 : Int32) (y1 : Int32) : Ev X d 224 (51, [.ref 70, .int x1, .int x2, .int x3], [.int y0, .int y1], hS u D J) =
    br (decide (y1 ≤ y0)) (gd (ob x3 12) (Ev X d 224 (69, [.ref 70, .int x1, .int x2, .int x3], [], hS u (ud D 83 x3.toNatClampNeg x2) J))) (gd (ob (x3 - 1) 12) (Ev X d 224 (61, [.ref 70, .int x1, .int x2, .int x3], [.int (D 83 (x3 - 1).toNatClampNeg), .int x3, .ref 83], hS u D J))) := (sy_at X [0, 5, 13, 19, 32, 36, 46, 47, 51, 61, 62, 69] d 224 12 _).trans rfl
theorem f224_61 {X : XS} {d u : Nat} {D : Nat → Nat → Int32} {J : Nat → Nat → Int64} (x1 : Int32) (x2 : Int32) (x3 : Int32) (y0 : Int32) (y1 : Int32) : Ev X d 224 (61, [.ref 70, .int x1, .int x2, .int x3], [.int y0, .int y1, .ref 83], hS u D J) =
    gd (ob y1 12) (Ev X d 224 (62, [.ref 70, .int x1, .int x2, .int x3], [], hS u (ud D 83 y1.toNatClampNeg y0) J)) := (sy_at X [0, 5, 13, 19, 32, 36, 46, 47, 51, 61, 62, 69] d 224 3 _).trans rfl
theorem f224_62 {X : XS} {d u : Nat} {D : Nat → Nat → Int32} {J : Nat → Nat → Int64} (x1 : Int32) (x2 : Int32) (x3 : Int32) : Ev X d 224 (62, [.ref 70, .int x1, .int x2, .int x3], [], hS u D J) =
    Ev X d 224 (36, [.ref 70, .int x1, .int x2, .int (x3 + (-1))], [], hS u D J) := (sy_at X [0, 5, 13, 19, 32, 36, 46, 47, 51, 61, 62, 69] d 224 4 _).trans rfl
theorem f224_69 {X : XS} {d u : Nat} {D : Nat → Nat → Int32} {J : Nat → Nat → Int64} (x1 : Int32) (x2 : Int32) (x3 : Int32) : Ev X d 224 (69, [.ref 70, .int x1, .int x2, .int x3], [], hS u D J) =
    Ev X d 224 (5, [.ref 70, .int x1, .int (x2 + 1), .int x3], [], hS u (ud D 70 46 ((D 70 46) + 1)) J) := (sy_at X [0, 5, 13, 19, 32, 36, 46, 47, 51, 61, 62, 69] d 224 10 _).trans rfl
set_option maxRecDepth 20000 in
theorem e224_36 {X : XS} {d u : Nat} {D : Nat → Nat → Int32} {J : Nat → Nat → Int64} (x1 : Int32) (x2 : Int32) (x3 : Int32) : Ev X d 224 (36, [.ref 70, .int x1, .int x2, .int x3], [], hS u D J) =
    br (decide (x3 ≤ 0)) (gd (ob x3 12) (Ev X d 224 (5, [.ref 70, .int x1, .int (x2 + 1), .int x3], [], hS u (ud (ud D 83 x3.toNatClampNeg x2) 70 46 (((ud D 83 x3.toNatClampNeg x2) 70 46) + 1)) J))) (gd (ob (x3 - 1) 12) (gd (ob (D 83 (x3 - 1).toNatClampNeg) 12) (gd (ob x2 12) (br (decide ((D 84 (D 83 (x3 - 1).toNatClampNeg).toNatClampNeg) ≤ (D 84 x2.toNatClampNeg))) (gd (ob x3 12) (Ev X d 224 (5, [.ref 70, .int x1, .int (x2 + 1), .int x3], [], hS u (ud (ud D 83 x3.toNatClampNeg x2) 70 46 (((ud D 83 x3.toNatClampNeg x2) 70 46) + 1)) J))) (gd (ob (x3 - 1) 12) (gd (ob x3 12) (Ev X d 224 (36, [.ref 70, .int x1, .int x2, .int (x3 + (-1))], [], hS u (ud D 83 x3.toNatClampNeg (D 83 (x3 - 1).toNatClampNeg)) J)))))))) := by
  refine (f224_36 _ _ _).trans ?_
  simp only [f224_46, f224_47, f224_51, f224_61, f224_62, f224_69]
theorem e225_0 {X : XS} {d u : Nat} {D : Nat → Nat → Int32} {J : Nat → Nat → Int64} (x1 : Int32) : Ev X d 225 (0, [.ref 70, .int x1, .null], [], hS u D J) =
    Ev X d 225 (2, [.ref 70, .int x1, .int 0], [], hS u D J) := (sy_at X [0, 2] d 225 4 _).trans rfl
set_option maxRecDepth 20000 in
theorem e225_2 {X : XS} {d u : Nat} {D : Nat → Nat → Int32} {J : Nat → Nat → Int64} (x1 : Int32) (x2 : Int32) : Ev X d 225 (2, [.ref 70, .int x1, .int x2], [], hS u D J) =
    br (decide ((D 70 46) ≤ x2)) (some (.inl (some (.int (-1))), hS u D J)) (gd (ob x2 12) (br (decide (¬ (D 83 x2.toNatClampNeg) = x1)) (Ev X d 225 (2, [.ref 70, .int x1, .int (x2 + 1)], [], hS u D J)) (some (.inl (some (.int x2)), hS u D J)))) := (sy_at X [0, 2] d 225 14 _).trans rfl
theorem e226_0 {X : XS} {d u : Nat} {D : Nat → Nat → Int32} {J : Nat → Nat → Int64} (x1 : Int32) (x2 : Int32) : Ev X (d + 1) 226 (0, [.ref 70, .int x1, .int x2, .null, .null], [], hS u D J) =
    bI (EvM X d 225 [.ref 70, .int x1] (hS u D J)) (fun y h => Ev X (d + 1) 226 (3, [.ref 70, .int x1, .int x2, .null, .null], [.int y], h)) (fun e h => some (.inr e, h)) := (sy_at X [0, 3, 12, 35] (d + 1) 226 5 _).trans rfl
theorem e226_3 {X : XS} {d u : Nat} {D : Nat → Nat → Int32} {J : Nat → Nat → Int64} (x1 : Int32) (x2 : Int32) (y0 : Int32) : Ev X d 226 (3, [.ref 70, .int x1, .int x2, .null, .null], [.int y0], hS u D J) =
    Ev X d 226 (12, [.ref 70, .int x1, .int x2, .int y0, .int y0], [], hS u (ud D 70 46 ((D 70 46) - 1)) J) := (sy_at X [0, 3, 12, 35] d 226 11 _).trans rfl
set_option maxRecDepth 20000 in
theorem f226_12 {X : XS} {d u : Nat} {D : Nat → Nat → Int32} {J : Nat → Nat → Int64} (x1 : Int32) (x2 : Int32) (x3 : Int32) (x4 : Int32) : Ev X d 226 (12, [.ref 70, .int x1, .int x2, .int x3, .int x4], [], hS u D J) =
    br (decide ((D 70 46) ≤ x4)) (br (decide (¬ x2 = (-1))) (Ev X d 226 (35, [.ref 70, .int x1, .int x2, .int x3, .int (D 70 46)], [], hS u D J)) (some (.inl none, hS u D J))) (gd (ob (x4 + 1) 12) (Ev X d 226 (25, [.ref 70, .int x1, .int x2, .int x3, .int x4], [.int (D 83 (x4 + 1).toNatClampNeg), .int x4, .ref 83], hS u D J))) := (sy_at X [0, 3, 12, 25, 26, 35, 47, 48, 55] d 226 15 _).trans rfl
theorem f226_25 {X : XS} {d u : Nat} {D : Nat → Nat → Int32} {J : Nat → Nat → Int64} (x1 : Int32) (x2 : Int32) (x3 : Int32) (x4 : Int32) (y0 : Int32) (y1 : Int32) : Ev X d 226 (25, [.ref 70, .int x1, .int x2, .int x3, .int x4], [.int y0, .int y1, .ref 83], hS u D J) =
    gd (ob y1 12) (Ev X d 226 (26, [.ref 70, .int x1, .int x2, .int x3, .int x4], [], hS u (ud D 83 y1.toNatClampNeg y0) J)) := (sy_at X [0, 3, 12, 25, 26, 35, 47, 48, 55] d 226 3 _).trans rfl
theorem f226_26 {X : XS} {d u : Nat} {D : Nat → Nat → Int32} {J : Nat → Nat → Int64} (x1 : Int32) (x2 : Int32) (x3 : Int32) (x4 : Int32) : Ev X d 226 (26, [.ref 70, .int x1, .int x2, .int x3, .int x4], [], hS u D J) =
    Ev X d 226 (12, [.ref 70, .int x1, .int x2, .int x3, .int (x4 + 1)], [], hS u D J) := (sy_at X [0, 3, 12, 25, 26, 35, 47, 48, 55] d 226 4 _).trans rfl
set_option maxRecDepth 20000 in
theorem e226_12 {X : XS} {d u : Nat} {D : Nat → Nat → Int32} {J : Nat → Nat → Int64} (x1 : Int32) (x2 : Int32) (x3 : Int32) (x4 : Int32) : Ev X d 226 (12, [.ref 70, .int x1, .int x2, .int x3, .int x4], [], hS u D J) =
    br (decide ((D 70 46) ≤ x4)) (br (decide (¬ x2 = (-1))) (Ev X d 226 (35, [.ref 70, .int x1, .int x2, .int x3, .int (D 70 46)], [], hS u D J)) (some (.inl none, hS u D J))) (gd (ob (x4 + 1) 12) (gd (ob x4 12) (Ev X d 226 (12, [.ref 70, .int x1, .int x2, .int x3, .int (x4 + 1)], [], hS u (ud D 83 x4.toNatClampNeg (D 83 (x4 + 1).toNatClampNeg)) J)))) := by
  refine (f226_12 _ _ _ _).trans ?_
  simp only [f226_25, f226_26]
set_option maxRecDepth 20000 in
theorem f226_35 {X : XS} {d u : Nat} {D : Nat → Nat → Int32} {J : Nat → Nat → Int64} (x1 : Int32) (x2 : Int32) (x3 : Int32) (x4 : Int32) : Ev X d 226 (35, [.ref 70, .int x1, .int x2, .int x3, .int x4], [], hS u D J) =
    br (decide (x4 ≤ x2)) (gd (ob x2 12) (Ev X d 226 (55, [.ref 70, .int x1, .int x2, .int x3, .int x4], [], hS u (ud D 83 x2.toNatClampNeg x1) J))) (gd (ob (x4 - 1) 12) (Ev X d 226 (47, [.ref 70, .int x1, .int x2, .int x3, .int x4], [.int (D 83 (x4 - 1).toNatClampNeg), .int x4, .ref 83], hS u D J))) := (sy_at X [0, 3, 12, 25, 26, 35, 47, 48, 55] d 226 14 _).trans rfl
theorem f226_47 {X : XS} {d u : Nat} {D : Nat → Nat → Int32} {J : Nat → Nat → Int64} (x1 : Int32) (x2 : Int32) (x3 : Int32) (x4 : Int32) (y0 : Int32) (y1 : Int32) : Ev X d 226 (47, [.ref 70, .int x1, .int x2, .int x3, .int x4], [.int y0, .int y1, .ref 83], hS u D J) =
    gd (ob y1 12) (Ev X d 226 (48, [.ref 70, .int x1, .int x2, .int x3, .int x4], [], hS u (ud D 83 y1.toNatClampNeg y0) J)) := (sy_at X [0, 3, 12, 25, 26, 35, 47, 48, 55] d 226 3 _).trans rfl
theorem f226_48 {X : XS} {d u : Nat} {D : Nat → Nat → Int32} {J : Nat → Nat → Int64} (x1 : Int32) (x2 : Int32) (x3 : Int32) (x4 : Int32) : Ev X d 226 (48, [.ref 70, .int x1, .int x2, .int x3, .int x4], [], hS u D J) =
    Ev X d 226 (35, [.ref 70, .int x1, .int x2, .int x3, .int (x4 + (-1))], [], hS u D J) := (sy_at X [0, 3, 12, 25, 26, 35, 47, 48, 55] d 226 4 _).trans rfl
theorem f226_55 {X : XS} {d u : Nat} {D : Nat → Nat → Int32} {J : Nat → Nat → Int64} (x1 : Int32) (x2 : Int32) (x3 : Int32) (x4 : Int32) : Ev X d 226 (55, [.ref 70, .int x1, .int x2, .int x3, .int x4], [], hS u D J) =
    some (.inl none, hS u (ud D 70 46 ((D 70 46) + 1)) J) := (sy_at X [0, 3, 12, 25, 26, 35, 47, 48, 55] d 226 9 _).trans rfl
set_option maxRecDepth 20000 in
theorem e226_35 {X : XS} {d u : Nat} {D : Nat → Nat → Int32} {J : Nat → Nat → Int64} (x1 : Int32) (x2 : Int32) (x3 : Int32) (x4 : Int32) : Ev X d 226 (35, [.ref 70, .int x1, .int x2, .int x3, .int x4], [], hS u D J) =
    br (decide (x4 ≤ x2)) (gd (ob x2 12) (some (.inl none, hS u (ud (ud D 83 x2.toNatClampNeg x1) 70 46 (((ud D 83 x2.toNatClampNeg x1) 70 46) + 1)) J))) (gd (ob (x4 - 1) 12) (gd (ob x4 12) (Ev X d 226 (35, [.ref 70, .int x1, .int x2, .int x3, .int (x4 + (-1))], [], hS u (ud D 83 x4.toNatClampNeg (D 83 (x4 - 1).toNatClampNeg)) J)))) := by
  refine (f226_35 _ _ _ _).trans ?_
  simp only [f226_47, f226_48, f226_55]
theorem e227_0 {X : XS} {d u : Nat} {D : Nat → Nat → Int32} {J : Nat → Nat → Int64} (x1 : Int32) : Ev X d 227 (0, [.ref 70, .int x1, .null], [], hS u D J) =
    Ev X d 227 (2, [.ref 70, .int x1, .int 0], [], hS u D J) := (sy_at X [0, 2, 15, 24, 33, 43, 58, 81, 83, 85, 96, 98, 108] d 227 4 _).trans rfl
set_option maxRecDepth 20000 in
theorem e227_2 {X : XS} {d u : Nat} {D : Nat → Nat → Int32} {J : Nat → Nat → Int64} (x1 : Int32) (x2 : Int32) : Ev X d 227 (2, [.ref 70, .int x1, .int x2], [], hS u D J) =
    br (decide ((D 70 1) ≤ x2)) (Ev X d 227 (83, [.ref 70, .int x1, .int x2], [], hS u D J)) (gd (ob ((x1 + 13) + x2) 170) (Ev X d 227 (15, [.ref 70, .int x1, .int x2], [], hS u (ud D 78 ((x1 + 13) + x2).toNatClampNeg (-1)) J))) := (sy_at X [0, 2, 15, 24, 33, 43, 58, 81, 83, 85, 96, 98, 108] d 227 15 _).trans rfl
theorem e227_15 {X : XS} {d u : Nat} {D : Nat → Nat → Int32} {J : Nat → Nat → Int64} (x1 : Int32) (x2 : Int32) : Ev X d 227 (15, [.ref 70, .int x1, .int x2], [], hS u D J) =
    gd (ob ((x1 + 25) + x2) 170) (Ev X d 227 (24, [.ref 70, .int x1, .int x2], [], hS u (ud D 78 ((x1 + 25) + x2).toNatClampNeg (-1)) J)) := (sy_at X [0, 2, 15, 24, 33, 43, 58, 81, 83, 85, 96, 98, 108] d 227 11 _).trans rfl
theorem e227_24 {X : XS} {d u : Nat} {D : Nat → Nat → Int32} {J : Nat → Nat → Int64} (x1 : Int32) (x2 : Int32) : Ev X d 227 (24, [.ref 70, .int x1, .int x2], [], hS u D J) =
    gd (ob ((x1 + 37) + x2) 170) (Ev X d 227 (33, [.ref 70, .int x1, .int x2], [], hS u (ud D 78 ((x1 + 37) + x2).toNatClampNeg 0) J)) := (sy_at X [0, 2, 15, 24, 33, 43, 58, 81, 83, 85, 96, 98, 108] d 227 11 _).trans rfl
theorem e227_33 {X : XS} {d u : Nat} {D : Nat → Nat → Int32} {J : Nat → Nat → Int64} (x1 : Int32) (x2 : Int32) : Ev X (d + 1) 227 (33, [.ref 70, .int x1, .int x2], [], hS u D J) =
    bI (EvM X d 225 [.ref 70, .int x2] (hS u D J)) (fun y h => Ev X (d + 1) 227 (43, [.ref 70, .int x1, .int x2], [.int y, .int ((x1 + 61) + x2), .ref 78], h)) (fun e h => some (.inr e, h)) := (sy_at X [0, 2, 15, 24, 33, 43, 58, 81, 83, 85, 96, 98, 108] (d + 1) 227 12 _).trans rfl
theorem f227_43 {X : XS} {d u : Nat} {D : Nat → Nat → Int32} {J : Nat → Nat → Int64} (x1 : Int32) (x2 : Int32) (y0 : Int32) (y1 : Int32) : Ev X d 227 (43, [.ref 70, .int x1, .int x2], [.int y0, .int y1, .ref 78], hS u D J) =
    br (decide (¬ y0 = (-1))) (gd (ob y1 170) (Ev X d 227 (58, [.ref 70, .int x1, .int x2], [], hS u (ud D 78 y1.toNatClampNeg 0) J))) (gd (ob ((x1 + 61) + x2) 170) (Ev X d 227 (53, [.ref 70, .int x1, .int x2], [.int (D 78 ((x1 + 61) + x2).toNatClampNeg), .int y1, .ref 78], hS u D J))) := (sy_at X [0, 2, 15, 24, 33, 43, 53, 58, 81, 83, 85, 96, 98, 108] d 227 12 _).trans rfl
theorem f227_53 {X : XS} {d u : Nat} {D : Nat → Nat → Int32} {J : Nat → Nat → Int64} (x1 : Int32) (x2 : Int32) (y0 : Int32) (y1 : Int32) : Ev X d 227 (53, [.ref 70, .int x1, .int x2], [.int y0, .int y1, .ref 78], hS u D J) =
    gd (ob y1 170) (Ev X d 227 (58, [.ref 70, .int x1, .int x2], [], hS u (ud D 78 y1.toNatClampNeg (y0 + 1)) J)) := (sy_at X [0, 2, 15, 24, 33, 43, 53, 58, 81, 83, 85, 96, 98, 108] d 227 6 _).trans rfl
set_option maxRecDepth 20000 in
theorem e227_43 {X : XS} {d u : Nat} {D : Nat → Nat → Int32} {J : Nat → Nat → Int64} (x1 : Int32) (x2 : Int32) (y0 : Int32) (y1 : Int32) : Ev X d 227 (43, [.ref 70, .int x1, .int x2], [.int y0, .int y1, .ref 78], hS u D J) =
    br (decide (¬ y0 = (-1))) (gd (ob y1 170) (Ev X d 227 (58, [.ref 70, .int x1, .int x2], [], hS u (ud D 78 y1.toNatClampNeg 0) J))) (gd (ob ((x1 + 61) + x2) 170) (gd (ob y1 170) (Ev X d 227 (58, [.ref 70, .int x1, .int x2], [], hS u (ud D 78 y1.toNatClampNeg ((D 78 ((x1 + 61) + x2).toNatClampNeg) + 1)) J)))) := by
  refine (f227_43 _ _ _ _).trans ?_
  simp only [f227_53]
set_option maxRecDepth 20000 in
theorem e227_58 {X : XS} {d u : Nat} {D : Nat → Nat → Int32} {J : Nat → Nat → Int64} (x1 : Int32) (x2 : Int32) : Ev X d 227 (58, [.ref 70, .int x1, .int x2], [], hS u D J) =
    gd (ob ((x1 + 73) + x2) 170) (gd (ob ((x1 + 73) + x2) 170) (br (decide ((D 78 ((x1 + 73) + x2).toNatClampNeg) ≤ 0)) (gd (ob ((x1 + 73) + x2) 170) (Ev X d 227 (81, [.ref 70, .int x1, .int x2], [], hS u (ud D 78 ((x1 + 73) + x2).toNatClampNeg ((D 78 ((x1 + 73) + x2).toNatClampNeg) - 0)) J))) (gd (ob ((x1 + 73) + x2) 170) (Ev X d 227 (81, [.ref 70, .int x1, .int x2], [], hS u (ud D 78 ((x1 + 73) + x2).toNatClampNeg ((D 78 ((x1 + 73) + x2).toNatClampNeg) - 1)) J))))) := (sy_at X [0, 2, 15, 24, 33, 43, 58, 81, 83, 85, 96, 98, 108] d 227 24 _).trans rfl
theorem e227_81 {X : XS} {d u : Nat} {D : Nat → Nat → Int32} {J : Nat → Nat → Int64} (x1 : Int32) (x2 : Int32) : Ev X d 227 (81, [.ref 70, .int x1, .int x2], [], hS u D J) =
    Ev X d 227 (2, [.ref 70, .int x1, .int (x2 + 1)], [], hS u D J) := (sy_at X [0, 2, 15, 24, 33, 43, 58, 81, 83, 85, 96, 98, 108] d 227 4 _).trans rfl
theorem e227_83 {X : XS} {d u : Nat} {D : Nat → Nat → Int32} {J : Nat → Nat → Int64} (x1 : Int32) (x2 : Int32) : Ev X d 227 (83, [.ref 70, .int x1, .int x2], [], hS u D J) =
    Ev X d 227 (85, [.ref 70, .int x1, .int 0], [], hS u D J) := (sy_at X [0, 2, 15, 24, 33, 43, 58, 81, 83, 85, 96, 98, 108] d 227 4 _).trans rfl
set_option maxRecDepth 20000 in
theorem e227_85 {X : XS} {d u : Nat} {D : Nat → Nat → Int32} {J : Nat → Nat → Int64} (x1 : Int32) (x2 : Int32) : Ev X (d + 1) 227 (85, [.ref 70, .int x1, .int x2], [], hS u D J) =
    br (decide ((D 70 46) ≤ x2)) (Ev X (d + 1) 227 (98, [.ref 70, .int x1, .int x2], [], hS u D J)) (gd (ob x2 12) (bV (EvM X d 221 [.ref 70, .int x1, .int (D 83 x2.toNatClampNeg)] (hS u D J)) (fun h => Ev X (d + 1) 227 (96, [.ref 70, .int x1, .int x2], [], h)) (fun e h => some (.inr e, h)))) := (sy_at X [0, 2, 15, 24, 33, 43, 58, 81, 83, 85, 96, 98, 108] (d + 1) 227 13 _).trans rfl
theorem e227_96 {X : XS} {d u : Nat} {D : Nat → Nat → Int32} {J : Nat → Nat → Int64} (x1 : Int32) (x2 : Int32) : Ev X d 227 (96, [.ref 70, .int x1, .int x2], [], hS u D J) =
    Ev X d 227 (85, [.ref 70, .int x1, .int (x2 + 1)], [], hS u D J) := (sy_at X [0, 2, 15, 24, 33, 43, 58, 81, 83, 85, 96, 98, 108] d 227 4 _).trans rfl
theorem e227_98 {X : XS} {d u : Nat} {D : Nat → Nat → Int32} {J : Nat → Nat → Int64} (x1 : Int32) (x2 : Int32) : Ev X d 227 (98, [.ref 70, .int x1, .int x2], [], hS u D J) =
    gd (ob (x1 + 0) 170) (gd (ob (x1 + 0) 170) (Ev X d 227 (108, [.ref 70, .int x1, .int x2], [], hS u (ud D 78 (x1 + 0).toNatClampNeg ((D 78 (x1 + 0).toNatClampNeg) + 1)) J))) := (sy_at X [0, 2, 15, 24, 33, 43, 58, 81, 83, 85, 96, 98, 108] d 227 12 _).trans rfl
theorem e227_108 {X : XS} {d u : Nat} {D : Nat → Nat → Int32} {J : Nat → Nat → Int64} (x1 : Int32) (x2 : Int32) : Ev X d 227 (108, [.ref 70, .int x1, .int x2], [], hS u D J) =
    some (.inl none, hS u D J) := (sy_at X [0, 2, 15, 24, 33, 43, 58, 81, 83, 85, 96, 98, 108] d 227 3 _).trans rfl
theorem e228_0 {X : XS} {d u : Nat} {D : Nat → Nat → Int32} {J : Nat → Nat → Int64} (x1 : Int32) : Ev X (d + 1) 228 (0, [.ref 70, .int x1], [], hS u D J) =
    bV (EvM X d 224 [.ref 70, .int x1] (hS u D J)) (fun h => Ev X (d + 1) 228 (3, [.ref 70, .int x1], [], h)) (fun e h => some (.inr e, h)) := (sy_at X [0, 3, 6] (d + 1) 228 5 _).trans rfl
theorem e228_3 {X : XS} {d u : Nat} {D : Nat → Nat → Int32} {J : Nat → Nat → Int64} (x1 : Int32) : Ev X (d + 1) 228 (3, [.ref 70, .int x1], [], hS u D J) =
    bV (EvM X d 227 [.ref 70, .int x1] (hS u D J)) (fun h => Ev X (d + 1) 228 (6, [.ref 70, .int x1], [], h)) (fun e h => some (.inr e, h)) := (sy_at X [0, 3, 6] (d + 1) 228 5 _).trans rfl
theorem e228_6 {X : XS} {d u : Nat} {D : Nat → Nat → Int32} {J : Nat → Nat → Int64} (x1 : Int32) : Ev X d 228 (6, [.ref 70, .int x1], [], hS u D J) =
    some (.inl none, hS u D J) := (sy_at X [0, 3, 6] d 228 3 _).trans rfl
theorem e229_0 {X : XS} {d u : Nat} {D : Nat → Nat → Int32} {J : Nat → Nat → Int64} (x1 : Int32) : Ev X (d + 1) 229 (0, [.ref 70, .int x1, .null], [], hS u D J) =
    bV (EvM X d 211 [.ref 70] (hS u D J)) (fun h => Ev X (d + 1) 229 (2, [.ref 70, .int x1, .null], [], h)) (fun e h => some (.inr e, h)) := (sy_at X [0, 2, 4, 10] (d + 1) 229 4 _).trans rfl
theorem e229_2 {X : XS} {d u : Nat} {D : Nat → Nat → Int32} {J : Nat → Nat → Int64} (x1 : Int32) : Ev X d 229 (2, [.ref 70, .int x1, .null], [], hS u D J) =
    Ev X d 229 (4, [.ref 70, .int x1, .int 0], [], hS u D J) := (sy_at X [0, 2, 4, 10] d 229 4 _).trans rfl
theorem e229_4 {X : XS} {d u : Nat} {D : Nat → Nat → Int32} {J : Nat → Nat → Int64} (x1 : Int32) (x2 : Int32) : Ev X (d + 1) 229 (4, [.ref 70, .int x1, .int x2], [], hS u D J) =
    br (decide (x1 ≤ x2)) (some (.inl none, hS u D J)) (bV (EvM X d 228 [.ref 70, .int 85] (hS u D J)) (fun h => Ev X (d + 1) 229 (10, [.ref 70, .int x1, .int x2], [], h)) (fun e h => some (.inr e, h))) := (sy_at X [0, 2, 4, 10] (d + 1) 229 8 _).trans rfl
theorem e229_10 {X : XS} {d u : Nat} {D : Nat → Nat → Int32} {J : Nat → Nat → Int64} (x1 : Int32) (x2 : Int32) : Ev X d 229 (10, [.ref 70, .int x1, .int x2], [], hS u D J) =
    Ev X d 229 (4, [.ref 70, .int x1, .int (x2 + 1)], [], hS u D J) := (sy_at X [0, 2, 4, 10] d 229 4 _).trans rfl
theorem e230_0 {X : XS} {d u : Nat} {D : Nat → Nat → Int32} {J : Nat → Nat → Int64} (x1 : Int32) (x2 : Int32) : Ev X d 230 (0, [.ref 70, .int x1, .int x2, .null, .null], [], hS u D J) =
    Ev X d 230 (4, [.ref 70, .int x1, .int x2, .int 0, .int 0], [], hS u D J) := (sy_at X [0, 4] d 230 6 _).trans rfl
set_option maxRecDepth 20000 in
theorem e230_4 {X : XS} {d u : Nat} {D : Nat → Nat → Int32} {J : Nat → Nat → Int64} (x1 : Int32) (x2 : Int32) (x3 : Int32) (x4 : Int32) : Ev X d 230 (4, [.ref 70, .int x1, .int x2, .int x3, .int x4], [], hS u D J) =
    br (decide ((D 70 1) ≤ x4)) (some (.inl (some (.int x3)), hS u D J)) (gd (ob ((x1 + x2) + x4) 170) (Ev X d 230 (4, [.ref 70, .int x1, .int x2, .int (x3 + (D 78 ((x1 + x2) + x4).toNatClampNeg)), .int (x4 + 1)], [], hS u D J))) := (sy_at X [0, 4] d 230 19 _).trans rfl
theorem e231_0 {X : XS} {d u : Nat} {D : Nat → Nat → Int32} {J : Nat → Nat → Int64} : Ev X (d + 1) 231 (0, [.ref 70, .null, .null], [], hS u D J) =
    bV (EvM X d 224 [.ref 70, .int 0] (hS u D J)) (fun h => Ev X (d + 1) 231 (3, [.ref 70, .null, .null], [], h)) (fun e h => some (.inr e, h)) := (sy_at X [0, 3, 7] (d + 1) 231 5 _).trans rfl
theorem e231_3 {X : XS} {d u : Nat} {D : Nat → Nat → Int32} {J : Nat → Nat → Int64} : Ev X d 231 (3, [.ref 70, .null, .null], [], hS u D J) =
    Ev X d 231 (7, [.ref 70, .int 0, .int 0], [], hS u D J) := (sy_at X [0, 3, 7] d 231 6 _).trans rfl
set_option maxRecDepth 20000 in
theorem e231_7 {X : XS} {d u : Nat} {D : Nat → Nat → Int32} {J : Nat → Nat → Int64} (x1 : Int32) (x2 : Int32) : Ev X d 231 (7, [.ref 70, .int x1, .int x2], [], hS u D J) =
    br (decide ((D 70 46) ≤ x2)) (some (.inl (some (.int x1)), hS u D J)) (gd (ob x2 12) (Ev X d 231 (7, [.ref 70, .int (x1 ||| ((1 : Int32) <<< ((D 83 x2.toNatClampNeg) &&& 31))), .int (x2 + 1)], [], hS u D J))) := (sy_at X [0, 3, 7] d 231 17 _).trans rfl
theorem e232_0 {X : XS} {d u : Nat} {D : Nat → Nat → Int32} {J : Nat → Nat → Int64} : Ev X d 232 (0, [.ref 70, .null, .null, .null, .null], [], hS u D J) =
    Ev X d 232 (4, [.ref 70, .int 0, .int 0, .null, .null], [], hS u D J) := (sy_at X [0, 4, 8, 13, 18, 29, 41] d 232 6 _).trans rfl
theorem e232_4 {X : XS} {d u : Nat} {D : Nat → Nat → Int32} {J : Nat → Nat → Int64} (x1 : Int32) (x2 : Int32) : Ev X (d + 1) 232 (4, [.ref 70, .int x1, .int x2, .null, .null], [], hS u D J) =
    bI (EvM X d 217 [.ref 70, .int 0] (hS u D J)) (fun y h => Ev X (d + 1) 232 (8, [.ref 70, .int x1, .int x2, .null, .null], [.int y, .int x2], h)) (fun e h => some (.inr e, h)) := (sy_at X [0, 4, 8, 13, 18, 29, 41] (d + 1) 232 6 _).trans rfl
theorem e232_8 {X : XS} {d u : Nat} {D : Nat → Nat → Int32} {J : Nat → Nat → Int64} (x1 : Int32) (x2 : Int32) (y0 : Int32) (y1 : Int32) : Ev X d 232 (8, [.ref 70, .int x1, .int x2, .null, .null], [.int y0, .int y1], hS u D J) =
    br (decide (y0 ≤ y1)) (some (.inl (some (.int x1)), hS u D J)) (Ev X d 232 (13, [.ref 70, .int x1, .int x2, .int 1, .int 1], [], hS u D J)) := (sy_at X [0, 4, 8, 13, 18, 29, 41] d 232 7 _).trans rfl
theorem e232_13 {X : XS} {d u : Nat} {D : Nat → Nat → Int32} {J : Nat → Nat → Int64} (x1 : Int32) (x2 : Int32) (x3 : Int32) (x4 : Int32) : Ev X (d + 1) 232 (13, [.ref 70, .int x1, .int x2, .int x3, .int x4], [], hS u D J) =
    bI (EvM X d 215 [.ref 70, .int 0, .int x2] (hS u D J)) (fun y h => Ev X (d + 1) 232 (18, [.ref 70, .int x1, .int x2, .int x3, .int x4], [.int y, .int x4], h)) (fun e h => some (.inr e, h)) := (sy_at X [0, 4, 8, 13, 18, 29, 41] (d + 1) 232 7 _).trans rfl
set_option maxRecDepth 20000 in
theorem e232_18 {X : XS} {d u : Nat} {D : Nat → Nat → Int32} {J : Nat → Nat → Int64} (x1 : Int32) (x2 : Int32) (x3 : Int32) (x4 : Int32) (y0 : Int32) (y1 : Int32) : Ev X (d + 1) 232 (18, [.ref 70, .int x1, .int x2, .int x3, .int x4], [.int y0, .int y1], hS u D J) =
    br (decide (y0 ≤ y1)) (br (decide (x3 = 0)) (Ev X (d + 1) 232 (4, [.ref 70, .int (x1 ||| 0), .int (x2 + 1), .int x3, .int x4], [], hS u D J)) (Ev X (d + 1) 232 (4, [.ref 70, .int (x1 ||| ((1 : Int32) <<< (x2 &&& 31))), .int (x2 + 1), .int x3, .int x4], [], hS u D J))) (br (decide (x3 = 0)) (Ev X (d + 1) 232 (13, [.ref 70, .int x1, .int x2, .int 0, .int (x4 + 1)], [], hS u D J)) (bI (EvM X d 216 [.ref 70, .int 0, .int x2, .int x4] (hS u D J)) (fun y h => Ev X (d + 1) 232 (29, [.ref 70, .int x1, .int x2, .int x3, .int x4], [.int y, .int 1, .ref 78], h)) (fun e h => some (.inr e, h)))) := (sy_at X [0, 4, 8, 13, 18, 29, 41] (d + 1) 232 14 _).trans rfl
set_option maxRecDepth 20000 in
theorem e232_29 {X : XS} {d u : Nat} {D : Nat → Nat → Int32} {J : Nat → Nat → Int64} (x1 : Int32) (x2 : Int32) (x3 : Int32) (x4 : Int32) (y0 : Int32) (y1 : Int32) : Ev X (d + 1) 232 (29, [.ref 70, .int x1, .int x2, .int x3, .int x4], [.int y0, .int y1, .ref 78], hS u D J) =
    gd (ob (y1 + y0) 170) (bI (EvM X d 216 [.ref 70, .int 0, .int x2, .int (x4 - 1)] (hS u D J)) (fun y h => Ev X (d + 1) 232 (41, [.ref 70, .int x1, .int x2, .int x3, .int x4], [.int y, .int 1, .ref 78, .int (D 78 (y1 + y0).toNatClampNeg)], h)) (fun e h => some (.inr e, h))) := (sy_at X [0, 4, 8, 13, 18, 29, 41] (d + 1) 232 14 _).trans rfl
theorem e232_41 {X : XS} {d u : Nat} {D : Nat → Nat → Int32} {J : Nat → Nat → Int64} (x1 : Int32) (x2 : Int32) (x3 : Int32) (x4 : Int32) (y0 : Int32) (y1 : Int32) (y3 : Int32) : Ev X d 232 (41, [.ref 70, .int x1, .int x2, .int x3, .int x4], [.int y0, .int y1, .ref 78, .int y3], hS u D J) =
    gd (ob (y1 + y0) 170) (br (decide (y3 < (D 78 (y1 + y0).toNatClampNeg))) (Ev X d 232 (13, [.ref 70, .int x1, .int x2, .int 0, .int (x4 + 1)], [], hS u D J)) (Ev X d 232 (13, [.ref 70, .int x1, .int x2, .int 1, .int (x4 + 1)], [], hS u D J))) := (sy_at X [0, 4, 8, 13, 18, 29, 41] d 232 10 _).trans rfl
theorem e233_0 {X : XS} {d u : Nat} {D : Nat → Nat → Int32} {J : Nat → Nat → Int64} (x1 : Int32) : Ev X d 233 (0, [.ref 70, .int x1], [], hS u D J) =
    Ev X d 233 (3, [.ref 70, .int x1], [], hS u (ud D 70 0 0) J) := (sy_at X [0, 3, 8, 10, 13, 29, 33, 36, 41, 46, 49] d 233 5 _).trans rfl
theorem e233_3 {X : XS} {d u : Nat} {D : Nat → Nat → Int32} {J : Nat → Nat → Int64} (x1 : Int32) : Ev X (d + 1) 233 (3, [.ref 70, .int x1], [], hS u D J) =
    bI (EvM X d 173 [.int x1, .int 0, .int 14] (hS u D J)) (fun y h => Ev X (d + 1) 233 (8, [.ref 70, .int x1], [.int y, .ref 70], h)) (fun e h => some (.inr e, h)) := (sy_at X [0, 3, 8, 10, 13, 29, 33, 36, 41, 46, 49] (d + 1) 233 7 _).trans rfl
theorem e233_8 {X : XS} {d u : Nat} {D : Nat → Nat → Int32} {J : Nat → Nat → Int64} (x1 : Int32) (y0 : Int32) : Ev X (d + 1) 233 (8, [.ref 70, .int x1], [.int y0, .ref 70], hS u D J) =
    bI (EvM X d 172 [.ref 70, .int y0, .int 1] (hS u D J)) (fun y h => Ev X (d + 1) 233 (10, [.ref 70, .int x1], [.int y], h)) (fun e h => some (.inr e, h)) := (sy_at X [0, 3, 8, 10, 13, 29, 33, 36, 41, 46, 49] (d + 1) 233 4 _).trans rfl
theorem e233_10 {X : XS} {d u : Nat} {D : Nat → Nat → Int32} {J : Nat → Nat → Int64} (x1 : Int32) (y0 : Int32) : Ev X d 233 (10, [.ref 70, .int x1], [.int y0], hS u D J) =
    br (decide (¬ y0 = 0)) (Ev X d 233 (13, [.ref 70, .int x1], [], hS u D J)) (some (.inl (some (.int 0)), hS u D J)) := (sy_at X [0, 3, 8, 10, 13, 29, 33, 36, 41, 46, 49] d 233 5 _).trans rfl
theorem e233_13 {X : XS} {d u : Nat} {D : Nat → Nat → Int32} {J : Nat → Nat → Int64} (x1 : Int32) : Ev X (d + 1) 233 (13, [.ref 70, .int x1], [], hS u D J) =
    br (decide (x1 = 0)) (some (.inl (some (.int (D 70 1))), hS u D J)) (br (decide (x1 = 1)) (some (.inl (some (.int (D 70 2))), hS u D J)) (br (decide (x1 = 2)) (some (.inl (some (.int (D 78 0))), hS u D J)) (br (decide (x1 = 3)) (bI (EvM X d 217 [.ref 70, .int 0] (hS u D J)) (fun y h => Ev X (d + 1) 233 (29, [.ref 70, .int x1], [.int y], h)) (fun e h => some (.inr e, h))) (br (decide (x1 = 4)) (bI (EvM X d 218 [.ref 70, .int 0] (hS u D J)) (fun y h => Ev X (d + 1) 233 (33, [.ref 70, .int x1], [.int y], h)) (fun e h => some (.inr e, h))) (br (decide (x1 = 5)) (bI (EvM X d 231 [.ref 70] (hS u D J)) (fun y h => Ev X (d + 1) 233 (36, [.ref 70, .int x1], [.int y], h)) (fun e h => some (.inr e, h))) (br (decide (x1 = 6)) (bI (EvM X d 230 [.ref 70, .int 0, .int 37] (hS u D J)) (fun y h => Ev X (d + 1) 233 (41, [.ref 70, .int x1], [.int y], h)) (fun e h => some (.inr e, h))) (br (decide (x1 = 7)) (bI (EvM X d 230 [.ref 70, .int 0, .int 49] (hS u D J)) (fun y h => Ev X (d + 1) 233 (46, [.ref 70, .int x1], [.int y], h)) (fun e h => some (.inr e, h))) (br (decide (x1 = 8)) (bI (EvM X d 232 [.ref 70] (hS u D J)) (fun y h => Ev X (d + 1) 233 (49, [.ref 70, .int x1], [.int y], h)) (fun e h => some (.inr e, h))) (br (decide (x1 = 9)) (some (.inl (some (.int (D 70 36))), hS u D J)) (br (decide (x1 = 10)) (some (.inl (some (.int (D 70 51))), hS u D J)) (br (decide (x1 = 11)) (some (.inl (some (.int (D 70 8))), hS u D J)) (gd (ob (x1 - 12) 3) (some (.inl (some (.int (D 73 (x1 - 12).toNatClampNeg))), hS u D J)))))))))))))) := (sy_at X [0, 3, 8, 10, 13, 29, 33, 36, 41, 46, 49] (d + 1) 233 11 _).trans rfl
theorem e233_29 {X : XS} {d u : Nat} {D : Nat → Nat → Int32} {J : Nat → Nat → Int64} (x1 : Int32) (y0 : Int32) : Ev X d 233 (29, [.ref 70, .int x1], [.int y0], hS u D J) =
    some (.inl (some (.int y0)), hS u D J) := (sy_at X [0, 3, 8, 10, 13, 29, 33, 36, 41, 46, 49] d 233 3 _).trans rfl
theorem e233_33 {X : XS} {d u : Nat} {D : Nat → Nat → Int32} {J : Nat → Nat → Int64} (x1 : Int32) (y0 : Int32) : Ev X d 233 (33, [.ref 70, .int x1], [.int y0], hS u D J) =
    some (.inl (some (.int y0)), hS u D J) := (sy_at X [0, 3, 8, 10, 13, 29, 33, 36, 41, 46, 49] d 233 3 _).trans rfl
theorem e233_36 {X : XS} {d u : Nat} {D : Nat → Nat → Int32} {J : Nat → Nat → Int64} (x1 : Int32) (y0 : Int32) : Ev X d 233 (36, [.ref 70, .int x1], [.int y0], hS u D J) =
    some (.inl (some (.int y0)), hS u D J) := (sy_at X [0, 3, 8, 10, 13, 29, 33, 36, 41, 46, 49] d 233 3 _).trans rfl
theorem e233_41 {X : XS} {d u : Nat} {D : Nat → Nat → Int32} {J : Nat → Nat → Int64} (x1 : Int32) (y0 : Int32) : Ev X d 233 (41, [.ref 70, .int x1], [.int y0], hS u D J) =
    some (.inl (some (.int y0)), hS u D J) := (sy_at X [0, 3, 8, 10, 13, 29, 33, 36, 41, 46, 49] d 233 3 _).trans rfl
theorem e233_46 {X : XS} {d u : Nat} {D : Nat → Nat → Int32} {J : Nat → Nat → Int64} (x1 : Int32) (y0 : Int32) : Ev X d 233 (46, [.ref 70, .int x1], [.int y0], hS u D J) =
    some (.inl (some (.int y0)), hS u D J) := (sy_at X [0, 3, 8, 10, 13, 29, 33, 36, 41, 46, 49] d 233 3 _).trans rfl
theorem e233_49 {X : XS} {d u : Nat} {D : Nat → Nat → Int32} {J : Nat → Nat → Int64} (x1 : Int32) (y0 : Int32) : Ev X d 233 (49, [.ref 70, .int x1], [.int y0], hS u D J) =
    some (.inl (some (.int y0)), hS u D J) := (sy_at X [0, 3, 8, 10, 13, 29, 33, 36, 41, 46, 49] d 233 3 _).trans rfl
