/-! ===== printed by wip/gen/eqparts.py: equations of the law, 3 ===== -/
set_option maxRecDepth 100000 in
theorem f333_882 {X : XS} {d u : Nat} {D : Nat → Nat → Int32} {J : Nat → Nat → Int64} (x4 : Int32) (x5 : Int32) : Ev X d 333 (882, [.ref 900000, .ref 0, .ref 70, .ref 95, .int x4, .int x5, .null], [], hS u D J) =
    gd (ob (x4 + 1) X.2) (Ev X d 333 (888, [.ref 900000, .ref 0, .ref 70, .ref 95, .int x4, .int x5, .null], [.int (X.1 (x4 + 1).toNatClampNeg), .ref 70], hS u D J)) := (sy_at X [888] d 333 8 _).trans rfl
set_option maxRecDepth 100000 in
theorem f333_888 {X : XS} {d u : Nat} {D : Nat → Nat → Int32} {J : Nat → Nat → Int64} (x4 : Int32) (x5 : Int32) (y0 : Int32) : Ev X d 333 (888, [.ref 900000, .ref 0, .ref 70, .ref 95, .int x4, .int x5, .null], [.int y0, .ref 70], hS u D J) =
    gd (ob (x4 + 2) X.2) (Ev X d 333 (893, [.ref 900000, .ref 0, .ref 70, .ref 95, .int x4, .int x5, .null], [.int (X.1 (x4 + 2).toNatClampNeg), .int y0, .ref 70], hS u D J)) := (sy_at X [893] d 333 7 _).trans rfl
set_option maxRecDepth 100000 in
theorem f333_893 {X : XS} {d u : Nat} {D : Nat → Nat → Int32} {J : Nat → Nat → Int64} (x4 : Int32) (x5 : Int32) (y0 : Int32) (y1 : Int32) : Ev X (d + 1) 333 (893, [.ref 900000, .ref 0, .ref 70, .ref 95, .int x4, .int x5, .null], [.int y0, .int y1, .ref 70], hS u D J) =
    bI (EvM X d 258 [.ref 70, .int y1, .int y0] (hS u D J)) (fun y h => Ev X (d + 1) 333 (894, [.ref 900000, .ref 0, .ref 70, .ref 95, .int x4, .int x5, .null], [.int y], h)) (fun e h => some (.inr e, h)) := (sy_at X [894] (d + 1) 333 3 _).trans rfl
set_option maxRecDepth 100000 in
theorem e333_882 {X : XS} {d u : Nat} {D : Nat → Nat → Int32} {J : Nat → Nat → Int64} (x4 : Int32) (x5 : Int32) : Ev X (d + 1) 333 (882, [.ref 900000, .ref 0, .ref 70, .ref 95, .int x4, .int x5, .null], [], hS u D J) =
    gd (ob (x4 + 1) X.2) (gd (ob (x4 + 2) X.2) (bI (EvM X d 258 [.ref 70, .int (X.1 (x4 + 1).toNatClampNeg), .int (X.1 (x4 + 2).toNatClampNeg)] (hS u D J)) (fun y h => Ev X (d + 1) 333 (894, [.ref 900000, .ref 0, .ref 70, .ref 95, .int x4, .int x5, .null], [.int y], h)) (fun e h => some (.inr e, h)))) := by
  refine (f333_882 _ _).trans ?_
  simp only [f333_888, f333_893]
set_option maxRecDepth 100000 in
theorem e333_894 {X : XS} {d u : Nat} {D : Nat → Nat → Int32} {J : Nat → Nat → Int64} (x4 : Int32) (x5 : Int32) (y0 : Int32) : Ev X d 333 (894, [.ref 900000, .ref 0, .ref 70, .ref 95, .int x4, .int x5, .null], [.int y0], hS u D J) =
    Ev X d 333 (895, [.ref 900000, .ref 0, .ref 70, .ref 95, .int x4, .int x5, .int y0], [], hS u D J) := (sy_at X [895] d 333 3 _).trans rfl
set_option maxRecDepth 100000 in
theorem e333_895 {X : XS} {d u : Nat} {D : Nat → Nat → Int32} {J : Nat → Nat → Int64} (x4 : Int32) (x5 : Int32) (x6 : Int32) : Ev X (d + 1) 333 (895, [.ref 900000, .ref 0, .ref 70, .ref 95, .int x4, .int x5, .int x6], [], hS u D J) =
    bI (EvM X d 171 [.ref 70] (hS u D J)) (fun y h => Ev X (d + 1) 333 (897, [.ref 900000, .ref 0, .ref 70, .ref 95, .int x4, .int x5, .int x6], [.int y], h)) (fun e h => some (.inr e, h)) := (sy_at X [897] (d + 1) 333 4 _).trans rfl
set_option maxRecDepth 100000 in
theorem e333_897 {X : XS} {d u : Nat} {D : Nat → Nat → Int32} {J : Nat → Nat → Int64} (x4 : Int32) (x5 : Int32) (x6 : Int32) (y0 : Int32) : Ev X d 333 (897, [.ref 900000, .ref 0, .ref 70, .ref 95, .int x4, .int x5, .int x6], [.int y0], hS u D J) =
    br (decide (y0 = x5)) (br (decide (¬ x5 = 0)) (Ev X d 333 (1712, [.ref 900000, .ref 0, .ref 70, .ref 95, .int x4, .int x5, .int x6], [], hS u D J)) (br (decide ((lg_cmp (J 95 0) (Int32.toInt64 x6)) = 0)) (Ev X d 333 (1712, [.ref 900000, .ref 0, .ref 70, .ref 95, .int x4, .int x5, .int x6], [], hS u D J)) (some (.inl (some (.int 0)), hS u D J)))) (some (.inl (some (.int 0)), hS u D J)) := (sy_at X [1712] d 333 15 _).trans rfl
set_option maxRecDepth 100000 in
theorem f333_913 {X : XS} {d u : Nat} {D : Nat → Nat → Int32} {J : Nat → Nat → Int64} (x4 : Int32) : Ev X d 333 (913, [.ref 900000, .ref 0, .ref 70, .ref 95, .int x4, .null, .null], [], hS u D J) =
    gd (ob (x4 + 1) X.2) (Ev X d 333 (919, [.ref 900000, .ref 0, .ref 70, .ref 95, .int x4, .null, .null], [.int (X.1 (x4 + 1).toNatClampNeg), .ref 0], hS u D J)) := (sy_at X [919] d 333 8 _).trans rfl
set_option maxRecDepth 100000 in
theorem f333_919 {X : XS} {d u : Nat} {D : Nat → Nat → Int32} {J : Nat → Nat → Int64} (x4 : Int32) (y0 : Int32) : Ev X d 333 (919, [.ref 900000, .ref 0, .ref 70, .ref 95, .int x4, .null, .null], [.int y0, .ref 0], hS u D J) =
    gd (ob (x4 + 2) X.2) (Ev X d 333 (924, [.ref 900000, .ref 0, .ref 70, .ref 95, .int x4, .null, .null], [.int (X.1 (x4 + 2).toNatClampNeg), .int y0, .ref 0], hS u D J)) := (sy_at X [924] d 333 7 _).trans rfl
set_option maxRecDepth 100000 in
theorem f333_924 {X : XS} {d u : Nat} {D : Nat → Nat → Int32} {J : Nat → Nat → Int64} (x4 : Int32) (y0 : Int32) (y1 : Int32) : Ev X (d + 1) 333 (924, [.ref 900000, .ref 0, .ref 70, .ref 95, .int x4, .null, .null], [.int y0, .int y1, .ref 0], hS u D J) =
    bI (EvM X d 313 [.ref 0, .int y1, .int y0, .ref 95] (hS u D J)) (fun y h => Ev X (d + 1) 333 (926, [.ref 900000, .ref 0, .ref 70, .ref 95, .int x4, .null, .null], [.int y], h)) (fun e h => none) := (sy_at X [926] (d + 1) 333 4 _).trans rfl
set_option maxRecDepth 100000 in
theorem e333_913 {X : XS} {d u : Nat} {D : Nat → Nat → Int32} {J : Nat → Nat → Int64} (x4 : Int32) : Ev X (d + 1) 333 (913, [.ref 900000, .ref 0, .ref 70, .ref 95, .int x4, .null, .null], [], hS u D J) =
    gd (ob (x4 + 1) X.2) (gd (ob (x4 + 2) X.2) (bI (EvM X d 313 [.ref 0, .int (X.1 (x4 + 1).toNatClampNeg), .int (X.1 (x4 + 2).toNatClampNeg), .ref 95] (hS u D J)) (fun y h => Ev X (d + 1) 333 (926, [.ref 900000, .ref 0, .ref 70, .ref 95, .int x4, .null, .null], [.int y], h)) (fun e h => none))) := by
  refine (f333_913 _).trans ?_
  simp only [f333_919, f333_924]
set_option maxRecDepth 100000 in
theorem e333_926 {X : XS} {d u : Nat} {D : Nat → Nat → Int32} {J : Nat → Nat → Int64} (x4 : Int32) (y0 : Int32) : Ev X d 333 (926, [.ref 900000, .ref 0, .ref 70, .ref 95, .int x4, .null, .null], [.int y0], hS u D J) =
    Ev X d 333 (927, [.ref 900000, .ref 0, .ref 70, .ref 95, .int x4, .int y0, .null], [], hS u D J) := (sy_at X [927] d 333 3 _).trans rfl
set_option maxRecDepth 100000 in
theorem f333_927 {X : XS} {d u : Nat} {D : Nat → Nat → Int32} {J : Nat → Nat → Int64} (x4 : Int32) (x5 : Int32) : Ev X d 333 (927, [.ref 900000, .ref 0, .ref 70, .ref 95, .int x4, .int x5, .null], [], hS u D J) =
    gd (ob (x4 + 1) X.2) (Ev X d 333 (933, [.ref 900000, .ref 0, .ref 70, .ref 95, .int x4, .int x5, .null], [.int (X.1 (x4 + 1).toNatClampNeg), .ref 70], hS u D J)) := (sy_at X [933] d 333 8 _).trans rfl
set_option maxRecDepth 100000 in
theorem f333_933 {X : XS} {d u : Nat} {D : Nat → Nat → Int32} {J : Nat → Nat → Int64} (x4 : Int32) (x5 : Int32) (y0 : Int32) : Ev X d 333 (933, [.ref 900000, .ref 0, .ref 70, .ref 95, .int x4, .int x5, .null], [.int y0, .ref 70], hS u D J) =
    gd (ob (x4 + 2) X.2) (Ev X d 333 (938, [.ref 900000, .ref 0, .ref 70, .ref 95, .int x4, .int x5, .null], [.int (X.1 (x4 + 2).toNatClampNeg), .int y0, .ref 70], hS u D J)) := (sy_at X [938] d 333 7 _).trans rfl
set_option maxRecDepth 100000 in
theorem f333_938 {X : XS} {d u : Nat} {D : Nat → Nat → Int32} {J : Nat → Nat → Int64} (x4 : Int32) (x5 : Int32) (y0 : Int32) (y1 : Int32) : Ev X (d + 1) 333 (938, [.ref 900000, .ref 0, .ref 70, .ref 95, .int x4, .int x5, .null], [.int y0, .int y1, .ref 70], hS u D J) =
    bI (EvM X d 266 [.ref 70, .int y1, .int y0] (hS u D J)) (fun y h => Ev X (d + 1) 333 (939, [.ref 900000, .ref 0, .ref 70, .ref 95, .int x4, .int x5, .null], [.int y], h)) (fun e h => some (.inr e, h)) := (sy_at X [939] (d + 1) 333 3 _).trans rfl
set_option maxRecDepth 100000 in
theorem e333_927 {X : XS} {d u : Nat} {D : Nat → Nat → Int32} {J : Nat → Nat → Int64} (x4 : Int32) (x5 : Int32) : Ev X (d + 1) 333 (927, [.ref 900000, .ref 0, .ref 70, .ref 95, .int x4, .int x5, .null], [], hS u D J) =
    gd (ob (x4 + 1) X.2) (gd (ob (x4 + 2) X.2) (bI (EvM X d 266 [.ref 70, .int (X.1 (x4 + 1).toNatClampNeg), .int (X.1 (x4 + 2).toNatClampNeg)] (hS u D J)) (fun y h => Ev X (d + 1) 333 (939, [.ref 900000, .ref 0, .ref 70, .ref 95, .int x4, .int x5, .null], [.int y], h)) (fun e h => some (.inr e, h)))) := by
  refine (f333_927 _ _).trans ?_
  simp only [f333_933, f333_938]
set_option maxRecDepth 100000 in
theorem e333_939 {X : XS} {d u : Nat} {D : Nat → Nat → Int32} {J : Nat → Nat → Int64} (x4 : Int32) (x5 : Int32) (y0 : Int32) : Ev X d 333 (939, [.ref 900000, .ref 0, .ref 70, .ref 95, .int x4, .int x5, .null], [.int y0], hS u D J) =
    Ev X d 333 (940, [.ref 900000, .ref 0, .ref 70, .ref 95, .int x4, .int x5, .int y0], [], hS u D J) := (sy_at X [940] d 333 3 _).trans rfl
set_option maxRecDepth 100000 in
theorem e333_940 {X : XS} {d u : Nat} {D : Nat → Nat → Int32} {J : Nat → Nat → Int64} (x4 : Int32) (x5 : Int32) (x6 : Int32) : Ev X (d + 1) 333 (940, [.ref 900000, .ref 0, .ref 70, .ref 95, .int x4, .int x5, .int x6], [], hS u D J) =
    bI (EvM X d 171 [.ref 70] (hS u D J)) (fun y h => Ev X (d + 1) 333 (942, [.ref 900000, .ref 0, .ref 70, .ref 95, .int x4, .int x5, .int x6], [.int y], h)) (fun e h => some (.inr e, h)) := (sy_at X [942] (d + 1) 333 4 _).trans rfl
set_option maxRecDepth 100000 in
theorem e333_942 {X : XS} {d u : Nat} {D : Nat → Nat → Int32} {J : Nat → Nat → Int64} (x4 : Int32) (x5 : Int32) (x6 : Int32) (y0 : Int32) : Ev X d 333 (942, [.ref 900000, .ref 0, .ref 70, .ref 95, .int x4, .int x5, .int x6], [.int y0], hS u D J) =
    br (decide (y0 = x5)) (br (decide (¬ x5 = 0)) (Ev X d 333 (1712, [.ref 900000, .ref 0, .ref 70, .ref 95, .int x4, .int x5, .int x6], [], hS u D J)) (br (decide ((lg_cmp (J 95 0) (Int32.toInt64 x6)) = 0)) (Ev X d 333 (1712, [.ref 900000, .ref 0, .ref 70, .ref 95, .int x4, .int x5, .int x6], [], hS u D J)) (some (.inl (some (.int 0)), hS u D J)))) (some (.inl (some (.int 0)), hS u D J)) := (sy_at X [1712] d 333 15 _).trans rfl
set_option maxRecDepth 100000 in
theorem e333_958 {X : XS} {d u : Nat} {D : Nat → Nat → Int32} {J : Nat → Nat → Int64} (x4 : Int32) : Ev X (d + 1) 333 (958, [.ref 900000, .ref 0, .ref 70, .ref 95, .int x4, .null, .null], [], hS u D J) =
    gd (ob (x4 + 1) X.2) (bI (EvM X d 314 [.ref 0, .int (X.1 (x4 + 1).toNatClampNeg), .ref 95] (hS u D J)) (fun y h => Ev X (d + 1) 333 (966, [.ref 900000, .ref 0, .ref 70, .ref 95, .int x4, .null, .null], [.int y], h)) (fun e h => none)) := (sy_at X [966] (d + 1) 333 10 _).trans rfl
set_option maxRecDepth 100000 in
theorem e333_966 {X : XS} {d u : Nat} {D : Nat → Nat → Int32} {J : Nat → Nat → Int64} (x4 : Int32) (y0 : Int32) : Ev X d 333 (966, [.ref 900000, .ref 0, .ref 70, .ref 95, .int x4, .null, .null], [.int y0], hS u D J) =
    Ev X d 333 (967, [.ref 900000, .ref 0, .ref 70, .ref 95, .int x4, .int y0, .null], [], hS u D J) := (sy_at X [967] d 333 3 _).trans rfl
set_option maxRecDepth 100000 in
theorem e333_967 {X : XS} {d u : Nat} {D : Nat → Nat → Int32} {J : Nat → Nat → Int64} (x4 : Int32) (x5 : Int32) : Ev X (d + 1) 333 (967, [.ref 900000, .ref 0, .ref 70, .ref 95, .int x4, .int x5, .null], [], hS u D J) =
    gd (ob (x4 + 1) X.2) (bI (EvM X d 267 [.ref 70, .int (X.1 (x4 + 1).toNatClampNeg)] (hS u D J)) (fun y h => Ev X (d + 1) 333 (974, [.ref 900000, .ref 0, .ref 70, .ref 95, .int x4, .int x5, .null], [.int y], h)) (fun e h => some (.inr e, h))) := (sy_at X [974] (d + 1) 333 9 _).trans rfl
set_option maxRecDepth 100000 in
theorem e333_974 {X : XS} {d u : Nat} {D : Nat → Nat → Int32} {J : Nat → Nat → Int64} (x4 : Int32) (x5 : Int32) (y0 : Int32) : Ev X d 333 (974, [.ref 900000, .ref 0, .ref 70, .ref 95, .int x4, .int x5, .null], [.int y0], hS u D J) =
    Ev X d 333 (975, [.ref 900000, .ref 0, .ref 70, .ref 95, .int x4, .int x5, .int y0], [], hS u D J) := (sy_at X [975] d 333 3 _).trans rfl
set_option maxRecDepth 100000 in
theorem e333_975 {X : XS} {d u : Nat} {D : Nat → Nat → Int32} {J : Nat → Nat → Int64} (x4 : Int32) (x5 : Int32) (x6 : Int32) : Ev X (d + 1) 333 (975, [.ref 900000, .ref 0, .ref 70, .ref 95, .int x4, .int x5, .int x6], [], hS u D J) =
    bI (EvM X d 171 [.ref 70] (hS u D J)) (fun y h => Ev X (d + 1) 333 (977, [.ref 900000, .ref 0, .ref 70, .ref 95, .int x4, .int x5, .int x6], [.int y], h)) (fun e h => some (.inr e, h)) := (sy_at X [977] (d + 1) 333 4 _).trans rfl
set_option maxRecDepth 100000 in
theorem e333_977 {X : XS} {d u : Nat} {D : Nat → Nat → Int32} {J : Nat → Nat → Int64} (x4 : Int32) (x5 : Int32) (x6 : Int32) (y0 : Int32) : Ev X d 333 (977, [.ref 900000, .ref 0, .ref 70, .ref 95, .int x4, .int x5, .int x6], [.int y0], hS u D J) =
    br (decide (y0 = x5)) (br (decide (¬ x5 = 0)) (Ev X d 333 (1712, [.ref 900000, .ref 0, .ref 70, .ref 95, .int x4, .int x5, .int x6], [], hS u D J)) (br (decide ((lg_cmp (J 95 0) (Int32.toInt64 x6)) = 0)) (Ev X d 333 (1712, [.ref 900000, .ref 0, .ref 70, .ref 95, .int x4, .int x5, .int x6], [], hS u D J)) (some (.inl (some (.int 0)), hS u D J)))) (some (.inl (some (.int 0)), hS u D J)) := (sy_at X [1712] d 333 15 _).trans rfl
set_option maxRecDepth 100000 in
theorem e333_993 {X : XS} {d u : Nat} {D : Nat → Nat → Int32} {J : Nat → Nat → Int64} (x4 : Int32) : Ev X (d + 1) 333 (993, [.ref 900000, .ref 0, .ref 70, .ref 95, .int x4, .null, .null], [], hS u D J) =
    gd (ob (x4 + 1) X.2) (bI (EvM X d 315 [.ref 0, .int (X.1 (x4 + 1).toNatClampNeg), .ref 95] (hS u D J)) (fun y h => Ev X (d + 1) 333 (1001, [.ref 900000, .ref 0, .ref 70, .ref 95, .int x4, .null, .null], [.int y], h)) (fun e h => none)) := (sy_at X [1001] (d + 1) 333 10 _).trans rfl
set_option maxRecDepth 100000 in
theorem e333_1001 {X : XS} {d u : Nat} {D : Nat → Nat → Int32} {J : Nat → Nat → Int64} (x4 : Int32) (y0 : Int32) : Ev X d 333 (1001, [.ref 900000, .ref 0, .ref 70, .ref 95, .int x4, .null, .null], [.int y0], hS u D J) =
    Ev X d 333 (1002, [.ref 900000, .ref 0, .ref 70, .ref 95, .int x4, .int y0, .null], [], hS u D J) := (sy_at X [1002] d 333 3 _).trans rfl
set_option maxRecDepth 100000 in
theorem e333_1002 {X : XS} {d u : Nat} {D : Nat → Nat → Int32} {J : Nat → Nat → Int64} (x4 : Int32) (x5 : Int32) : Ev X (d + 1) 333 (1002, [.ref 900000, .ref 0, .ref 70, .ref 95, .int x4, .int x5, .null], [], hS u D J) =
    gd (ob (x4 + 1) X.2) (bI (EvM X d 269 [.ref 70, .int (X.1 (x4 + 1).toNatClampNeg)] (hS u D J)) (fun y h => Ev X (d + 1) 333 (1009, [.ref 900000, .ref 0, .ref 70, .ref 95, .int x4, .int x5, .null], [.int y], h)) (fun e h => some (.inr e, h))) := (sy_at X [1009] (d + 1) 333 9 _).trans rfl
set_option maxRecDepth 100000 in
theorem e333_1009 {X : XS} {d u : Nat} {D : Nat → Nat → Int32} {J : Nat → Nat → Int64} (x4 : Int32) (x5 : Int32) (y0 : Int32) : Ev X d 333 (1009, [.ref 900000, .ref 0, .ref 70, .ref 95, .int x4, .int x5, .null], [.int y0], hS u D J) =
    Ev X d 333 (1010, [.ref 900000, .ref 0, .ref 70, .ref 95, .int x4, .int x5, .int y0], [], hS u D J) := (sy_at X [1010] d 333 3 _).trans rfl
set_option maxRecDepth 100000 in
theorem e333_1010 {X : XS} {d u : Nat} {D : Nat → Nat → Int32} {J : Nat → Nat → Int64} (x4 : Int32) (x5 : Int32) (x6 : Int32) : Ev X (d + 1) 333 (1010, [.ref 900000, .ref 0, .ref 70, .ref 95, .int x4, .int x5, .int x6], [], hS u D J) =
    bI (EvM X d 171 [.ref 70] (hS u D J)) (fun y h => Ev X (d + 1) 333 (1012, [.ref 900000, .ref 0, .ref 70, .ref 95, .int x4, .int x5, .int x6], [.int y], h)) (fun e h => some (.inr e, h)) := (sy_at X [1012] (d + 1) 333 4 _).trans rfl
set_option maxRecDepth 100000 in
theorem e333_1012 {X : XS} {d u : Nat} {D : Nat → Nat → Int32} {J : Nat → Nat → Int64} (x4 : Int32) (x5 : Int32) (x6 : Int32) (y0 : Int32) : Ev X d 333 (1012, [.ref 900000, .ref 0, .ref 70, .ref 95, .int x4, .int x5, .int x6], [.int y0], hS u D J) =
    br (decide (y0 = x5)) (br (decide (¬ x5 = 0)) (Ev X d 333 (1712, [.ref 900000, .ref 0, .ref 70, .ref 95, .int x4, .int x5, .int x6], [], hS u D J)) (br (decide ((lg_cmp (J 95 0) (Int32.toInt64 x6)) = 0)) (Ev X d 333 (1712, [.ref 900000, .ref 0, .ref 70, .ref 95, .int x4, .int x5, .int x6], [], hS u D J)) (some (.inl (some (.int 0)), hS u D J)))) (some (.inl (some (.int 0)), hS u D J)) := (sy_at X [1712] d 333 15 _).trans rfl
set_option maxRecDepth 100000 in
theorem f333_1028 {X : XS} {d u : Nat} {D : Nat → Nat → Int32} {J : Nat → Nat → Int64} (x4 : Int32) : Ev X d 333 (1028, [.ref 900000, .ref 0, .ref 70, .ref 95, .int x4, .null, .null], [], hS u D J) =
    gd (ob (x4 + 1) X.2) (Ev X d 333 (1034, [.ref 900000, .ref 0, .ref 70, .ref 95, .int x4, .null, .null], [.int (X.1 (x4 + 1).toNatClampNeg), .ref 0], hS u D J)) := (sy_at X [1034] d 333 8 _).trans rfl
set_option maxRecDepth 100000 in
theorem f333_1034 {X : XS} {d u : Nat} {D : Nat → Nat → Int32} {J : Nat → Nat → Int64} (x4 : Int32) (y0 : Int32) : Ev X d 333 (1034, [.ref 900000, .ref 0, .ref 70, .ref 95, .int x4, .null, .null], [.int y0, .ref 0], hS u D J) =
    gd (ob (x4 + 2) X.2) (Ev X d 333 (1039, [.ref 900000, .ref 0, .ref 70, .ref 95, .int x4, .null, .null], [.int (X.1 (x4 + 2).toNatClampNeg), .int y0, .ref 0], hS u D J)) := (sy_at X [1039] d 333 7 _).trans rfl
set_option maxRecDepth 100000 in
theorem f333_1039 {X : XS} {d u : Nat} {D : Nat → Nat → Int32} {J : Nat → Nat → Int64} (x4 : Int32) (y0 : Int32) (y1 : Int32) : Ev X (d + 1) 333 (1039, [.ref 900000, .ref 0, .ref 70, .ref 95, .int x4, .null, .null], [.int y0, .int y1, .ref 0], hS u D J) =
    bI (EvM X d 316 [.ref 0, .int y1, .int y0, .ref 95] (hS u D J)) (fun y h => Ev X (d + 1) 333 (1041, [.ref 900000, .ref 0, .ref 70, .ref 95, .int x4, .null, .null], [.int y], h)) (fun e h => none) := (sy_at X [1041] (d + 1) 333 4 _).trans rfl
set_option maxRecDepth 100000 in
theorem e333_1028 {X : XS} {d u : Nat} {D : Nat → Nat → Int32} {J : Nat → Nat → Int64} (x4 : Int32) : Ev X (d + 1) 333 (1028, [.ref 900000, .ref 0, .ref 70, .ref 95, .int x4, .null, .null], [], hS u D J) =
    gd (ob (x4 + 1) X.2) (gd (ob (x4 + 2) X.2) (bI (EvM X d 316 [.ref 0, .int (X.1 (x4 + 1).toNatClampNeg), .int (X.1 (x4 + 2).toNatClampNeg), .ref 95] (hS u D J)) (fun y h => Ev X (d + 1) 333 (1041, [.ref 900000, .ref 0, .ref 70, .ref 95, .int x4, .null, .null], [.int y], h)) (fun e h => none))) := by
  refine (f333_1028 _).trans ?_
  simp only [f333_1034, f333_1039]
set_option maxRecDepth 100000 in
theorem e333_1041 {X : XS} {d u : Nat} {D : Nat → Nat → Int32} {J : Nat → Nat → Int64} (x4 : Int32) (y0 : Int32) : Ev X d 333 (1041, [.ref 900000, .ref 0, .ref 70, .ref 95, .int x4, .null, .null], [.int y0], hS u D J) =
    Ev X d 333 (1042, [.ref 900000, .ref 0, .ref 70, .ref 95, .int x4, .int y0, .null], [], hS u D J) := (sy_at X [1042] d 333 3 _).trans rfl
set_option maxRecDepth 100000 in
theorem f333_1042 {X : XS} {d u : Nat} {D : Nat → Nat → Int32} {J : Nat → Nat → Int64} (x4 : Int32) (x5 : Int32) : Ev X d 333 (1042, [.ref 900000, .ref 0, .ref 70, .ref 95, .int x4, .int x5, .null], [], hS u D J) =
    gd (ob (x4 + 1) X.2) (Ev X d 333 (1048, [.ref 900000, .ref 0, .ref 70, .ref 95, .int x4, .int x5, .null], [.int (X.1 (x4 + 1).toNatClampNeg), .ref 70], hS u D J)) := (sy_at X [1048] d 333 8 _).trans rfl
set_option maxRecDepth 100000 in
theorem f333_1048 {X : XS} {d u : Nat} {D : Nat → Nat → Int32} {J : Nat → Nat → Int64} (x4 : Int32) (x5 : Int32) (y0 : Int32) : Ev X d 333 (1048, [.ref 900000, .ref 0, .ref 70, .ref 95, .int x4, .int x5, .null], [.int y0, .ref 70], hS u D J) =
    gd (ob (x4 + 2) X.2) (Ev X d 333 (1053, [.ref 900000, .ref 0, .ref 70, .ref 95, .int x4, .int x5, .null], [.int (X.1 (x4 + 2).toNatClampNeg), .int y0, .ref 70], hS u D J)) := (sy_at X [1053] d 333 7 _).trans rfl
set_option maxRecDepth 100000 in
theorem f333_1053 {X : XS} {d u : Nat} {D : Nat → Nat → Int32} {J : Nat → Nat → Int64} (x4 : Int32) (x5 : Int32) (y0 : Int32) (y1 : Int32) : Ev X (d + 1) 333 (1053, [.ref 900000, .ref 0, .ref 70, .ref 95, .int x4, .int x5, .null], [.int y0, .int y1, .ref 70], hS u D J) =
    bI (EvM X d 271 [.ref 70, .int y1, .int y0] (hS u D J)) (fun y h => Ev X (d + 1) 333 (1054, [.ref 900000, .ref 0, .ref 70, .ref 95, .int x4, .int x5, .null], [.int y], h)) (fun e h => some (.inr e, h)) := (sy_at X [1054] (d + 1) 333 3 _).trans rfl
set_option maxRecDepth 100000 in
theorem e333_1042 {X : XS} {d u : Nat} {D : Nat → Nat → Int32} {J : Nat → Nat → Int64} (x4 : Int32) (x5 : Int32) : Ev X (d + 1) 333 (1042, [.ref 900000, .ref 0, .ref 70, .ref 95, .int x4, .int x5, .null], [], hS u D J) =
    gd (ob (x4 + 1) X.2) (gd (ob (x4 + 2) X.2) (bI (EvM X d 271 [.ref 70, .int (X.1 (x4 + 1).toNatClampNeg), .int (X.1 (x4 + 2).toNatClampNeg)] (hS u D J)) (fun y h => Ev X (d + 1) 333 (1054, [.ref 900000, .ref 0, .ref 70, .ref 95, .int x4, .int x5, .null], [.int y], h)) (fun e h => some (.inr e, h)))) := by
  refine (f333_1042 _ _).trans ?_
  simp only [f333_1048, f333_1053]
set_option maxRecDepth 100000 in
theorem e333_1054 {X : XS} {d u : Nat} {D : Nat → Nat → Int32} {J : Nat → Nat → Int64} (x4 : Int32) (x5 : Int32) (y0 : Int32) : Ev X d 333 (1054, [.ref 900000, .ref 0, .ref 70, .ref 95, .int x4, .int x5, .null], [.int y0], hS u D J) =
    Ev X d 333 (1055, [.ref 900000, .ref 0, .ref 70, .ref 95, .int x4, .int x5, .int y0], [], hS u D J) := (sy_at X [1055] d 333 3 _).trans rfl
set_option maxRecDepth 100000 in
theorem e333_1055 {X : XS} {d u : Nat} {D : Nat → Nat → Int32} {J : Nat → Nat → Int64} (x4 : Int32) (x5 : Int32) (x6 : Int32) : Ev X (d + 1) 333 (1055, [.ref 900000, .ref 0, .ref 70, .ref 95, .int x4, .int x5, .int x6], [], hS u D J) =
    bI (EvM X d 171 [.ref 70] (hS u D J)) (fun y h => Ev X (d + 1) 333 (1057, [.ref 900000, .ref 0, .ref 70, .ref 95, .int x4, .int x5, .int x6], [.int y], h)) (fun e h => some (.inr e, h)) := (sy_at X [1057] (d + 1) 333 4 _).trans rfl
set_option maxRecDepth 100000 in
theorem e333_1057 {X : XS} {d u : Nat} {D : Nat → Nat → Int32} {J : Nat → Nat → Int64} (x4 : Int32) (x5 : Int32) (x6 : Int32) (y0 : Int32) : Ev X d 333 (1057, [.ref 900000, .ref 0, .ref 70, .ref 95, .int x4, .int x5, .int x6], [.int y0], hS u D J) =
    br (decide (y0 = x5)) (br (decide (¬ x5 = 0)) (Ev X d 333 (1712, [.ref 900000, .ref 0, .ref 70, .ref 95, .int x4, .int x5, .int x6], [], hS u D J)) (br (decide ((lg_cmp (J 95 0) (Int32.toInt64 x6)) = 0)) (Ev X d 333 (1712, [.ref 900000, .ref 0, .ref 70, .ref 95, .int x4, .int x5, .int x6], [], hS u D J)) (some (.inl (some (.int 0)), hS u D J)))) (some (.inl (some (.int 0)), hS u D J)) := (sy_at X [1712] d 333 15 _).trans rfl
set_option maxRecDepth 100000 in
theorem e333_1073 {X : XS} {d u : Nat} {D : Nat → Nat → Int32} {J : Nat → Nat → Int64} (x4 : Int32) : Ev X (d + 1) 333 (1073, [.ref 900000, .ref 0, .ref 70, .ref 95, .int x4, .null, .null], [], hS u D J) =
    gd (ob (x4 + 1) X.2) (bI (EvM X d 317 [.ref 0, .int (X.1 (x4 + 1).toNatClampNeg), .ref 95] (hS u D J)) (fun y h => Ev X (d + 1) 333 (1081, [.ref 900000, .ref 0, .ref 70, .ref 95, .int x4, .null, .null], [.int y], h)) (fun e h => none)) := (sy_at X [1081] (d + 1) 333 10 _).trans rfl
set_option maxRecDepth 100000 in
theorem e333_1081 {X : XS} {d u : Nat} {D : Nat → Nat → Int32} {J : Nat → Nat → Int64} (x4 : Int32) (y0 : Int32) : Ev X d 333 (1081, [.ref 900000, .ref 0, .ref 70, .ref 95, .int x4, .null, .null], [.int y0], hS u D J) =
    Ev X d 333 (1082, [.ref 900000, .ref 0, .ref 70, .ref 95, .int x4, .int y0, .null], [], hS u D J) := (sy_at X [1082] d 333 3 _).trans rfl
set_option maxRecDepth 100000 in
theorem e333_1082 {X : XS} {d u : Nat} {D : Nat → Nat → Int32} {J : Nat → Nat → Int64} (x4 : Int32) (x5 : Int32) : Ev X (d + 1) 333 (1082, [.ref 900000, .ref 0, .ref 70, .ref 95, .int x4, .int x5, .null], [], hS u D J) =
    gd (ob (x4 + 1) X.2) (bI (EvM X d 272 [.ref 70, .int (X.1 (x4 + 1).toNatClampNeg)] (hS u D J)) (fun y h => Ev X (d + 1) 333 (1089, [.ref 900000, .ref 0, .ref 70, .ref 95, .int x4, .int x5, .null], [.int y], h)) (fun e h => some (.inr e, h))) := (sy_at X [1089] (d + 1) 333 9 _).trans rfl
set_option maxRecDepth 100000 in
theorem e333_1089 {X : XS} {d u : Nat} {D : Nat → Nat → Int32} {J : Nat → Nat → Int64} (x4 : Int32) (x5 : Int32) (y0 : Int32) : Ev X d 333 (1089, [.ref 900000, .ref 0, .ref 70, .ref 95, .int x4, .int x5, .null], [.int y0], hS u D J) =
    Ev X d 333 (1090, [.ref 900000, .ref 0, .ref 70, .ref 95, .int x4, .int x5, .int y0], [], hS u D J) := (sy_at X [1090] d 333 3 _).trans rfl
set_option maxRecDepth 100000 in
theorem e333_1090 {X : XS} {d u : Nat} {D : Nat → Nat → Int32} {J : Nat → Nat → Int64} (x4 : Int32) (x5 : Int32) (x6 : Int32) : Ev X (d + 1) 333 (1090, [.ref 900000, .ref 0, .ref 70, .ref 95, .int x4, .int x5, .int x6], [], hS u D J) =
    bI (EvM X d 171 [.ref 70] (hS u D J)) (fun y h => Ev X (d + 1) 333 (1092, [.ref 900000, .ref 0, .ref 70, .ref 95, .int x4, .int x5, .int x6], [.int y], h)) (fun e h => some (.inr e, h)) := (sy_at X [1092] (d + 1) 333 4 _).trans rfl
set_option maxRecDepth 100000 in
theorem e333_1092 {X : XS} {d u : Nat} {D : Nat → Nat → Int32} {J : Nat → Nat → Int64} (x4 : Int32) (x5 : Int32) (x6 : Int32) (y0 : Int32) : Ev X d 333 (1092, [.ref 900000, .ref 0, .ref 70, .ref 95, .int x4, .int x5, .int x6], [.int y0], hS u D J) =
    br (decide (y0 = x5)) (br (decide (¬ x5 = 0)) (Ev X d 333 (1712, [.ref 900000, .ref 0, .ref 70, .ref 95, .int x4, .int x5, .int x6], [], hS u D J)) (br (decide ((lg_cmp (J 95 0) (Int32.toInt64 x6)) = 0)) (Ev X d 333 (1712, [.ref 900000, .ref 0, .ref 70, .ref 95, .int x4, .int x5, .int x6], [], hS u D J)) (some (.inl (some (.int 0)), hS u D J)))) (some (.inl (some (.int 0)), hS u D J)) := (sy_at X [1712] d 333 15 _).trans rfl
set_option maxRecDepth 100000 in
theorem e333_1108 {X : XS} {d u : Nat} {D : Nat → Nat → Int32} {J : Nat → Nat → Int64} (x4 : Int32) : Ev X (d + 1) 333 (1108, [.ref 900000, .ref 0, .ref 70, .ref 95, .int x4, .null, .null], [], hS u D J) =
    gd (ob (x4 + 1) X.2) (bI (EvM X d 318 [.ref 0, .int (X.1 (x4 + 1).toNatClampNeg), .ref 95] (hS u D J)) (fun y h => Ev X (d + 1) 333 (1116, [.ref 900000, .ref 0, .ref 70, .ref 95, .int x4, .null, .null], [.int y], h)) (fun e h => none)) := (sy_at X [1116] (d + 1) 333 10 _).trans rfl
set_option maxRecDepth 100000 in
theorem e333_1116 {X : XS} {d u : Nat} {D : Nat → Nat → Int32} {J : Nat → Nat → Int64} (x4 : Int32) (y0 : Int32) : Ev X d 333 (1116, [.ref 900000, .ref 0, .ref 70, .ref 95, .int x4, .null, .null], [.int y0], hS u D J) =
    Ev X d 333 (1117, [.ref 900000, .ref 0, .ref 70, .ref 95, .int x4, .int y0, .null], [], hS u D J) := (sy_at X [1117] d 333 3 _).trans rfl
set_option maxRecDepth 100000 in
theorem e333_1117 {X : XS} {d u : Nat} {D : Nat → Nat → Int32} {J : Nat → Nat → Int64} (x4 : Int32) (x5 : Int32) : Ev X (d + 1) 333 (1117, [.ref 900000, .ref 0, .ref 70, .ref 95, .int x4, .int x5, .null], [], hS u D J) =
    gd (ob (x4 + 1) X.2) (bI (EvM X d 278 [.ref 70, .int (X.1 (x4 + 1).toNatClampNeg)] (hS u D J)) (fun y h => Ev X (d + 1) 333 (1124, [.ref 900000, .ref 0, .ref 70, .ref 95, .int x4, .int x5, .null], [.int y], h)) (fun e h => some (.inr e, h))) := (sy_at X [1124] (d + 1) 333 9 _).trans rfl
set_option maxRecDepth 100000 in
theorem e333_1124 {X : XS} {d u : Nat} {D : Nat → Nat → Int32} {J : Nat → Nat → Int64} (x4 : Int32) (x5 : Int32) (y0 : Int32) : Ev X d 333 (1124, [.ref 900000, .ref 0, .ref 70, .ref 95, .int x4, .int x5, .null], [.int y0], hS u D J) =
    Ev X d 333 (1125, [.ref 900000, .ref 0, .ref 70, .ref 95, .int x4, .int x5, .int y0], [], hS u D J) := (sy_at X [1125] d 333 3 _).trans rfl
set_option maxRecDepth 100000 in
theorem e333_1125 {X : XS} {d u : Nat} {D : Nat → Nat → Int32} {J : Nat → Nat → Int64} (x4 : Int32) (x5 : Int32) (x6 : Int32) : Ev X (d + 1) 333 (1125, [.ref 900000, .ref 0, .ref 70, .ref 95, .int x4, .int x5, .int x6], [], hS u D J) =
    bI (EvM X d 171 [.ref 70] (hS u D J)) (fun y h => Ev X (d + 1) 333 (1127, [.ref 900000, .ref 0, .ref 70, .ref 95, .int x4, .int x5, .int x6], [.int y], h)) (fun e h => some (.inr e, h)) := (sy_at X [1127] (d + 1) 333 4 _).trans rfl
set_option maxRecDepth 100000 in
theorem e333_1127 {X : XS} {d u : Nat} {D : Nat → Nat → Int32} {J : Nat → Nat → Int64} (x4 : Int32) (x5 : Int32) (x6 : Int32) (y0 : Int32) : Ev X d 333 (1127, [.ref 900000, .ref 0, .ref 70, .ref 95, .int x4, .int x5, .int x6], [.int y0], hS u D J) =
    br (decide (y0 = x5)) (br (decide (¬ x5 = 0)) (Ev X d 333 (1712, [.ref 900000, .ref 0, .ref 70, .ref 95, .int x4, .int x5, .int x6], [], hS u D J)) (br (decide ((lg_cmp (J 95 0) (Int32.toInt64 x6)) = 0)) (Ev X d 333 (1712, [.ref 900000, .ref 0, .ref 70, .ref 95, .int x4, .int x5, .int x6], [], hS u D J)) (some (.inl (some (.int 0)), hS u D J)))) (some (.inl (some (.int 0)), hS u D J)) := (sy_at X [1712] d 333 15 _).trans rfl
set_option maxRecDepth 100000 in
theorem f333_1143 {X : XS} {d u : Nat} {D : Nat → Nat → Int32} {J : Nat → Nat → Int64} (x4 : Int32) : Ev X d 333 (1143, [.ref 900000, .ref 0, .ref 70, .ref 95, .int x4, .null, .null], [], hS u D J) =
    gd (ob (x4 + 1) X.2) (Ev X d 333 (1149, [.ref 900000, .ref 0, .ref 70, .ref 95, .int x4, .null, .null], [.int (X.1 (x4 + 1).toNatClampNeg), .ref 0], hS u D J)) := (sy_at X [1149] d 333 8 _).trans rfl
set_option maxRecDepth 100000 in
theorem f333_1149 {X : XS} {d u : Nat} {D : Nat → Nat → Int32} {J : Nat → Nat → Int64} (x4 : Int32) (y0 : Int32) : Ev X d 333 (1149, [.ref 900000, .ref 0, .ref 70, .ref 95, .int x4, .null, .null], [.int y0, .ref 0], hS u D J) =
    gd (ob (x4 + 2) X.2) (Ev X d 333 (1154, [.ref 900000, .ref 0, .ref 70, .ref 95, .int x4, .null, .null], [.int (X.1 (x4 + 2).toNatClampNeg), .int y0, .ref 0], hS u D J)) := (sy_at X [1154] d 333 7 _).trans rfl
set_option maxRecDepth 100000 in
theorem f333_1154 {X : XS} {d u : Nat} {D : Nat → Nat → Int32} {J : Nat → Nat → Int64} (x4 : Int32) (y0 : Int32) (y1 : Int32) : Ev X d 333 (1154, [.ref 900000, .ref 0, .ref 70, .ref 95, .int x4, .null, .null], [.int y0, .int y1, .ref 0], hS u D J) =
    gd (ob (x4 + 3) X.2) (Ev X d 333 (1159, [.ref 900000, .ref 0, .ref 70, .ref 95, .int x4, .null, .null], [.int (X.1 (x4 + 3).toNatClampNeg), .int y0, .int y1, .ref 0], hS u D J)) := (sy_at X [1159] d 333 7 _).trans rfl
set_option maxRecDepth 100000 in
theorem f333_1159 {X : XS} {d u : Nat} {D : Nat → Nat → Int32} {J : Nat → Nat → Int64} (x4 : Int32) (y0 : Int32) (y1 : Int32) (y2 : Int32) : Ev X (d + 1) 333 (1159, [.ref 900000, .ref 0, .ref 70, .ref 95, .int x4, .null, .null], [.int y0, .int y1, .int y2, .ref 0], hS u D J) =
    bI (EvM X d 319 [.ref 0, .int y2, .int y1, .int y0, .ref 95] (hS u D J)) (fun y h => Ev X (d + 1) 333 (1161, [.ref 900000, .ref 0, .ref 70, .ref 95, .int x4, .null, .null], [.int y], h)) (fun e h => none) := (sy_at X [1161] (d + 1) 333 4 _).trans rfl
set_option maxRecDepth 100000 in
theorem e333_1143 {X : XS} {d u : Nat} {D : Nat → Nat → Int32} {J : Nat → Nat → Int64} (x4 : Int32) : Ev X (d + 1) 333 (1143, [.ref 900000, .ref 0, .ref 70, .ref 95, .int x4, .null, .null], [], hS u D J) =
    gd (ob (x4 + 1) X.2) (gd (ob (x4 + 2) X.2) (gd (ob (x4 + 3) X.2) (bI (EvM X d 319 [.ref 0, .int (X.1 (x4 + 1).toNatClampNeg), .int (X.1 (x4 + 2).toNatClampNeg), .int (X.1 (x4 + 3).toNatClampNeg), .ref 95] (hS u D J)) (fun y h => Ev X (d + 1) 333 (1161, [.ref 900000, .ref 0, .ref 70, .ref 95, .int x4, .null, .null], [.int y], h)) (fun e h => none)))) := by
  refine (f333_1143 _).trans ?_
  simp only [f333_1149, f333_1154, f333_1159]
set_option maxRecDepth 100000 in
theorem e333_1161 {X : XS} {d u : Nat} {D : Nat → Nat → Int32} {J : Nat → Nat → Int64} (x4 : Int32) (y0 : Int32) : Ev X d 333 (1161, [.ref 900000, .ref 0, .ref 70, .ref 95, .int x4, .null, .null], [.int y0], hS u D J) =
    Ev X d 333 (1162, [.ref 900000, .ref 0, .ref 70, .ref 95, .int x4, .int y0, .null], [], hS u D J) := (sy_at X [1162] d 333 3 _).trans rfl
set_option maxRecDepth 100000 in
theorem f333_1162 {X : XS} {d u : Nat} {D : Nat → Nat → Int32} {J : Nat → Nat → Int64} (x4 : Int32) (x5 : Int32) : Ev X d 333 (1162, [.ref 900000, .ref 0, .ref 70, .ref 95, .int x4, .int x5, .null], [], hS u D J) =
    gd (ob (x4 + 1) X.2) (Ev X d 333 (1168, [.ref 900000, .ref 0, .ref 70, .ref 95, .int x4, .int x5, .null], [.int (X.1 (x4 + 1).toNatClampNeg), .ref 70], hS u D J)) := (sy_at X [1168] d 333 8 _).trans rfl
set_option maxRecDepth 100000 in
theorem f333_1168 {X : XS} {d u : Nat} {D : Nat → Nat → Int32} {J : Nat → Nat → Int64} (x4 : Int32) (x5 : Int32) (y0 : Int32) : Ev X d 333 (1168, [.ref 900000, .ref 0, .ref 70, .ref 95, .int x4, .int x5, .null], [.int y0, .ref 70], hS u D J) =
    gd (ob (x4 + 2) X.2) (Ev X d 333 (1173, [.ref 900000, .ref 0, .ref 70, .ref 95, .int x4, .int x5, .null], [.int (X.1 (x4 + 2).toNatClampNeg), .int y0, .ref 70], hS u D J)) := (sy_at X [1173] d 333 7 _).trans rfl
set_option maxRecDepth 100000 in
theorem f333_1173 {X : XS} {d u : Nat} {D : Nat → Nat → Int32} {J : Nat → Nat → Int64} (x4 : Int32) (x5 : Int32) (y0 : Int32) (y1 : Int32) : Ev X d 333 (1173, [.ref 900000, .ref 0, .ref 70, .ref 95, .int x4, .int x5, .null], [.int y0, .int y1, .ref 70], hS u D J) =
    gd (ob (x4 + 3) X.2) (Ev X d 333 (1178, [.ref 900000, .ref 0, .ref 70, .ref 95, .int x4, .int x5, .null], [.int (X.1 (x4 + 3).toNatClampNeg), .int y0, .int y1, .ref 70], hS u D J)) := (sy_at X [1178] d 333 7 _).trans rfl
set_option maxRecDepth 100000 in
theorem f333_1178 {X : XS} {d u : Nat} {D : Nat → Nat → Int32} {J : Nat → Nat → Int64} (x4 : Int32) (x5 : Int32) (y0 : Int32) (y1 : Int32) (y2 : Int32) : Ev X (d + 1) 333 (1178, [.ref 900000, .ref 0, .ref 70, .ref 95, .int x4, .int x5, .null], [.int y0, .int y1, .int y2, .ref 70], hS u D J) =
    bI (EvM X d 280 [.ref 70, .int y2, .int y1, .int y0] (hS u D J)) (fun y h => Ev X (d + 1) 333 (1179, [.ref 900000, .ref 0, .ref 70, .ref 95, .int x4, .int x5, .null], [.int y], h)) (fun e h => some (.inr e, h)) := (sy_at X [1179] (d + 1) 333 3 _).trans rfl
set_option maxRecDepth 100000 in
theorem e333_1162 {X : XS} {d u : Nat} {D : Nat → Nat → Int32} {J : Nat → Nat → Int64} (x4 : Int32) (x5 : Int32) : Ev X (d + 1) 333 (1162, [.ref 900000, .ref 0, .ref 70, .ref 95, .int x4, .int x5, .null], [], hS u D J) =
    gd (ob (x4 + 1) X.2) (gd (ob (x4 + 2) X.2) (gd (ob (x4 + 3) X.2) (bI (EvM X d 280 [.ref 70, .int (X.1 (x4 + 1).toNatClampNeg), .int (X.1 (x4 + 2).toNatClampNeg), .int (X.1 (x4 + 3).toNatClampNeg)] (hS u D J)) (fun y h => Ev X (d + 1) 333 (1179, [.ref 900000, .ref 0, .ref 70, .ref 95, .int x4, .int x5, .null], [.int y], h)) (fun e h => some (.inr e, h))))) := by
  refine (f333_1162 _ _).trans ?_
  simp only [f333_1168, f333_1173, f333_1178]
set_option maxRecDepth 100000 in
theorem e333_1179 {X : XS} {d u : Nat} {D : Nat → Nat → Int32} {J : Nat → Nat → Int64} (x4 : Int32) (x5 : Int32) (y0 : Int32) : Ev X d 333 (1179, [.ref 900000, .ref 0, .ref 70, .ref 95, .int x4, .int x5, .null], [.int y0], hS u D J) =
    Ev X d 333 (1180, [.ref 900000, .ref 0, .ref 70, .ref 95, .int x4, .int x5, .int y0], [], hS u D J) := (sy_at X [1180] d 333 3 _).trans rfl
set_option maxRecDepth 100000 in
theorem e333_1180 {X : XS} {d u : Nat} {D : Nat → Nat → Int32} {J : Nat → Nat → Int64} (x4 : Int32) (x5 : Int32) (x6 : Int32) : Ev X (d + 1) 333 (1180, [.ref 900000, .ref 0, .ref 70, .ref 95, .int x4, .int x5, .int x6], [], hS u D J) =
    bI (EvM X d 171 [.ref 70] (hS u D J)) (fun y h => Ev X (d + 1) 333 (1182, [.ref 900000, .ref 0, .ref 70, .ref 95, .int x4, .int x5, .int x6], [.int y], h)) (fun e h => some (.inr e, h)) := (sy_at X [1182] (d + 1) 333 4 _).trans rfl
set_option maxRecDepth 100000 in
theorem e333_1182 {X : XS} {d u : Nat} {D : Nat → Nat → Int32} {J : Nat → Nat → Int64} (x4 : Int32) (x5 : Int32) (x6 : Int32) (y0 : Int32) : Ev X d 333 (1182, [.ref 900000, .ref 0, .ref 70, .ref 95, .int x4, .int x5, .int x6], [.int y0], hS u D J) =
    br (decide (y0 = x5)) (br (decide (¬ x5 = 0)) (Ev X d 333 (1712, [.ref 900000, .ref 0, .ref 70, .ref 95, .int x4, .int x5, .int x6], [], hS u D J)) (br (decide ((lg_cmp (J 95 0) (Int32.toInt64 x6)) = 0)) (Ev X d 333 (1712, [.ref 900000, .ref 0, .ref 70, .ref 95, .int x4, .int x5, .int x6], [], hS u D J)) (some (.inl (some (.int 0)), hS u D J)))) (some (.inl (some (.int 0)), hS u D J)) := (sy_at X [1712] d 333 15 _).trans rfl
set_option maxRecDepth 100000 in
theorem e333_1198 {X : XS} {d u : Nat} {D : Nat → Nat → Int32} {J : Nat → Nat → Int64} (x4 : Int32) : Ev X (d + 1) 333 (1198, [.ref 900000, .ref 0, .ref 70, .ref 95, .int x4, .null, .null], [], hS u D J) =
    bV (EvM X d 138 [.ref 0] (hS u D J)) (fun h => Ev X (d + 1) 333 (1200, [.ref 900000, .ref 0, .ref 70, .ref 95, .int x4, .null, .null], [], h)) (fun e h => some (.inr e, h)) := (sy_at X [1200] (d + 1) 333 4 _).trans rfl
set_option maxRecDepth 100000 in
theorem e333_1200 {X : XS} {d u : Nat} {D : Nat → Nat → Int32} {J : Nat → Nat → Int64} (x4 : Int32) : Ev X (d + 1) 333 (1200, [.ref 900000, .ref 0, .ref 70, .ref 95, .int x4, .null, .null], [], hS u D J) =
    bV (EvM X d 281 [.ref 70] (hS u D J)) (fun h => Ev X (d + 1) 333 (1202, [.ref 900000, .ref 0, .ref 70, .ref 95, .int x4, .null, .null], [], h)) (fun e h => some (.inr e, h)) := (sy_at X [1202] (d + 1) 333 4 _).trans rfl
set_option maxRecDepth 100000 in
theorem e333_1202 {X : XS} {d u : Nat} {D : Nat → Nat → Int32} {J : Nat → Nat → Int64} (x4 : Int32) : Ev X d 333 (1202, [.ref 900000, .ref 0, .ref 70, .ref 95, .int x4, .null, .null], [], hS u D J) =
    Ev X d 333 (1712, [.ref 900000, .ref 0, .ref 70, .ref 95, .int x4, .null, .null], [], hS u D J) := (sy_at X [1712] d 333 3 _).trans rfl
set_option maxRecDepth 100000 in
theorem e333_1203 {X : XS} {d u : Nat} {D : Nat → Nat → Int32} {J : Nat → Nat → Int64} (x4 : Int32) : Ev X (d + 1) 333 (1203, [.ref 900000, .ref 0, .ref 70, .ref 95, .int x4, .null, .null], [], hS u D J) =
    gd (ob (x4 + 1) X.2) (bI (EvM X d 320 [.ref 0, .int (X.1 (x4 + 1).toNatClampNeg), .ref 95] (hS u D J)) (fun y h => Ev X (d + 1) 333 (1211, [.ref 900000, .ref 0, .ref 70, .ref 95, .int x4, .null, .null], [.int y], h)) (fun e h => none)) := (sy_at X [1211] (d + 1) 333 10 _).trans rfl
set_option maxRecDepth 100000 in
theorem e333_1211 {X : XS} {d u : Nat} {D : Nat → Nat → Int32} {J : Nat → Nat → Int64} (x4 : Int32) (y0 : Int32) : Ev X d 333 (1211, [.ref 900000, .ref 0, .ref 70, .ref 95, .int x4, .null, .null], [.int y0], hS u D J) =
    Ev X d 333 (1212, [.ref 900000, .ref 0, .ref 70, .ref 95, .int x4, .int y0, .null], [], hS u D J) := (sy_at X [1212] d 333 3 _).trans rfl
set_option maxRecDepth 100000 in
theorem e333_1212 {X : XS} {d u : Nat} {D : Nat → Nat → Int32} {J : Nat → Nat → Int64} (x4 : Int32) (x5 : Int32) : Ev X (d + 1) 333 (1212, [.ref 900000, .ref 0, .ref 70, .ref 95, .int x4, .int x5, .null], [], hS u D J) =
    gd (ob (x4 + 1) X.2) (bI (EvM X d 284 [.ref 70, .int (X.1 (x4 + 1).toNatClampNeg)] (hS u D J)) (fun y h => Ev X (d + 1) 333 (1219, [.ref 900000, .ref 0, .ref 70, .ref 95, .int x4, .int x5, .null], [.int y], h)) (fun e h => some (.inr e, h))) := (sy_at X [1219] (d + 1) 333 9 _).trans rfl
set_option maxRecDepth 100000 in
theorem e333_1219 {X : XS} {d u : Nat} {D : Nat → Nat → Int32} {J : Nat → Nat → Int64} (x4 : Int32) (x5 : Int32) (y0 : Int32) : Ev X d 333 (1219, [.ref 900000, .ref 0, .ref 70, .ref 95, .int x4, .int x5, .null], [.int y0], hS u D J) =
    Ev X d 333 (1220, [.ref 900000, .ref 0, .ref 70, .ref 95, .int x4, .int x5, .int y0], [], hS u D J) := (sy_at X [1220] d 333 3 _).trans rfl
set_option maxRecDepth 100000 in
theorem e333_1220 {X : XS} {d u : Nat} {D : Nat → Nat → Int32} {J : Nat → Nat → Int64} (x4 : Int32) (x5 : Int32) (x6 : Int32) : Ev X (d + 1) 333 (1220, [.ref 900000, .ref 0, .ref 70, .ref 95, .int x4, .int x5, .int x6], [], hS u D J) =
    bI (EvM X d 171 [.ref 70] (hS u D J)) (fun y h => Ev X (d + 1) 333 (1222, [.ref 900000, .ref 0, .ref 70, .ref 95, .int x4, .int x5, .int x6], [.int y], h)) (fun e h => some (.inr e, h)) := (sy_at X [1222] (d + 1) 333 4 _).trans rfl
set_option maxRecDepth 100000 in
theorem e333_1222 {X : XS} {d u : Nat} {D : Nat → Nat → Int32} {J : Nat → Nat → Int64} (x4 : Int32) (x5 : Int32) (x6 : Int32) (y0 : Int32) : Ev X d 333 (1222, [.ref 900000, .ref 0, .ref 70, .ref 95, .int x4, .int x5, .int x6], [.int y0], hS u D J) =
    br (decide (y0 = x5)) (br (decide (¬ x5 = 0)) (Ev X d 333 (1712, [.ref 900000, .ref 0, .ref 70, .ref 95, .int x4, .int x5, .int x6], [], hS u D J)) (br (decide ((lg_cmp (J 95 0) (Int32.toInt64 x6)) = 0)) (Ev X d 333 (1712, [.ref 900000, .ref 0, .ref 70, .ref 95, .int x4, .int x5, .int x6], [], hS u D J)) (some (.inl (some (.int 0)), hS u D J)))) (some (.inl (some (.int 0)), hS u D J)) := (sy_at X [1712] d 333 15 _).trans rfl
set_option maxRecDepth 100000 in
theorem e333_1238 {X : XS} {d u : Nat} {D : Nat → Nat → Int32} {J : Nat → Nat → Int64} (x4 : Int32) : Ev X (d + 1) 333 (1238, [.ref 900000, .ref 0, .ref 70, .ref 95, .int x4, .null, .null], [], hS u D J) =
    gd (ob (x4 + 1) X.2) (bI (EvM X d 321 [.ref 0, .int (X.1 (x4 + 1).toNatClampNeg), .ref 95] (hS u D J)) (fun y h => Ev X (d + 1) 333 (1246, [.ref 900000, .ref 0, .ref 70, .ref 95, .int x4, .null, .null], [.int y], h)) (fun e h => none)) := (sy_at X [1246] (d + 1) 333 10 _).trans rfl
set_option maxRecDepth 100000 in
theorem e333_1246 {X : XS} {d u : Nat} {D : Nat → Nat → Int32} {J : Nat → Nat → Int64} (x4 : Int32) (y0 : Int32) : Ev X d 333 (1246, [.ref 900000, .ref 0, .ref 70, .ref 95, .int x4, .null, .null], [.int y0], hS u D J) =
    Ev X d 333 (1247, [.ref 900000, .ref 0, .ref 70, .ref 95, .int x4, .int y0, .null], [], hS u D J) := (sy_at X [1247] d 333 3 _).trans rfl
set_option maxRecDepth 100000 in
theorem e333_1247 {X : XS} {d u : Nat} {D : Nat → Nat → Int32} {J : Nat → Nat → Int64} (x4 : Int32) (x5 : Int32) : Ev X (d + 1) 333 (1247, [.ref 900000, .ref 0, .ref 70, .ref 95, .int x4, .int x5, .null], [], hS u D J) =
    gd (ob (x4 + 1) X.2) (bI (EvM X d 285 [.ref 70, .int (X.1 (x4 + 1).toNatClampNeg)] (hS u D J)) (fun y h => Ev X (d + 1) 333 (1254, [.ref 900000, .ref 0, .ref 70, .ref 95, .int x4, .int x5, .null], [.int y], h)) (fun e h => some (.inr e, h))) := (sy_at X [1254] (d + 1) 333 9 _).trans rfl
set_option maxRecDepth 100000 in
theorem e333_1254 {X : XS} {d u : Nat} {D : Nat → Nat → Int32} {J : Nat → Nat → Int64} (x4 : Int32) (x5 : Int32) (y0 : Int32) : Ev X d 333 (1254, [.ref 900000, .ref 0, .ref 70, .ref 95, .int x4, .int x5, .null], [.int y0], hS u D J) =
    Ev X d 333 (1255, [.ref 900000, .ref 0, .ref 70, .ref 95, .int x4, .int x5, .int y0], [], hS u D J) := (sy_at X [1255] d 333 3 _).trans rfl
set_option maxRecDepth 100000 in
theorem e333_1255 {X : XS} {d u : Nat} {D : Nat → Nat → Int32} {J : Nat → Nat → Int64} (x4 : Int32) (x5 : Int32) (x6 : Int32) : Ev X (d + 1) 333 (1255, [.ref 900000, .ref 0, .ref 70, .ref 95, .int x4, .int x5, .int x6], [], hS u D J) =
    bI (EvM X d 171 [.ref 70] (hS u D J)) (fun y h => Ev X (d + 1) 333 (1257, [.ref 900000, .ref 0, .ref 70, .ref 95, .int x4, .int x5, .int x6], [.int y], h)) (fun e h => some (.inr e, h)) := (sy_at X [1257] (d + 1) 333 4 _).trans rfl
