/-! ===== the first state, and all runs (printed by wip/gen/last.py) ===== -/
def D00 : DD := ((apU [(95, none)] (apU [(70, some (2, 12)), (70, some (3, (-1))), (70, some (4, (-1))), (70, some (5, (-1))), (71, none), (72, none), (70, some (10, (-1))), (73, none), (74, none), (75, none), (76, none), (77, none), (78, none), (79, none), (80, none), (81, none), (82, none), (83, none), (84, none), (85, none), (86, none), (87, none), (88, none), (89, none), (90, none), (91, none), (92, none), (93, none), (94, none)] (apU [(70, none)] (apU [(1, none), (0, some (2, (-1))), (2, none), (3, none), (3, some (1, 12)), (4, none), (5, none), (6, none), (7, none), (8, none), (9, none), (10, none), (11, none), (11, some (0, (-1))), (11, some (1, (-1))), (11, some (2, (-1))), (12, none), (13, none), (13, some (1, 12)), (14, none), (15, none), (16, none), (17, none), (18, none), (19, none), (20, none), (21, none), (21, some (0, (-1))), (21, some (1, (-1))), (21, some (2, (-1))), (22, none), (23, none), (24, none), (25, none), (26, none), (27, none), (28, none), (29, none), (25, some (7, (-1))), (25, some (8, (-1))), (30, none), (26, some (0, (-1))), (26, some (24, 0)), (26, some (1, (-1))), (26, some (25, 0)), (26, some (2, (-1))), (26, some (26, 0)), (26, some (3, (-1))), (26, some (27, 0)), (26, some (4, (-1))), (26, some (28, 0)), (26, some (5, (-1))), (26, some (29, 0)), (26, some (6, (-1))), (26, some (30, 0)), (26, some (7, (-1))), (26, some (31, 0)), (26, some (8, (-1))), (26, some (32, 0)), (26, some (9, (-1))), (26, some (33, 0)), (26, some (10, (-1))), (26, some (34, 0)), (26, some (11, (-1))), (26, some (35, 0)), (28, some (0, 0)), (28, some (1, 0)), (28, some (2, 0)), (28, some (3, 0)), (28, some (4, 0)), (28, some (5, 0)), (28, some (6, 0)), (28, some (7, 0)), (28, some (8, 0)), (28, some (9, 0)), (28, some (10, 0)), (28, some (11, 0)), (31, none), (32, none), (33, none), (34, none), (35, none), (31, some (7, (-1))), (31, some (8, (-1))), (36, none), (32, some (0, (-1))), (32, some (24, 0)), (32, some (1, (-1))), (32, some (25, 0)), (32, some (2, (-1))), (32, some (26, 0)), (32, some (3, (-1))), (32, some (27, 0)), (32, some (4, (-1))), (32, some (28, 0)), (32, some (5, (-1))), (32, some (29, 0)), (32, some (6, (-1))), (32, some (30, 0)), (32, some (7, (-1))), (32, some (31, 0)), (32, some (8, (-1))), (32, some (32, 0)), (32, some (9, (-1))), (32, some (33, 0)), (32, some (10, (-1))), (32, some (34, 0)), (32, some (11, (-1))), (32, some (35, 0)), (34, some (0, 0)), (34, some (1, 0)), (34, some (2, 0)), (34, some (3, 0)), (34, some (4, 0)), (34, some (5, 0)), (34, some (6, 0)), (34, some (7, 0)), (34, some (8, 0)), (34, some (9, 0)), (34, some (10, 0)), (34, some (11, 0)), (37, none), (38, none), (39, none), (40, none), (41, none), (42, none), (38, some (7, (-1))), (38, some (8, (-1))), (43, none), (39, some (0, (-1))), (39, some (24, 0)), (39, some (1, (-1))), (39, some (25, 0)), (39, some (2, (-1))), (39, some (26, 0)), (39, some (3, (-1))), (39, some (27, 0)), (39, some (4, (-1))), (39, some (28, 0)), (39, some (5, (-1))), (39, some (29, 0)), (39, some (6, (-1))), (39, some (30, 0)), (39, some (7, (-1))), (39, some (31, 0)), (39, some (8, (-1))), (39, some (32, 0)), (39, some (9, (-1))), (39, some (33, 0)), (39, some (10, (-1))), (39, some (34, 0)), (39, some (11, (-1))), (39, some (35, 0)), (41, some (0, 0)), (41, some (1, 0)), (41, some (2, 0)), (41, some (3, 0)), (41, some (4, 0)), (41, some (5, 0)), (41, some (6, 0)), (41, some (7, 0)), (41, some (8, 0)), (41, some (9, 0)), (41, some (10, 0)), (41, some (11, 0)), (37, some (0, (-1))), (44, none), (45, none), (46, none), (47, none), (48, none), (49, none), (50, none), (51, none), (52, none), (53, none), (54, none), (55, none), (56, none), (57, none), (58, none), (59, none), (60, none), (61, none), (62, none), (63, none), (64, none), (65, none), (66, none), (67, none), (68, none), (69, none)] (apU [(0, none)] (fun _ _ => 0)))))))
def J00 : JJ := ((apJ [95] (apJ [71, 72, 73, 74, 75, 76, 77, 78, 79, 80, 81, 82, 83, 84, 85, 86, 87, 88, 89, 90, 91, 92, 93, 94] (apJ [70] (apJ [1, 2, 3, 4, 5, 6, 7, 8, 9, 10, 11, 12, 13, 14, 15, 16, 17, 18, 19, 20, 21, 22, 23, 24, 25, 26, 27, 28, 29, 30, 31, 32, 33, 34, 35, 36, 37, 38, 39, 40, 41, 42, 43, 44, 45, 46, 47, 48, 49, 50, 51, 52, 53, 54, 55, 56, 57, 58, 59, 60, 61, 62, 63, 64, 65, 66, 67, 68, 69] (apJ [0] (fun _ _ => 0)))))))
theorem law_00 {X : XS} : Ev X 60 333 (0, ent 333 [.ref aSCR], [], h0) = Ev X 60 333 (13, [.ref 900000, .ref 0, .ref 70, .ref 95, .int 0, .null, .null], [], hS 0 D00 J00) := law_0
def sm40 (L : List (Nat × Option (Nat × Int32))) : Bool := L.all (fun e => match e.2 with
  | none => true
  | some x => decide (x.1 < 40))
theorem apU_big {q k : Nat} (hk : 40 ≤ k) : ∀ (L : List (Nat × Option (Nat × Int32))) (D : DD), sm40 L = true → D q k = 0 → apU L D q k = 0
  | [], _, _, h => h
  | (a, none) :: L, D, hL, h => by
    have hL : sm40 L = true := hL
    show apU L (uz D a) q k = 0
    refine apU_big hk L _ hL ?_
    unfold uz
    split
    · rfl
    · exact h
  | (a, some (b, v)) :: L, D, hL, h => by
    have hL : (decide (b < 40) && sm40 L) = true := hL
    rw [Bool.and_eq_true, decide_eq_true_eq] at hL
    show apU L (ud D a b v) q k = 0
    refine apU_big hk L _ hL.2 ?_
    rw [ud_ne (by omega)]; exact h
theorem d_big {q k : Nat} (hk : 40 ≤ k) : D00 q k = 0 := by
  unfold D00
  refine apU_big hk _ _ (by decide +kernel) (apU_big hk _ _ (by decide +kernel) (apU_big hk _ _ (by decide +kernel) (apU_big hk _ _ (by decide +kernel) (apU_big hk _ _ (by decide +kernel) rfl))))
theorem d_26 : ∀ i, i < 40 → D00 26 i = if i < 12 then -1 else 0 := by decide +kernel
theorem d_28 : ∀ i, i < 12 → D00 28 i = 0 := by decide +kernel
theorem d_2 : ∀ i, i < 3 → D00 2 i = 0 ∧ D00 73 i = 0 ∧ D00 11 i = -1 := by decide +kernel
theorem d_c : D00 0 1 = 0 ∧ D00 0 2 = -1 ∧ D00 3 0 = 0 ∧ D00 3 1 = 12 ∧ D00 37 0 = -1 ∧ D00 46 0 = 0 ∧ D00 46 1 = 0 ∧ D00 48 0 = 0 ∧ D00 52 0 = 0 ∧ D00 55 0 = 0 := by decide +kernel
theorem d_m : D00 70 8 = 0 ∧ D00 70 10 = -1 ∧ D00 70 1 = 0 ∧ D00 70 2 = 12 ∧ D00 70 3 = -1 ∧ D00 70 4 = -1 ∧ D00 70 5 = -1 ∧ D00 78 0 = 0 ∧ D00 70 36 = 0 ∧ D00 70 51 = 0 ∧ D00 70 56 = 0 ∧ D00 70 43 = 0 := by decide +kernel
theorem d_cc : D00 26 = cLn s0L := by
  funext i
  have e : cLn s0L i = if i < 12 then -1 else 0 := by
    unfold cLn
    by_cases h : i < 12
    · rw [if_pos h, if_pos h]
    · rw [if_neg h, if_neg h, if_neg (show ¬ i < 12 + s0L.1 from h)]
  rw [e]
  by_cases h : i < 40
  · exact d_26 i h
  · rw [d_big (by omega), if_neg (by omega)]
def σ00 : Sg := ((0, fun _ => 0, -1, fun _ => 0), ruN s0L, cLn s0L, [], [], none)
theorem ok_00 : SgOk σ00 :=
  ⟨Nat.zero_le _, ru_ok (s := s0L) (Nat.zero_le _) (fun a ha => by cases ha) (fun r _ f hf => by cases hf), good_s (s := s0L) (Nat.zero_le _) (fun p hp => absurd hp (Nat.not_lt_zero p)), ⟨Nat.zero_le _, fun a ha => absurd ha List.not_mem_nil⟩, ⟨Nat.zero_le _, fun a ha => absurd ha List.not_mem_nil⟩, fun m (hm : (none : Option Im) = some m) => (by cases hm), fun i => ⟨0, by decide, rfl⟩⟩
theorem ci_00 : CI σ00 D00 := by
  obtain ⟨c1, c2, c3, c4, c5, c6, c7, c8, c9, c10⟩ := d_c
  have hz : ∀ w, sizeN (ruN s0L) (cLn s0L) w = 0 := size_z (fun p (hp : p < 0) => absurd hp (Nat.not_lt_zero p))
  refine ⟨⟨c1, fun i hi => absurd hi (Nat.not_lt_zero i), c2, fun j hj => (d_2 j hj).1⟩, ⟨c3, c4, (d_2 0 (by decide)).2.2, (d_2 1 (by decide)).2.2, (d_2 2 (by decide)).2.2⟩, ⟨d_cc, fun w hw => ?_, fun w x _ hx => ?_⟩, Or.inl c5, ⟨c6, 0, by decide, c7, fun j hj => absurd hj (Nat.not_lt_zero j)⟩, ⟨c8, fun j hj => absurd hj (Nat.not_lt_zero j)⟩, Or.inl c9, c10, fun i hi => d_big (by omega), fun i hi => d_big (by omega), fun i hi => d_big (by omega)⟩
  · show D00 28 w = nI (sizeN (ruN s0L) (cLn s0L) w)
    rw [hz]; exact d_28 w hw
  · rw [show σ00.2.1 = ruN s0L from rfl, show σ00.2.2.1 = cLn s0L from rfl, hz] at hx; omega
theorem mi_00 : MI σ00 D00 := by
  obtain ⟨c1, c2, c3, c4, c5, c6, c7, c8, c9, c10, c11, c12⟩ := d_m
  exact ⟨⟨c1, fun i hi => absurd hi (Nat.not_lt_zero i), c2, fun j hj => (d_2 j hj).2.1⟩, ⟨c3, c4, c5, c6, c7⟩, ⟨c8, fun p (hp : p < 0) => absurd hp (Nat.not_lt_zero p)⟩, ⟨c9, fun j hj => absurd hj (Nat.not_lt_zero j)⟩, ⟨c10, fun j hj => absurd hj (Nat.not_lt_zero j)⟩, c11, c12⟩
theorem sg_n : SG.length = 96 ∧ (SG.map fun c => c.2.1).sum ≤ 100000 := by decide +kernel
theorem amr : AMR := by
  intro xs L hL
  obtain ⟨y, h1, u, D', J', hu, rfl⟩ := law_n (X := (xs, L)) (J := J00) (p_chapel _) hL ok_00 ci_00 mi_00
  have h2 : Ev (xs, L) 60 333 (0, ent 333 [.ref aSCR], [], h0) = some (.inl (some (.int 1)), hS u D' J') := law_00.trans h1
  obtain ⟨n, hn⟩ := Ev_iff.mp h2
  refine ⟨n, hS u D' J', hn, ?_, ?_⟩
  · show SG.length + u ≤ 601024
    have := sg_n.1
    omega
  · show (SG.map fun c => c.2.1).sum + 6 * u ≤ 7293034
    have := sg_n.2
    omega
theorem i_vc : Claimed_1_1 ∧ Claimed_1_2 := vc_of amr
