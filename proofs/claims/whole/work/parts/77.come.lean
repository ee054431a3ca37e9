/-! ===== bits are counted; come ===== -/
theorem nI_or (a b : Nat) : nI a ||| nI b = nI (a ||| b) := Int32.toBitVec_inj.1 (by
  rw [Int32.toBitVec_or]
  show BitVec.ofNat 32 a ||| BitVec.ofNat 32 b = BitVec.ofNat 32 (a ||| b)
  apply BitVec.eq_of_getLsbD_eq
  intro i hi
  simp [hi])
def shI (x k : Int32) : Int32 := (x.toUInt32 >>> (k.toUInt32 &&& Int32.toUInt32 31)).toInt32
def b1I (x : Int32) : Int32 := x - (shI x 1 &&& 1431655765)
def b2I (x : Int32) : Int32 := (x &&& 858993459) + (shI x 2 &&& 858993459)
def b3I (x : Int32) : Int32 := (x + shI x 4) &&& 252645135
def b4I (x : Int32) : Int32 := x + shI x 8
def b5I (x : Int32) : Int32 := (x + shI x 16) &&& 63
def bcI (x : Int32) : Int32 := b5I (b4I (b3I (b2I (b1I x))))
theorem s_bc {X : XS} {d u : Nat} {D : DD} {J : JJ} (x : Int32) : EvM X d 331 [.int x] (hS u D J) = some (.inl (some (.int (bcI x))), hS u D J) := e331_0 x
def pcB (m v : Nat) : Nat := cntN (fun k => v.testBit k) m
theorem bc_12a : ∀ a, a < 64 → ∀ b, b < 64 → bcI (nI (64 * a + b)) = nI (pcB 12 (64 * a + b)) := by decide +kernel
theorem bc_12 {v : Nat} (h : v < 4096) : bcI (nI v) = nI (pcB 12 v) := by
  have := bc_12a (v / 64) (by omega) (v % 64) (by omega)
  rw [show 64 * (v / 64) + v % 64 = v by omega] at this
  exact this
theorem bit_p : ∀ o, o < 31 → bitN o = nI (2 ^ o) := by decide +kernel
theorem tb_add {v o k : Nat} : (v ||| 2 ^ o).testBit k = (v.testBit k || decide (o = k)) := by
  rw [Nat.testBit_or, Nat.testBit_two_pow]
theorem pc_add {m v o : Nat} (ho : o < m) (h : v.testBit o = false) : pcB m (v ||| 2 ^ o) = pcB m v + 1 := by
  have a := cnt_ch (P := fun k => v.testBit k) (Q := fun k => (v ||| 2 ^ o).testBit k) (p := o) (fun q hq => by
    rw [tb_add, decide_eq_false (fun z => hq z.symm), Bool.or_false]) ho
  have e : (v ||| 2 ^ o).testBit o = true := by rw [tb_add]; simp
  simp only [h, e] at a
  unfold pcB
  simpa using a
theorem orB_n {m : Nat} (hm : m ≤ 31) : ∀ (l : List Nat) (v : Nat), v < 2 ^ m → (∀ o ∈ l, o < m ∧ v.testBit o = false) → l.Nodup → ∃ v', v' < 2 ^ m ∧ orB l (nI v) = nI v' ∧ pcB m v' = pcB m v + l.length
  | [], v, hv, _, _ => ⟨v, hv, rfl, rfl⟩
  | o :: l, v, hv, h, hd => by
    obtain ⟨h1, h2⟩ := h o List.mem_cons_self
    have hd' := List.nodup_cons.mp hd
    obtain ⟨v', g1, g2, g3⟩ := orB_n hm l (v ||| 2 ^ o) (Nat.or_lt_two_pow hv (Nat.pow_lt_pow_right (by decide) h1)) (fun o' ho' => by
      obtain ⟨k1, k2⟩ := h o' (List.mem_cons_of_mem _ ho')
      refine ⟨k1, ?_⟩
      rw [tb_add, k2, decide_eq_false (fun z => hd'.1 (by rw [z]; exact ho'))]; rfl) hd'.2
    refine ⟨v', g1, ?_, ?_⟩
    · rw [← g2, ← nI_or, ← bit_p o (by omega)]; rfl
    · rw [g3, pc_add h1 h2, List.length_cons]; omega
theorem bc_l {l : List Nat} (h : ∀ o ∈ l, o < 12) (hd : l.Nodup) : bcI (orB l 0) = nI l.length := by
  obtain ⟨v, h1, h2, h3⟩ := orB_n (m := 12) (by decide) l 0 (by decide) (fun o ho => ⟨h o ho, Nat.zero_testBit o⟩) hd
  have h2 : orB l 0 = nI v := h2
  rw [h2, bc_12 h1, h3]
  have : pcB 12 0 = 0 := by decide
  rw [this, Nat.zero_add]
section COME
variable {X : XS} {d u : Nat} {D : DD} {J : JJ} {σ : Sg} {ρ : Ru} {c : Cc}
theorem RowM.r {b q : Nat} {r : Nat → Int32} (h : RowM b ρ c r) (hn : ρ.1 ≤ 12) : RowS b ρ c q r := by
  refine ⟨h.1, fun p hp => ?_⟩
  obtain ⟨t1, t2, t3, t4, t5, t6, t7⟩ := h.2 p hp
  exact ⟨t1, t2, fun _ => t3 (by omega), t4, t5, t6, t7⟩
theorem Good.sit {p : Nat} (hR : Ru0 ρ) (h : Good ρ c) (hp : p < ρ.1) (h1 : c p = -1) : Good ρ (sitN ρ 12 c p 0).1 := by
  obtain ⟨r1, -, -, r4, r5, r6, r7, -⟩ := sit_ok0 hR h.1 hp h1
  refine h.of r1 r4 (fun q q1 q2 => ?_) hR.1
  obtain ⟨m1, m2⟩ := r6 q q2
  rw [lc_zero (fun e he => by have := (r7 e he).1; omega), nI_0, Int32.add_zero] at m1 m2
  exact ⟨r5 q q1 q2, m1, m2⟩
theorem p_come {x : Int32} (hσ : SgOk σ) : PairI σ (fun u J D => EvM X (d + 50) 113 [.ref 0, .int x] (hS u D J)) (fun u J D => EvM X (d + 50) 240 [.ref 70, .int x] (hS u D J)) nI xA := by
  have hn := hσ.2.1.1.1
  have hO := hσ.2.2.1.1
  by_cases hx : isPe σ.2.1.1 x
  · obtain ⟨p, p1, rfl⟩ := id hx
    by_cases hc : σ.2.2.1 p = -1
    · obtain ⟨-, -, -, -, -, -, r7, r8⟩ := sit_ok0 hσ.2.1.1 hO p1 hc
      have hl : bcI (orB ((sitN σ.2.1 12 σ.2.2.1 p 0).2.1.map fun e => e.1) 0) = nI (sitN σ.2.1 12 σ.2.2.1 p 0).2.1.length := by
        rw [bc_l (fun o ho => ?_) r8, List.length_map]
        obtain ⟨e, he, rfl⟩ := List.mem_map.mp ho
        have := (r7 e he).1
        omega
      refine ⟨.inl (nI (sitN σ.2.1 12 σ.2.2.1 p 0).2.1.length), actS σ (sitN σ.2.1 12 σ.2.2.1 p 0).1, hσ.act (hσ.2.2.1.sit hσ.2.1.1 p1 hc), fun u J D hC => ?_, fun u J D hM => ?_, by first | exact trivial | exact rfl | exact Or.inl rfl | exact Or.inr rfl⟩
      · refine wp_eq (e113_0 _) ?_
        rcases c_pers (X := X) (d := d + 49) (u := u) (J := J) (x := nI p) (show σ.2.1.1 < 2 ^ 31 by omega) hC.2.1.1 with ⟨_, g2⟩ | ⟨g1, _⟩
        · refine wp_vE g2 ?_
          refine wp_eq (e113_3 _) ?_
          rw [la, nI_clamp (by omega), Nat.zero_add, hC.2.2.1.1]
          refine oG (by omega) (by decide) (wp_t hc ?_)
          refine wp_cV (c_begin (d := d + 48) hC hσ.2.2.2.1.1) (fun D1 g => ?_)
          obtain ⟨g1, g2, g3, g4⟩ := g
          refine wp_eq (e113_18 _) ?_
          have hC1 : RulesC σ.2.1 D1 := hC.2.1.mv (g4 3 (by decide) (by decide) (by decide) (by decide)) (fun q _ _ => g4 q (by omega) (by omega) (by omega) (by omega)) (fun i _ _ => by rw [g4 5 (by decide) (by decide) (by decide) (by decide)])
          have hW1 : PewsC 25 σ.2.1 σ.2.2.1 D1 := hC.2.2.1.mv (g4 26 (by decide) (by decide) (by decide) (by decide)) (g4 27 (by decide) (by decide) (by decide) (by decide)) (g4 28 (by decide) (by decide) (by decide) (by decide))
          refine wp_cI (s_sit (d := d + 47) (Or.inl rfl) hσ.2.1 hC1 hW1 hO p1 hc) (fun y D2 h2 => ?_)
          obtain ⟨-, k2, k3, -, -, -, -, -, k9⟩ := h2
          refine wp_eq (e113_22 _ _) ?_
          refine wp_iE (s_bc _) ?_
          rw [k3, ud_at, hl]
          have hq : ∀ q, q < 25 ∨ 30 < q → q ≠ 5 → D2 q = D1 q := fun q h1 h2 => (k9.1 q (by omega) h2).trans (ud_q (by omega))
          refine wp_eq (e113_27 _ _) (wp_cr (hC.act k2 (g1.mv (hq 46 (by omega) (by omega)) (hq 47 (by omega) (by omega))) (by rw [hq 37 (by omega) (by omega)]; exact g2) (by rw [hq 52 (by omega) (by omega)]; exact g3) (fun i h1 h2 => by rw [k9.2 i h1 h2, ud_q (by decide), g4 5 (by decide) (by decide) (by decide) (by decide)]) (fun q q1 q2 q3 q4 q5 q6 q7 => by rw [hq q q3 q2]; exact g4 q q4 q5 q6 q7)) (fun q h => by rw [hq q (by omega) (by omega)]; exact g4 q (by omega) (by omega) (by omega) (by omega)))
        · exact absurd hx g1
      · have hM0 := hM.th (v := 0) hn
        have hr := hM0.2.2.1
        refine wp_eq (e240_0 _) ?_
        refine wp_iE ((m_pers (X := X) (d := d + 48) (u := u) (J := J) (x := nI p) (D := ud D 70 0 0) (show σ.2.1.1 < 2 ^ 31 by omega) hM0.2.1.1 (ud_at D 70 0 0)).1 hx) ?_
        refine wp_eq (e240_6 _ _) (wp_t (by decide) ?_)
        obtain ⟨-, tp2, -⟩ := hr.s hn p1
        rw [Nat.zero_add] at tp2
        rw [la, nI_clamp (by omega), tp2, hc, pewO_1.1]
        refine oG (by omega) (by decide) (wp_t rfl ?_)
        refine wp_cV (m_keeps hn hM0.2.2.2.1.1 hσ.2.2.2.1.1 hM0.2.2.2.1.2 hr) (fun D1 g => ?_)
        obtain ⟨g1, g2, g3, g4⟩ := g
        refine wp_eq (e240_23 _) ?_
        have hC1 : RulesM σ.2.1 D1 := hM0.2.1.mv (fun k _ _ => g3 k (by omega)) (g4 71 (by decide) (by decide))
        have hr1 : RowM 0 σ.2.1 σ.2.2.1 (D1 78) := by rw [g4 78 (by decide) (by decide)]; exact hr
        refine wp_cV (s_sits (d := d + 45) (b := 0) (Or.inl rfl) hσ.2.1 hC1 (hr1.r hn) hO p1 hc) (fun D2 h2 => ?_)
        obtain ⟨i1, i2, -, -, -, -, -, -, i9⟩ := h2
        refine wp_eq (e240_27 _) ?_
        have e7 : ∀ k, k ≠ 40 → k ≠ 41 → k ≠ 42 → k ≠ 46 → D2 70 k = D1 70 k := fun k k1 k2 k3 k4 => by rw [i9.2.2 k k1 k2 k3 k4, ud_k k2, ud_k k1]
        have hq : ∀ q, q ≠ 70 → q ≠ 78 → q < 80 ∨ 84 < q → D2 q = D1 q := fun q q1 q2 q3 => by rw [i9.1 q q1 q2 q3, ud_q q1, ud_q q1]
        rw [i2, ud_k (by decide), ud_at, Int32.zero_add]
        refine wp_mr (hM0.act i1 (by rw [e7 36 (by decide) (by decide) (by decide) (by decide)]; exact g1) (by rw [hq 79 (by decide) (by decide) (by omega)]; exact g2) (fun k k1 k2 k3 k4 k5 k6 => by rw [e7 k k3 k4 k5 k6]; exact g3 k k2) (fun q h => by rw [hq q (by omega) (by omega) (by omega)]; exact g4 q (by omega) (by omega))) ?_ (fun q h => by rw [hq q (by omega) (by omega) (by omega), g4 q (by omega) (by omega), ud_q (by omega)])
        rw [e7 0 (by decide) (by decide) (by decide) (by decide), g3 0 (by decide), ud_at]; rfl
    · refine ⟨.inl (-1), rfS σ 1, hσ, fun u J D hC => ?_, fun u J D hM => ?_, by first | exact trivial | exact rfl | exact Or.inl rfl | exact Or.inr rfl⟩
      · refine wp_eq (e113_0 _) ?_
        rcases c_pers (X := X) (d := d + 49) (u := u) (J := J) (x := nI p) (show σ.2.1.1 < 2 ^ 31 by omega) hC.2.1.1 with ⟨_, g2⟩ | ⟨g1, _⟩
        · refine wp_vE g2 ?_
          refine wp_eq (e113_3 _) ?_
          rw [la, nI_clamp (by omega), Nat.zero_add, hC.2.2.1.1]
          refine oG (by omega) (by decide) (wp_f hc ?_)
          refine wp_iE (c_refuse (k := 1) (by decide)) ?_
          exact wp_eq (e113_15 _ _) (wp_cr (hC.rf (by decide)) (fun q hq => ud_q (by omega)))
        · exact absurd hx g1
      · have hM0 := hM.th (v := 0) hn
        have hr := hM0.2.2.1
        refine wp_eq (e240_0 _) ?_
        refine wp_iE ((m_pers (X := X) (d := d + 48) (u := u) (J := J) (x := nI p) (D := ud D 70 0 0) (show σ.2.1.1 < 2 ^ 31 by omega) hM0.2.1.1 (ud_at D 70 0 0)).1 hx) ?_
        refine wp_eq (e240_6 _ _) (wp_t (by decide) ?_)
        obtain ⟨-, tp2, -⟩ := hr.s hn p1
        rw [Nat.zero_add] at tp2
        obtain ⟨s, s1, s2⟩ := (hO.v p p1).resolve_left hc
        rw [la, nI_clamp (by omega), tp2, s2, (pewO_s s1).1]
        refine oG (by omega) (by decide) (wp_f (nI_ne1 (by omega)) ?_)
        refine wp_iE (m_refuses (k := 1) (by decide)) ?_
        exact wp_eq (e240_20 _ _) (wp_mr (hM0.rf (by decide) hn) (by rw [ud_q (by decide), ud_at]; rfl) (fun q hq => by rw [ud_q (by omega), ud_q (by omega)]))
  · refine ⟨.inr 1, σ, hσ, fun u J D hC => ?_, fun u J D hM => ?_, by first | exact trivial | exact rfl | exact Or.inl rfl | exact Or.inr rfl⟩
    · refine wp_eq (e113_0 _) ?_
      rcases c_pers (X := X) (d := d + 49) (u := u) (J := J) (x := x) (show σ.2.1.1 < 2 ^ 31 by omega) hC.2.1.1 with ⟨h1, _⟩ | ⟨_, g2⟩
      · exact absurd h1 hx
      · exact wp_vT g2 (wp_ct hC (fun _ _ => rfl))
    · have hM0 := hM.th (v := 0) hn
      refine wp_eq (e240_0 _) ?_
      refine wp_iE ((m_pers (X := X) (d := d + 48) (u := u) (J := J) (x := x) (D := ud D 70 0 0) (show σ.2.1.1 < 2 ^ 31 by omega) hM0.2.1.1 (ud_at D 70 0 0)).2 hx) ?_
      refine wp_eq (e240_6 _ _) (wp_f (by decide) ?_)
      exact wp_mr (hM0.th hn) (ud_at _ 70 0 1) (fun q hq => by rw [ud_q (by omega), ud_q (by omega)])
end COME
