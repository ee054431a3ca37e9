/-! ===== leave: the pair ===== -/
section LEAVEP
variable {X : XS} {d u : Nat} {D D1 : DD} {J : JJ} {σ : Sg} {ρ : Ru} {c : Cc} {K P : Nat}
theorem row_ch {r r' : Nat → Int32} {q : Nat} {s : Int32} (hn : ρ.1 ≤ 12) (h : RowM 0 ρ c r) (hq : q < ρ.1) (h1 : r' (13 + q) = pewO s) (h2 : r' (25 + q) = seatO s) (h3 : ∀ i, i ≠ 13 + q → i ≠ 25 + q → r' i = r i) : RowM 0 ρ (upd c q s) r' := by
  refine ⟨by rw [h3 0 (by omega) (by omega), upd_ne (by omega)]; exact h.1, fun p hp => ?_⟩
  obtain ⟨t1, t2, t3, t4, t5, t6, t7⟩ := h.s hn hp
  refine ⟨by rw [h3 _ (by omega) (by omega), upd_ne (by omega)]; exact t1, ?_, fun _ => ?_, by rw [h3 _ (by omega) (by omega), upd_ne (by omega)]; exact t4, by rw [h3 _ (by omega) (by omega), upd_ne (by omega)]; exact t5, by rw [h3 _ (by omega) (by omega), upd_ne (by omega)]; exact t6, by rw [h3 _ (by omega) (by omega), upd_ne (by omega)]; exact t7⟩
  · by_cases hpq : p = q
    · rw [hpq, upd_at, Nat.zero_add]; exact h1
    · rw [h3 _ (by omega) (by omega), upd_ne hpq]; exact t2
  · by_cases hpq : p = q
    · rw [hpq, upd_at, Nat.zero_add]; exact h2
    · rw [h3 _ (by omega) (by omega), upd_ne hpq]; exact t3
theorem le_0 {z : Bool} {p s0 : Nat} : leK z c p s0 0 = upd c p (-1) := by
  funext q
  unfold leK upd
  by_cases h : q = p
  · rw [if_pos h, if_pos h]
  · rw [if_neg h, if_neg h, if_neg (fun y => by omega)]
theorem le_same {z : Bool} {p s0 k : Nat} (h : k = p ∨ c k = -1) : leK z c p s0 (k + 1) = leK z c p s0 k := by
  funext q
  unfold leK
  by_cases hq : q = p
  · rw [if_pos hq, if_pos hq]
  · rw [if_neg hq, if_neg hq]
    by_cases hk : q = k
    · subst hk
      rcases h with h | h
      · exact absurd h hq
      · rw [if_neg (fun y => y.2 h), if_neg (fun y => y.2 h)]
    · by_cases h2 : q < k ∧ ¬ c q = -1
      · rw [if_pos h2, if_pos ⟨by omega, h2.2⟩]
      · rw [if_neg h2, if_neg (fun y => h2 ⟨by omega, y.2⟩)]
theorem le_next {z : Bool} {p s0 k s : Nat} (hkp : k ≠ p) (hs : s < 144) (h : c k = nI s) : leK z c p s0 (k + 1) = upd (leK z c p s0 k) k (nI (shN z s0 s)) := by
  funext q
  by_cases hq : q = k
  · rw [hq, upd_at]; exact le_k (by omega) hkp hs h
  · rw [upd_ne hq]
    unfold leK
    by_cases hqp : q = p
    · rw [if_pos hqp, if_pos hqp]
    · rw [if_neg hqp, if_neg hqp]
      by_cases h2 : q < k ∧ ¬ c q = -1
      · rw [if_pos h2, if_pos ⟨by omega, h2.2⟩]
      · rw [if_neg h2, if_neg (fun y => h2 ⟨by omega, y.2⟩)]
/-- the reference: all come up -/
theorem m_le {p s0 : Nat} {x1 : Int32} (hn : ρ.1 ≤ 12) (hG : Good ρ c) (hp : p < ρ.1) (hc : c p = nI s0) (h0 : s0 < 144) (h1 : D 70 1 = nI ρ.1) (hr : RowM 0 ρ (upd c p (-1)) (D 78)) : Wp (Ev X (d + 1) 241 (46, [.ref 70, .int x1, .int (nI (s0 / 12)), .int (nI (s0 % 12)), .null, .null], [], hS u D J)) (RI u J (fun y D' => y = nI (s0 / 12) ∧ RowM 0 ρ (leN ρ c p s0) (D' 78) ∧ ∀ q, q ≠ 78 → D' q = D q)) := by
  have hO := hG.1
  have hw0 : s0 / 12 < 12 := by omega
  refine wp_eq (e241_46 _ _ _) ?_
  refine wp_iE (s_inPew (b := 0) (Or.inl rfl) hn h1 (hr.to hn 12) hw0) ?_
  refine wp_eq (e241_50 _ _ _ _) ?_
  have hcnt := cnt_ch (P := inW c (s0 / 12)) (Q := inW (upd c p (-1)) (s0 / 12)) (p := p) (fun q hqp => by unfold inW; rw [upd_ne hqp]) hp
  rw [inW_no (show upd c p (-1) p = -1 from upd_at _ _ _), inW_s h0 (by omega) hc, decide_eq_true rfl] at hcnt
  simp only [if_true, Bool.false_eq_true, if_false] at hcnt
  have hz0 : orP (inW (upd c p (-1)) (s0 / 12)) ρ.1 = 0 ↔ zN ρ c s0 = true := by
    rw [orP_0 hn]
    unfold zN sizeN
    rw [decide_eq_true_eq]
    omega
  have main : ∀ x4 : Int32, x4 = (if zN ρ c s0 = true then 1 else 0) → Wp (Ev X (d + 1) 241 (55, [.ref 70, .int x1, .int (nI (s0 / 12)), .int (nI (s0 % 12)), .int x4, .null], [], hS u D J)) (RI u J (fun y D' => y = nI (s0 / 12) ∧ RowM 0 ρ (leN ρ c p s0) (D' 78) ∧ ∀ q, q ≠ 78 → D' q = D q)) := by
    intro x4 hx4
    refine wp_eq (e241_55 _ _ _ _) ?_
    refine wp_loop (R := fun k (D2 : DD) => Ev X (d + 1) 241 (57, [.ref 70, .int x1, .int (nI (s0 / 12)), .int (nI (s0 % 12)), .int x4, .int (nI k)], [], hS u D2 J)) (fun k (D2 : DD) => RowM 0 ρ (leK (zN ρ c s0) c p s0 k) (D2 78) ∧ ∀ q, q ≠ 78 → D2 q = D q) ρ.1 ?_ ?_ 0 D (Nat.zero_le _) ⟨by rw [le_0]; exact hr, fun _ _ => rfl⟩
    · intro k D2 hk ⟨i1, i2⟩ ih
      obtain ⟨-, t2, t3, -⟩ := i1.s hn hk
      rw [Nat.zero_add] at t2 t3
      refine wp_eq (e241_57 _ _ _ _ _) ?_
      rw [i2 70 (by decide), h1]
      refine wp_f (nI_ge hk (by omega)) ?_
      rw [la, la, nI_clamp (show 13 + k < 2 ^ 31 by omega), nI_clamp (show 25 + k < 2 ^ 31 by omega)]
      refine oG (by omega) (by decide) ?_
      by_cases hst : k = p ∨ c k = -1
      · have e : leK (zN ρ c s0) c p s0 k k = -1 := by
          rcases hst with h | h
          · rw [h]; exact le_p
          · exact le_n h
        rw [e] at t2
        rw [pewO_1.1] at t2
        have hne : ¬ D2 78 (13 + k) = nI (s0 / 12) := fun z => nI_ne1 (by omega) (z.symm.trans t2)
        refine wp_t hne ?_
        have last : Wp (Ev X (d + 1) 241 (107, [.ref 70, .int x1, .int (nI (s0 / 12)), .int (nI (s0 % 12)), .int x4, .int (nI k)], [], hS u D2 J)) (RI u J (fun y D' => y = nI (s0 / 12) ∧ RowM 0 ρ (leN ρ c p s0) (D' 78) ∧ ∀ q, q ≠ 78 → D' q = D q)) := by
          refine wp_eq (e241_107 _ _ _ _ _) ?_
          rw [nI_1]
          exact ih D2 ⟨by rw [le_same hst]; exact i1, i2⟩
        refine wp_eq (e241_87 _ _ _ _ _) ?_
        rw [la, nI_clamp (show 13 + k < 2 ^ 31 by omega)]
        refine wp_if (fun _ => last) (fun _ => oG (by omega) (by decide) (wp_t ?_ last))
        rw [t2]
        exact Int32.le_trans (by decide) (nI_pos' (show s0 / 12 < 2 ^ 31 by omega))
      · have hkp : k ≠ p := fun z => hst (Or.inl z)
        have hm : ¬ c k = -1 := fun z => hst (Or.inr z)
        obtain ⟨s, s1, s2, s3, s4⟩ := le_seat hO hp hc h0 hk hkp hm
        have e : leK (zN ρ c s0) c p s0 k k = nI s := by
          unfold leK
          rw [if_neg hkp, if_neg (fun y => by omega), s2]
        rw [e] at t2 t3
        rw [(pewO_s s1).1] at t2
        rw [(pewO_s s1).2] at t3
        have hsh : shN (zN ρ c s0) s0 s < 144 := by
          unfold shN
          split <;> split <;> omega
        have last : ∀ D3 : DD, D3 78 (13 + k) = nI (shN (zN ρ c s0) s0 s / 12) → D3 78 (25 + k) = nI (shN (zN ρ c s0) s0 s % 12) → (∀ i, i ≠ 13 + k → i ≠ 25 + k → D3 78 i = D2 78 i) → (∀ q, q ≠ 78 → D3 q = D2 q) → Wp (Ev X (d + 1) 241 (107, [.ref 70, .int x1, .int (nI (s0 / 12)), .int (nI (s0 % 12)), .int x4, .int (nI k)], [], hS u D3 J)) (RI u J (fun y D' => y = nI (s0 / 12) ∧ RowM 0 ρ (leN ρ c p s0) (D' 78) ∧ ∀ q, q ≠ 78 → D' q = D q)) := by
          intro D3 a1 a2 a3 a4
          refine wp_eq (e241_107 _ _ _ _ _) ?_
          rw [nI_1]
          refine ih D3 ⟨?_, fun q hq => by rw [a4 q hq]; exact i2 q hq⟩
          rw [le_next hkp s1 s2]
          exact row_ch hn i1 hk (by rw [a1, (pewO_s hsh).1]) (by rw [a2, (pewO_s hsh).2]) a3
        -- the pew
        have pew : ∀ D3 : DD, D3 78 (13 + k) = nI (s / 12) → D3 78 (25 + k) = nI (shN (zN ρ c s0) s0 s % 12) → (∀ i, i ≠ 13 + k → i ≠ 25 + k → D3 78 i = D2 78 i) → (∀ q, q ≠ 78 → D3 q = D2 q) → Wp (Ev X (d + 1) 241 (87, [.ref 70, .int x1, .int (nI (s0 / 12)), .int (nI (s0 % 12)), .int x4, .int (nI k)], [], hS u D3 J)) (RI u J (fun y D' => y = nI (s0 / 12) ∧ RowM 0 ρ (leN ρ c p s0) (D' 78) ∧ ∀ q, q ≠ 78 → D' q = D q)) := by
          intro D3 a1 a2 a3 a4
          refine wp_eq (e241_87 _ _ _ _ _) ?_
          rw [la, nI_clamp (show 13 + k < 2 ^ 31 by omega), a1, hx4]
          by_cases hz : zN ρ c s0 = true
          · have ha := le_alone hO hp hc h0 (of_decide_eq_true hz) s3 s4
            rw [if_pos hz]
            refine wp_f (by decide) (oG (by omega) (by decide) ?_)
            by_cases hl : s0 / 12 < s / 12
            · refine wp_f (nI_ge hl (by omega)) (oG (by omega) (by decide) (oG (by omega) (by decide) ?_))
              have e1 : nI (s / 12) - 1 = nI (s / 12 - 1) := nI_sub (b := 1) (by omega)
              rw [e1]
              rw [hx4, if_pos hz] at last
              refine last _ ?_ (by rw [ud_k (by omega)]; exact a2) (fun i j1 j2 => by rw [ud_k j1]; exact a3 i j1 j2) (fun q hq => by rw [ud_q hq]; exact a4 q hq)
              rw [ud_at]
              unfold shN
              rw [if_pos hz, if_pos hl]; congr 1; omega
            · rw [hx4, if_pos hz] at last
              refine wp_t (nI_le (by omega) (by omega)) (last D3 ?_ a2 a3 a4)
              rw [a1]
              unfold shN
              rw [if_pos hz, if_neg hl]
          · rw [if_neg hz]
            rw [hx4, if_neg hz] at last
            refine wp_t rfl (last D3 ?_ a2 a3 a4)
            rw [a1]
            unfold shN
            rw [if_neg hz]
            split
            · congr 1; omega
            · rfl
        rw [t2, t3]
        by_cases hw : s / 12 = s0 / 12
        · have hz : ¬ zN ρ c s0 = true := fun z => le_alone hO hp hc h0 (of_decide_eq_true z) s3 s4 hw
          rw [hw]
          refine wp_f (fun z => z rfl) (oG (by omega) (by decide) ?_)
          by_cases hl : s0 < s
          · refine wp_f (nI_ge (by omega) (by omega)) (oG (by omega) (by decide) (oG (by omega) (by decide) ?_))
            have e1 : nI (s % 12) - 1 = nI (s % 12 - 1) := nI_sub (b := 1) (by omega)
            rw [e1]
            refine pew _ (by rw [ud_k (by omega)]; exact t2) ?_ (fun i j1 j2 => by rw [ud_k j2]) (fun q hq => by rw [ud_q hq])
            rw [ud_at]
            unfold shN
            rw [if_neg hz, if_pos ⟨hw, hl⟩]; congr 1; omega
          · refine wp_t (nI_le (by omega) (by omega)) (pew D2 t2 ?_ (fun _ _ _ => rfl) (fun _ _ => rfl))
            rw [t3]
            unfold shN
            rw [if_neg hz, if_neg (fun y => hl y.2)]
        · refine wp_t (fun z => hw (nI_inj (by omega) (by omega) z)) (pew D2 t2 ?_ (fun _ _ _ => rfl) (fun _ _ => rfl))
          rw [t3]
          unfold shN
          split
          · split
            · congr 1; omega
            · rfl
          · rw [if_neg (fun y => hw y.1)]
    · intro D2 ⟨i1, i2⟩
      refine wp_eq (e241_57 _ _ _ _ _) ?_
      rw [i2 70 (by decide), h1]
      refine wp_t (nI_le (Nat.le_refl _) (by omega)) ?_
      refine wp_eq (e241_109 _ _ _ _ _) (wp_rI ⟨rfl, ?_, i2⟩)
      have hpt : ∀ q, q < ρ.1 → leN ρ c p s0 q = leK (zN ρ c s0) c p s0 ρ.1 q := by
        intro q hq
        unfold leN leK
        by_cases h : q = p
        · rw [if_pos h, if_pos h]
        · rw [if_neg h, if_neg h]
          by_cases hm : c q = -1
          · rw [if_neg (fun y => y.2 hm), if_neg (fun y => y.2 hm)]
          · rw [if_pos ⟨by omega, hm⟩, if_pos ⟨hq, hm⟩]
      have hhi : ∀ i, 12 ≤ i → leN ρ c p s0 i = leK (zN ρ c s0) c p s0 ρ.1 i := by
        intro i hi
        unfold leN leK
        rw [if_neg (by omega), if_neg (by omega), if_neg (fun y => by omega), if_neg (fun y => by omega)]
      refine ⟨by rw [hhi 72 (by omega)]; exact i1.1, fun q hq => ?_⟩
      obtain ⟨a1, a2, a3, a4, a5, a6, a7⟩ := i1.2 q hq
      exact ⟨by rw [hhi _ (by omega)]; exact a1, by rw [hpt q hq]; exact a2, fun y => by rw [hpt q hq]; exact a3 y, by rw [hhi _ (by omega)]; exact a4, by rw [hhi _ (by omega)]; exact a5, by rw [hhi _ (by omega)]; exact a6, by rw [hhi _ (by omega)]; exact a7⟩
  refine wp_if (fun h => ?_) (fun h => ?_)
  · refine wp_eq (e241_53 _ _ _) (main 0 ?_)
    rw [if_neg (fun z => h (hz0.mpr z))]
  · exact main 1 (by rw [if_pos (hz0.mp (Classical.not_not.mp h))])
theorem p_leave {x : Int32} (hσ : SgOk σ) : PairI σ (fun u J D => EvM X (d + 50) 114 [.ref 0, .int x] (hS u D J)) (fun u J D => EvM X (d + 50) 241 [.ref 70, .int x] (hS u D J)) nI xA := by
  have hn := hσ.2.1.1.1
  have hG := hσ.2.2.1
  have hO := hG.1
  have h31 : σ.2.1.1 < 2 ^ 31 := by omega
  by_cases ix : isPe σ.2.1.1 x
  · obtain ⟨p, p1, rfl⟩ := id ix
    by_cases hm : σ.2.2.1 p = -1
    · refine ⟨.inl (-1), rfS σ 1, hσ, fun u J D hC => ?_, fun u J D hM => ?_, by first | exact trivial | exact rfl | exact Or.inl rfl | exact Or.inr rfl⟩
      · refine wp_eq (e114_0 _) ?_
        rcases c_pers (X := X) (d := d + 49) (u := u) (J := J) (x := nI p) h31 hC.2.1.1 with ⟨_, g2⟩ | ⟨g1, _⟩
        · refine wp_vE g2 ?_
          refine wp_eq (e114_3 _) ?_
          rw [la, nI_clamp (by omega), Nat.zero_add, hC.2.2.1.1, hm]
          refine oG (by omega) (by decide) (wp_f (fun z => z rfl) ?_)
          refine wp_iE (c_refuse (k := 1) (by decide)) ?_
          exact wp_eq (e114_17 _ _ _) (wp_cr (hC.rf (by decide)) (fun q hq => ud_q (by omega)))
        · exact absurd ix g1
      · have hM0 := hM.th (v := 0) hn
        obtain ⟨-, t2, -⟩ := hM0.2.2.1.s hn p1
        rw [Nat.zero_add, hm, pewO_1.1] at t2
        refine wp_eq (e241_0 _) ?_
        refine wp_eq (e241_3 _) ?_
        refine wp_iE ((m_pers (X := X) (d := d + 48) (u := u) (J := J) (x := nI p) h31 hM0.2.1.1 (ud_at D 70 0 0)).1 ix) ?_
        refine wp_eq (e241_6 _ _) (wp_t (by decide) ?_)
        refine wp_eq (e241_9 _) ?_
        rw [la, nI_clamp (by omega), t2]
        refine oG (by omega) (by decide) (wp_f (fun z => z rfl) ?_)
        refine wp_iE (m_refuses (k := 1) (by decide)) ?_
        exact wp_eq (e241_22 _ _ _) (wp_mr (hM0.rf (by decide) hn) (by rw [ud_q (by decide), ud_at]; rfl) (fun q hq => by rw [ud_q (by omega), ud_q (by omega)]))
    · obtain ⟨s0, h0, hc⟩ := (hO.v p p1).resolve_left hm
      refine ⟨.inl (nI (s0 / 12)), actS σ (leN σ.2.1 σ.2.2.1 p s0), hσ.act (le_good hn hG p1 hc h0), fun u J D hC => ?_, fun u J D hM => ?_, by first | exact trivial | exact rfl | exact Or.inl rfl | exact Or.inr rfl⟩
      · refine wp_eq (e114_0 _) ?_
        rcases c_pers (X := X) (d := d + 49) (u := u) (J := J) (x := nI p) h31 hC.2.1.1 with ⟨_, g2⟩ | ⟨g1, _⟩
        · refine wp_vE g2 ?_
          refine wp_eq (e114_3 _) ?_
          rw [la, nI_clamp (by omega), Nat.zero_add, hC.2.2.1.1]
          refine oG (by omega) (by decide) (wp_t hm ?_)
          rw [hc]
          refine wp_cV (c_begin (d := d + 48) hC hσ.2.2.2.1.1) (fun D1 g => ?_)
          obtain ⟨g1, g2, g3, g4⟩ := g
          refine wp_eq (e114_20 _ _) ?_
          refine wp_cV (s_getUp (d := d + 47) (P := 25) (Or.inl rfl) hn hG p1 hc h0 (hC.2.2.1.mv (g4 26 (by decide) (by decide) (by decide) (by decide)) (g4 27 (by decide) (by decide) (by decide) (by decide)) (g4 28 (by decide) (by decide) (by decide) (by decide)))) (fun D2 h2 => ?_)
          obtain ⟨k1, k2⟩ := h2
          refine wp_eq (e114_24 _ _) ?_
          refine wp_iE c_pewOf ?_
          rw [(pewO_s h0).1]
          have hq1 : ∀ a, a < 26 ∨ 28 < a → D2 a = D1 a := fun a ha => k2 a (by omega) (by omega) (by omega)
          have hq : ∀ a, a < 26 ∨ 28 < a → a ≠ 37 → a ≠ 46 → a ≠ 47 → a ≠ 52 → D2 a = D a := fun a ha a3 a4 a5 a6 => by rw [hq1 a ha]; exact g4 a a3 a4 a5 a6
          exact wp_eq (e114_26 _ _ _) (wp_cr (hC.act k1 (g1.mv (hq1 46 (by omega)) (hq1 47 (by omega))) (by rw [hq1 37 (by omega)]; exact g2) (by rw [hq1 52 (by omega)]; exact g3) (fun i _ _ => by rw [hq 5 (by omega) (by omega) (by omega) (by omega) (by omega)]) (fun a a1 a2 a3 a4 a5 a6 a7 => hq a (by omega) a4 a5 a6 a7)) (fun a h => hq a (by omega) (by omega) (by omega) (by omega) (by omega)))
        · exact absurd ix g1
      · have hM0 := hM.th (v := 0) hn
        have hr := hM0.2.2.1
        obtain ⟨-, t2, t3, -⟩ := hr.s hn p1
        rw [Nat.zero_add, hc] at t2 t3
        rw [(pewO_s h0).1] at t2
        rw [(pewO_s h0).2] at t3
        refine wp_eq (e241_0 _) ?_
        refine wp_eq (e241_3 _) ?_
        refine wp_iE ((m_pers (X := X) (d := d + 48) (u := u) (J := J) (x := nI p) h31 hM0.2.1.1 (ud_at D 70 0 0)).1 ix) ?_
        refine wp_eq (e241_6 _ _) (wp_t (by decide) ?_)
        refine wp_eq (e241_9 _) ?_
        rw [la, nI_clamp (by omega), t2]
        refine oG (by omega) (by decide) (wp_t (nI_ne1 (by omega)) ?_)
        refine wp_eq (e241_23 _ _) ?_
        refine wp_cV (m_keeps hn hM0.2.2.2.1.1 hσ.2.2.2.1.1 hM0.2.2.2.1.2 hr) (fun D1 g => ?_)
        obtain ⟨g1, g2, g3, g4⟩ := g
        have e78 : D1 78 = ud D 70 0 0 78 := g4 78 (by decide) (by decide)
        refine wp_eq (e241_25 _ _) ?_
        rw [la, la, nI_clamp (show 25 + p < 2 ^ 31 by omega), nI_clamp (show 13 + p < 2 ^ 31 by omega), e78, t3]
        refine oG (by omega) (by decide) (oG (by omega) (by decide) ?_)
        refine wp_eq (e241_39 _ _ _) ?_
        rw [la, nI_clamp (show 25 + p < 2 ^ 31 by omega)]
        refine oG (by omega) (by decide) ?_
        have hr2 : RowM 0 σ.2.1 (upd σ.2.2.1 p (-1)) (ud (ud D1 78 (13 + p) (-1)) 78 (25 + p) (-1) 78) := by
          refine row_ch hn hr p1 ?_ ?_ (fun i i1 i2 => ?_)
          · rw [ud_k (by omega), ud_at]; rfl
          · rw [ud_at]; rfl
          · rw [ud_k i2, ud_k i1, e78]
        obtain ⟨y, hy1, x', D', rfl, rfl, hy3, hy4⟩ := m_le (X := X) (d := d + 49) (u := u) (J := J) (x1 := nI p) hn hG p1 hc h0 (show ud (ud D1 78 (13 + p) (-1)) 78 (25 + p) (-1) 70 1 = _ by rw [ud_q (by decide), ud_q (by decide), g3 1 (by decide)]; exact hM0.2.1.1) hr2
        have hq : ∀ a, a ≠ 78 → D' a = D1 a := fun a ha => by rw [hy4 a ha, ud_q ha, ud_q ha]
        refine wp_eq hy1 (wp_mr (hM0.act hy3 (by rw [hq 70 (by decide)]; exact g1) (by rw [hq 79 (by decide)]; exact g2) (fun j j1 j2 _ _ _ _ => by rw [hq 70 (by decide)]; exact g3 j j2) (fun a ha => by rw [hq a (by omega)]; exact g4 a (by omega) (by omega))) (by rw [hq 70 (by decide), g3 0 (by decide), ud_at]; rfl) (fun a ha => by rw [hq a (by omega), g4 a (by omega) (by omega), ud_q (by omega)]))
  · refine ⟨.inr 1, σ, hσ, fun u J D hC => ?_, fun u J D hM => ?_, by first | exact trivial | exact rfl | exact Or.inl rfl | exact Or.inr rfl⟩
    · refine wp_eq (e114_0 _) ?_
      rcases c_pers (X := X) (d := d + 49) (u := u) (J := J) (x := x) h31 hC.2.1.1 with ⟨g, _⟩ | ⟨_, g⟩
      · exact absurd g ix
      · exact wp_vT g (wp_ct hC (fun _ _ => rfl))
    · have hM0 := hM.th (v := 0) hn
      refine wp_eq (e241_0 _) ?_
      refine wp_eq (e241_3 _) ?_
      refine wp_iE ((m_pers (X := X) (d := d + 48) (u := u) (J := J) (x := x) h31 hM0.2.1.1 (ud_at D 70 0 0)).2 ix) ?_
      refine wp_eq (e241_6 _ _) (wp_f (by decide) ?_)
      exact wp_mr (hM0.th hn) (ud_at _ 70 0 1) (fun q hq => by rw [ud_q (by omega), ud_q (by omega)])
end LEAVEP
