/-! ===== swap ===== -/
def swN (c : Cc) (p q : Nat) : Cc := upd (upd c p (c q)) q (c p)
def taN (p q r : Nat) : Nat := if r = q then p else if r = p then q else r
theorem sw_ta (c : Cc) (p q r : Nat) : swN c p q r = c (taN p q r) := by
  show (if r = q then c p else if r = p then c q else c r) = _
  unfold taN
  split
  · rfl
  · split <;> rfl
theorem ta_ta (p q r : Nat) : taN p q (taN p q r) = r := by
  unfold taN
  repeat' split
  all_goals omega
theorem ta_lt {p q r n : Nat} (hp : p < n) (hq : q < n) (hr : r < n) : taN p q r < n := by
  unfold taN
  repeat' split
  all_goals omega
theorem Good.of {ρ : Ru} {c c' : Cc} (h : Good ρ c) (hO : Ok ρ c') (h1 : ∀ i, (12 ≤ i ∧ i < 24) ∨ 48 ≤ i → c' i = c i) (h2 : ∀ p, ρ.1 ≤ p → p < 12 → c' p = c p ∧ c' (24 + p) = c (24 + p) ∧ c' (36 + p) = c (36 + p)) (hn : ρ.1 ≤ 12) : Good ρ c' := by
  obtain ⟨g1, g2, g3, g4, g5⟩ := h
  refine ⟨hO, fun i hi => by rw [h1 i (by omega)]; exact g2 i hi, fun p hp hp2 => ?_, fun p hp => by rw [h1 (12 + p) (by omega)]; exact g4 p hp, fun p hp => by rw [h1 (60 + p) (by omega)]; exact g5 p hp⟩
  obtain ⟨k1, k2, k3⟩ := h2 p hp hp2
  rw [k1, k2, k3, h1 (12 + p) (by omega), h1 (48 + p) (by omega), h1 (60 + p) (by omega)]
  exact g3 p hp hp2
section SWAP
variable {X : XS} {d u : Nat} {D : DD} {J : JJ} {σ : Sg} {ρ : Ru} {c : Cc}
theorem size_sw {p q : Nat} (hp : p < ρ.1) (hq : q < ρ.1) (hpq : p ≠ q) (w : Nat) : sizeN ρ (swN c p q) w = sizeN ρ c w := by
  have a1 := cnt_ch (P := inW c w) (Q := inW (upd c p (c q)) w) (p := p) (fun r hr => by unfold inW; rw [upd_ne hr]) hp
  have a2 := cnt_ch (P := inW (upd c p (c q)) w) (Q := inW (swN c p q) w) (p := q) (fun r hr => by unfold inW swN; rw [upd_ne hr]) hq
  have e1 : inW (upd c p (c q)) w p = inW c w q := by unfold inW; rw [upd_at]
  have e2 : inW (upd c p (c q)) w q = inW c w q := by unfold inW; rw [upd_ne (fun z => hpq z.symm)]
  have e3 : inW (swN c p q) w q = inW c w p := by unfold inW swN; rw [upd_at]
  rw [e1] at a1
  rw [e2, e3] at a2
  show cntN (inW (swN c p q) w) ρ.1 = cntN (inW c w) ρ.1
  omega
theorem ok_sw {p q : Nat} (hO : Ok ρ c) (hp : p < ρ.1) (hq : q < ρ.1) (hpq : p ≠ q) : Ok ρ (swN c p q) := by
  have hz := size_sw (c := c) hp hq hpq
  obtain ⟨h1, h2, h3, h4, h5⟩ := hO
  refine ⟨fun r hr => ?_, fun w x hw hx => ?_, fun r s hr hs => ?_, fun w hw => by rw [hz]; exact h4 w hw, fun w => by rw [hz, hz]; exact h5 w⟩
  · rw [sw_ta]
    rcases h1 _ (ta_lt hp hq hr) with g | ⟨w, x, g1, g2, g3⟩
    · exact Or.inl g
    · exact Or.inr ⟨w, x, g1, by rw [hz]; exact g2, g3⟩
  · rw [hz] at hx
    obtain ⟨r, g1, g2⟩ := h2 w x hw hx
    exact ⟨taN p q r, ta_lt hp hq g1, by rw [sw_ta, ta_ta]; exact g2⟩
  · rw [sw_ta, sw_ta]
    intro g1 g2
    have := h3 _ _ (ta_lt hp hq hr) (ta_lt hp hq hs) g1 g2
    rw [← ta_ta p q r, this, ta_ta]
theorem rep_sw {row fil : Nat → Int32} {p q s1 s2 : Nat} (hO : Ok ρ c) (hr : Rep ρ c row fil) (hp : p < ρ.1) (hq : q < ρ.1) (hpq : p ≠ q) (k1 : s1 < 144) (k2 : s2 < 144) (e1 : c p = nI s1) (e2 : c q = nI s2) : Rep ρ (swN c p q) (upd (upd row s2 (nI p)) s1 (nI q)) fil := by
  have hO' := ok_sw hO hp hq hpq
  have hz := size_sw (c := c) hp hq hpq
  refine ⟨fun w hw => by rw [hz]; exact hr.1 w hw, fun w x hw hx => ?_⟩
  rw [hz] at hx
  have hl := hO.lt hw hx
  obtain ⟨g1, g2⟩ := who_ex hO hw hx
  by_cases z1 : 12 * w + x = s1
  · rw [z1, upd_at, who_at hO' hq k1]
    rw [sw_ta, taN, if_pos rfl]; exact e1
  · rw [upd_ne z1]
    by_cases z2 : 12 * w + x = s2
    · rw [z2, upd_at, who_at hO' hp k2]
      rw [sw_ta, taN, if_neg hpq, if_pos rfl]; exact e2
    · rw [upd_ne z2, hr.2 w x hw hx, who_at hO' g1 hl]
      rw [sw_ta, taN, if_neg (fun z => ?_), if_neg (fun z => ?_)]
      · exact g2
      · rw [z, e1] at g2; exact z1 (nI_inj (by omega) (by omega) g2).symm
      · rw [z, e2] at g2; exact z2 (nI_inj (by omega) (by omega) g2).symm
theorem row_sw {r : Nat → Int32} {p q : Nat} (hn : ρ.1 ≤ 12) (h : RowM 0 ρ c r) (hp : p < ρ.1) (hq : q < ρ.1) : RowM 0 ρ (swN c p q) (upd (upd (upd (upd r (13 + p) (pewO (c q))) (25 + p) (seatO (c q))) (13 + q) (pewO (c p))) (25 + q) (seatO (c p))) := by
  have hi : ∀ i, 12 ≤ i → swN c p q i = c i := fun i hi => by rw [sw_ta, taN, if_neg (by omega), if_neg (by omega)]
  refine ⟨by rw [upd_ne (by omega), upd_ne (by omega), upd_ne (by omega), upd_ne (by omega), hi 72 (by omega)]; exact h.1, fun i hi' => ?_⟩
  obtain ⟨t1, t2, t3, t4, t5, t6, t7⟩ := h.s hn hi'
  rw [hi (12 + i) (by omega), hi (24 + i) (by omega), hi (36 + i) (by omega), hi (48 + i) (by omega), hi (60 + i) (by omega), sw_ta]
  refine ⟨by rw [upd_ne (by omega), upd_ne (by omega), upd_ne (by omega), upd_ne (by omega)]; exact t1, ?_, fun _ => ?_, by rw [upd_ne (by omega), upd_ne (by omega), upd_ne (by omega), upd_ne (by omega)]; exact t4, by rw [upd_ne (by omega), upd_ne (by omega), upd_ne (by omega), upd_ne (by omega)]; exact t5, by rw [upd_ne (by omega), upd_ne (by omega), upd_ne (by omega), upd_ne (by omega)]; exact t6, by rw [upd_ne (by omega), upd_ne (by omega), upd_ne (by omega), upd_ne (by omega)]; exact t7⟩
  · rw [Nat.zero_add] at t2 ⊢
    rw [upd_ne (by omega)]
    unfold taN
    by_cases z1 : i = q
    · rw [z1, upd_at, if_pos rfl]
    · rw [upd_ne (by omega), upd_ne (by omega), if_neg z1]
      by_cases z2 : i = p
      · rw [z2, upd_at, if_pos rfl]
      · rw [upd_ne (by omega), if_neg z2]; exact t2
  · rw [Nat.zero_add] at t3 ⊢
    unfold taN
    by_cases z1 : i = q
    · rw [z1, upd_at, if_pos rfl]
    · rw [upd_ne (by omega), upd_ne (by omega), if_neg z1]
      by_cases z2 : i = p
      · rw [z2, upd_at, if_pos rfl]
      · rw [upd_ne (by omega), upd_ne (by omega), if_neg z2]; exact t3
theorem p_swap {x y : Int32} (hσ : SgOk σ) : PairI σ (fun u J D => EvM X (d + 50) 115 [.ref 0, .int x, .int y] (hS u D J)) (fun u J D => EvM X (d + 50) 242 [.ref 70, .int x, .int y] (hS u D J)) nI xA := by
  have hn := hσ.2.1.1.1
  have hO := hσ.2.2.1.1
  by_cases hx : isPe σ.2.1.1 x ∧ isPe σ.2.1.1 y
  · obtain ⟨ix, iy⟩ := hx
    obtain ⟨p, p1, rfl⟩ := id ix
    obtain ⟨q, q1, rfl⟩ := id iy
    by_cases hh : p ≠ q ∧ σ.2.2.1 p ≠ -1 ∧ σ.2.2.1 q ≠ -1
    · obtain ⟨hpq, hc1, hc2⟩ := hh
      obtain ⟨s1, k1, e1⟩ := (hO.v p p1).resolve_left hc1
      obtain ⟨s2, k2, e2⟩ := (hO.v q q1).resolve_left hc2
      have npq : ¬ nI p = nI q := fun z => hpq (nI_inj (by omega) (by omega) z)
      refine ⟨.inl 1, actS σ (swN σ.2.2.1 p q), hσ.act (hσ.2.2.1.of (ok_sw hO p1 q1 hpq) (fun i hi => by rw [sw_ta, taN, if_neg (by omega), if_neg (by omega)]) (fun r r1 r2 => by rw [sw_ta, sw_ta, sw_ta, taN, taN, taN, if_neg (by omega), if_neg (by omega), if_neg (by omega), if_neg (by omega), if_neg (by omega), if_neg (by omega)]; exact ⟨rfl, rfl, rfl⟩) hn), fun u J D hC => ?_, fun u J D hM => ?_, by first | exact trivial | exact rfl | exact Or.inl rfl | exact Or.inr rfl⟩
      · refine wp_eq (e115_0 _ _) ?_
        rcases c_pers (X := X) (d := d + 49) (u := u) (J := J) (x := nI p) (show σ.2.1.1 < 2 ^ 31 by omega) hC.2.1.1 with ⟨_, g2⟩ | ⟨g1, _⟩
        · refine wp_vE g2 ?_
          refine wp_eq (e115_3 _ _) ?_
          rcases c_pers (X := X) (d := d + 49) (u := u) (J := J) (x := nI q) (show σ.2.1.1 < 2 ^ 31 by omega) hC.2.1.1 with ⟨_, g2⟩ | ⟨g1, _⟩
          · refine wp_vE g2 ?_
            refine wp_eq (e115_6 _ _) ?_
            rw [la, la, nI_clamp (by omega), nI_clamp (by omega), Nat.zero_add, Nat.zero_add, hC.2.2.1.1]
            refine oG (by omega) (by decide) (oG (by omega) (by decide) (wp_f npq (wp_f hc1 (wp_t hc2 ?_))))
            rw [e1, e2]
            refine wp_cV (c_begin (d := d + 48) hC hσ.2.2.2.1.1) (fun D1 g => ?_)
            obtain ⟨g1, g2, g3, g4⟩ := g
            refine wp_eq (e115_39 _ _ _ _) ?_
            refine wp_vE (s_place (Or.inl rfl) (by omega) k2) ?_
            refine wp_eq (e115_44 _ _ _ _) ?_
            refine wp_vE (s_place (Or.inl rfl) (by omega) k1) ?_
            have hq : ∀ a, a ≠ 26 → a ≠ 27 → a ≠ 37 → a ≠ 46 → a ≠ 47 → a ≠ 52 → ud (ud (ud (ud D1 (25 + 1) p (nI s2)) (25 + 2) s2 (nI p)) (25 + 1) q (nI s1)) (25 + 2) s1 (nI q) a = D a := fun a a1 a2 a3 a4 a5 a6 => by rw [ud_q a2, ud_q a1, ud_q a2, ud_q a1]; exact g4 a a3 a4 a5 a6
            have hq1 : ∀ a, a ≠ 26 → a ≠ 27 → ud (ud (ud (ud D1 (25 + 1) p (nI s2)) (25 + 2) s2 (nI p)) (25 + 1) q (nI s1)) (25 + 2) s1 (nI q) a = D1 a := fun a a1 a2 => by rw [ud_q a2, ud_q a1, ud_q a2, ud_q a1]
            refine wp_eq (e115_49 _ _ _ _) (wp_cr (hC.act ⟨?_, ?_⟩ (g1.mv (hq1 46 (by decide) (by decide)) (hq1 47 (by decide) (by decide))) (by rw [hq1 37 (by decide) (by decide)]; exact g2) (by rw [hq1 52 (by decide) (by decide)]; exact g3) (fun i _ _ => by rw [hq 5 (by decide) (by decide) (by decide) (by decide) (by decide) (by decide)]) (fun a a1 a2 a3 a4 a5 a6 a7 => hq a (by omega) (by omega) a4 a5 a6 a7)) (fun a h => hq a (by omega) (by omega) (by omega) (by omega) (by omega) (by omega)))
            · rw [ud_q (by decide), ud_row, ud_q (by decide), ud_row, g4 (25 + 1) (by decide) (by decide) (by decide) (by decide), hC.2.2.1.1]
              unfold swN
              rw [e1, e2]
            · rw [ud_row, ud_q (by decide), ud_row, ud_q (by decide), g4 (25 + 2) (by decide) (by decide) (by decide) (by decide), hq (25 + 3) (by decide) (by decide) (by decide) (by decide) (by decide) (by decide)]
              exact rep_sw hO hC.2.2.1.2 p1 q1 hpq k1 k2 e1 e2
          · exact absurd iy g1
        · exact absurd ix g1
      · have hM0 := hM.th (v := 0) hn
        have hr := hM0.2.2.1
        refine wp_eq (e242_0 _ _) ?_
        refine wp_eq (e242_3 _ _) ?_
        refine wp_iE ((m_pers (X := X) (d := d + 48) (u := u) (J := J) (x := nI p) (D := ud D 70 0 0) (show σ.2.1.1 < 2 ^ 31 by omega) hM0.2.1.1 (ud_at D 70 0 0)).1 ix) ?_
        refine wp_eq (e242_6 _ _ _) ?_
        refine wp_f (by decide) ?_
        refine wp_iE ((m_pers (X := X) (d := d + 48) (u := u) (J := J) (x := nI q) (D := ud D 70 0 0) (show σ.2.1.1 < 2 ^ 31 by omega) hM0.2.1.1 (ud_at D 70 0 0)).1 iy) ?_
        refine wp_eq (e242_10 _ _ _) (wp_t (by decide) ?_)
        refine wp_eq (e242_13 _ _) ?_
        obtain ⟨-, tp2, tp3, -⟩ := hr.s hn p1
        obtain ⟨-, tq2, tq3, -⟩ := hr.s hn q1
        rw [Nat.zero_add] at tp2 tp3 tq2 tq3
        have n1 : ¬ pewO (σ.2.2.1 p) = -1 := by rw [e1, (pewO_s k1).1]; exact nI_ne1 (by omega)
        have n2 : ¬ pewO (σ.2.2.1 q) = -1 := by rw [e2, (pewO_s k2).1]; exact nI_ne1 (by omega)
        rw [la, la, la, nI_clamp (by omega), nI_clamp (by omega), nI_clamp (by omega), tp2, tp3, tq2]
        refine oG (by omega) (by decide) (oG (by omega) (by decide) (wp_f npq (wp_f n1 (oG (by omega) (by decide) (wp_t n2 ?_)))))
        refine wp_eq (e242_49 _ _ _ _) ?_
        refine wp_cV (m_keeps hn hM0.2.2.2.1.1 hσ.2.2.2.1.1 hM0.2.2.2.1.2 hr) (fun D1 g => ?_)
        obtain ⟨g1, g2, g3, g4⟩ := g
        have e78 : D1 78 = ud D 70 0 0 78 := g4 78 (by decide) (by decide)
        refine wp_eq (e242_51 _ _ _ _) ?_
        rw [la, la, nI_clamp (by omega), nI_clamp (by omega), e78, tq2]
        refine oG (by omega) (by decide) (oG (by omega) (by decide) ?_)
        refine wp_eq (e242_63 _ _ _ _) ?_
        rw [la, la, nI_clamp (by omega), nI_clamp (by omega), ud_k (by omega), e78, tq3]
        refine oG (by omega) (by decide) (oG (by omega) (by decide) ?_)
        refine wp_eq (e242_75 _ _ _ _) ?_
        rw [la, nI_clamp (by omega)]
        refine oG (by omega) (by decide) ?_
        refine wp_eq (e242_82 _ _ _ _) ?_
        rw [la, nI_clamp (by omega)]
        refine oG (by omega) (by decide) ?_
        have hq : ∀ a, a ≠ 78 → ud (ud (ud (ud D1 78 (13 + p) (pewO (σ.2.2.1 q))) 78 (25 + p) (seatO (σ.2.2.1 q))) 78 (13 + q) (pewO (σ.2.2.1 p))) 78 (25 + q) (seatO (σ.2.2.1 p)) a = D1 a := fun a ha => by rw [ud_q ha, ud_q ha, ud_q ha, ud_q ha]
        refine wp_eq (e242_89 _ _ _ _) (wp_mr (hM0.act ?_ (by rw [hq 70 (by decide)]; exact g1) (by rw [hq 79 (by decide)]; exact g2) (fun j j1 j2 _ _ _ _ => by rw [hq 70 (by decide)]; exact g3 j j2) (fun a ha => by rw [hq a (by omega)]; exact g4 a (by omega) (by omega))) (by rw [hq 70 (by decide), g3 0 (by decide), ud_at]; rfl) (fun a ha => by rw [hq a (by omega), g4 a (by omega) (by omega), ud_q (by omega)]))
        rw [ud_row, ud_row, ud_row, ud_row, e78]
        exact row_sw hn hr p1 q1
    · refine ⟨.inl 0, rfS σ 1, hσ, fun u J D hC => ?_, fun u J D hM => ?_, by first | exact trivial | exact rfl | exact Or.inl rfl | exact Or.inr rfl⟩
      · refine wp_eq (e115_0 _ _) ?_
        rcases c_pers (X := X) (d := d + 49) (u := u) (J := J) (x := nI p) (show σ.2.1.1 < 2 ^ 31 by omega) hC.2.1.1 with ⟨_, g2⟩ | ⟨g1, _⟩
        · refine wp_vE g2 ?_
          refine wp_eq (e115_3 _ _) ?_
          rcases c_pers (X := X) (d := d + 49) (u := u) (J := J) (x := nI q) (show σ.2.1.1 < 2 ^ 31 by omega) hC.2.1.1 with ⟨_, g2⟩ | ⟨g1, _⟩
          · refine wp_vE g2 ?_
            refine wp_eq (e115_6 _ _) ?_
            rw [la, la, nI_clamp (by omega), nI_clamp (by omega), Nat.zero_add, Nat.zero_add, hC.2.2.1.1]
            refine oG (by omega) (by decide) (oG (by omega) (by decide) ?_)
            have no : Wp (bI (EvM X (d + 49) 112 [.ref 0, .int 1] (hS u D J)) (fun y h => Ev X (d + 49 + 1) 115 (34, [.ref 0, .int (nI p), .int (nI q), .int (σ.2.2.1 p), .int (σ.2.2.1 q)], [.int y], h)) (fun e h => some (.inr e, h))) (CR (rfS σ 1) D u J (.inl 0)) := by
              refine wp_iE (c_refuse (k := 1) (by decide)) ?_
              exact wp_eq (e115_34 _ _ _ _ _) (wp_cr (hC.rf (by decide)) (fun q hq => ud_q (by omega)))
            refine wp_if (fun _ => no) (fun h1 => wp_if (fun _ => no) (fun h2 => wp_if (fun h3 => ?_) (fun _ => no)))
            exact absurd ⟨fun z => h1 (by rw [z]), h2, h3⟩ hh
          · exact absurd iy g1
        · exact absurd ix g1
      · have hM0 := hM.th (v := 0) hn
        have hr := hM0.2.2.1
        have no : ∀ x3 x4, Wp (Ev X (d + 50) 242 (41, [.ref 70, .int (nI p), .int (nI q), .int x3, .int x4], [], hS u (ud D 70 0 0) J)) (MR (rfS σ 1) D u J 0 0) := by
          intro x3 x4
          refine wp_eq (e242_41 _ _ _ _) ?_
          refine wp_iE (m_refuses (k := 1) (by decide)) ?_
          refine wp_eq (e242_44 _ _ _ _ _) (wp_t (by decide) ?_)
          exact wp_eq (e242_47 _ _ _ _) (wp_mr (hM0.rf (by decide) hn) (by rw [ud_q (by decide), ud_at]) (fun q hq => by rw [ud_q (by omega), ud_q (by omega)]))
        refine wp_eq (e242_0 _ _) ?_
        refine wp_eq (e242_3 _ _) ?_
        refine wp_iE ((m_pers (X := X) (d := d + 48) (u := u) (J := J) (x := nI p) (D := ud D 70 0 0) (show σ.2.1.1 < 2 ^ 31 by omega) hM0.2.1.1 (ud_at D 70 0 0)).1 ix) ?_
        refine wp_eq (e242_6 _ _ _) ?_
        refine wp_f (by decide) ?_
        refine wp_iE ((m_pers (X := X) (d := d + 48) (u := u) (J := J) (x := nI q) (D := ud D 70 0 0) (show σ.2.1.1 < 2 ^ 31 by omega) hM0.2.1.1 (ud_at D 70 0 0)).1 iy) ?_
        refine wp_eq (e242_10 _ _ _) (wp_t (by decide) ?_)
        refine wp_eq (e242_13 _ _) ?_
        obtain ⟨-, tp2, tp3, -⟩ := hr.s hn p1
        obtain ⟨-, tq2, tq3, -⟩ := hr.s hn q1
        rw [Nat.zero_add] at tp2 tp3 tq2 tq3
        have n1 : ∀ r, r < σ.2.1.1 → ¬ pewO (σ.2.2.1 r) = -1 → σ.2.2.1 r ≠ -1 := fun r hr h z => h (by rw [z]; exact pewO_1.1)
        rw [la, la, la, nI_clamp (by omega), nI_clamp (by omega), nI_clamp (by omega), tp2, tp3, tq2]
        refine oG (by omega) (by decide) (oG (by omega) (by decide) (wp_if (fun _ => no _ _) (fun h1 => wp_if (fun _ => no _ _) (fun h2 => oG (by omega) (by decide) (wp_if (fun h3 => ?_) (fun _ => no _ _))))))
        exact absurd ⟨fun z => h1 (by rw [z]), n1 p p1 h2, n1 q q1 h3⟩ hh
  · refine ⟨.inr 1, σ, hσ, fun u J D hC => ?_, fun u J D hM => ?_, by first | exact trivial | exact rfl | exact Or.inl rfl | exact Or.inr rfl⟩
    · refine wp_eq (e115_0 _ _) ?_
      rcases c_pers (X := X) (d := d + 49) (u := u) (J := J) (x := x) (show σ.2.1.1 < 2 ^ 31 by omega) hC.2.1.1 with ⟨h1, g2⟩ | ⟨_, g2⟩
      · refine wp_vE g2 ?_
        refine wp_eq (e115_3 _ _) ?_
        rcases c_pers (X := X) (d := d + 49) (u := u) (J := J) (x := y) (show σ.2.1.1 < 2 ^ 31 by omega) hC.2.1.1 with ⟨h2, _⟩ | ⟨_, g2⟩
        · exact absurd ⟨h1, h2⟩ hx
        · exact wp_vT g2 (wp_ct hC (fun _ _ => rfl))
      · exact wp_vT g2 (wp_ct hC (fun _ _ => rfl))
    · have hM0 := hM.th (v := 0) hn
      have fin : Wp (Ev X (d + 50) 242 (11, [.ref 70, .int x, .int y, .null, .null], [], hS u (ud (ud D 70 0 0) 70 0 1) J)) (MR σ D u J 0 1) := wp_eq (e242_11 _ _) (wp_mr (hM0.th hn) (ud_at _ 70 0 1) (fun q hq => by rw [ud_q (by omega), ud_q (by omega)]))
      refine wp_eq (e242_0 _ _) ?_
      refine wp_eq (e242_3 _ _) ?_
      obtain ⟨r1, r2⟩ := m_pers (X := X) (d := d + 48) (u := u) (J := J) (x := x) (D := ud D 70 0 0) (show σ.2.1.1 < 2 ^ 31 by omega) hM0.2.1.1 (ud_at D 70 0 0)
      by_cases ix : isPe σ.2.1.1 x
      · refine wp_iE (r1 ix) ?_
        refine wp_eq (e242_6 _ _ _) ?_
        refine wp_f (by decide) ?_
        refine wp_iE ((m_pers (X := X) (d := d + 48) (u := u) (J := J) (x := y) (D := ud D 70 0 0) (show σ.2.1.1 < 2 ^ 31 by omega) hM0.2.1.1 (ud_at D 70 0 0)).2 (fun z => hx ⟨ix, z⟩)) ?_
        exact wp_eq (e242_10 _ _ _) (wp_f (by decide) fin)
      · refine wp_iE (r2 ix) ?_
        refine wp_eq (e242_6 _ _ _) ?_
        exact wp_t rfl fin
end SWAP
