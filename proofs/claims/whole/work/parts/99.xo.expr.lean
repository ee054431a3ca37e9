/-! ===== the reference's parser: parts, expressions ===== -/
def viOk (mi : Bool) (fv lv : Int32) : Prop := (mi = false ∧ fv = 0 ∧ lv = 5) ∨ (mi = true ∧ fv = 2 ∧ lv = 6)
theorem km_vl : ∀ j, j < 15 → ∀ mi : Bool, vlOk mi (nI j - 8) = (!(decide (kmI (nI j) < (if mi = true then 2 else 0))) && decide (kmI (nI j) ≤ (if mi = true then 6 else 5))) := by decide +kernel
def tvI (r : Nat) : Nat := if r = 0 then 2 else if r = 1 then 3 else if r = 2 then 4 else if r = 3 then 5 else if r = 4 then 0 else if r = 5 then 1 else r
theorem km_vi : ∀ j, j < 15 → ∀ mi : Bool, vlOk mi (nI j - 8) = true → tvI (nI j - 8).toNatClampNeg < 7 ∧ kmI (nI j) = nI (tvI (nI j - 8).toNatClampNeg) := by decide +kernel
theorem tv_all (tl : Nat → Int32) (r : Nat) : tvN tl r = tl (tvI r) := by
  unfold tvN tvI
  by_cases h0 : r = 0
  · rw [if_pos h0, if_pos h0]
  · rw [if_neg h0, if_neg h0]
    by_cases h1 : r = 1
    · rw [if_pos h1, if_pos h1]
    · rw [if_neg h1, if_neg h1]
      by_cases h2 : r = 2
      · rw [if_pos h2, if_pos h2]
      · rw [if_neg h2, if_neg h2]
        by_cases h3 : r = 3
        · rw [if_pos h3, if_pos h3]
        · rw [if_neg h3, if_neg h3]
          by_cases h4 : r = 4
          · rw [if_pos h4, if_pos h4]
          · rw [if_neg h4, if_neg h4]
            by_cases h5 : r = 5
            · rw [if_pos h5, if_pos h5]
            · rw [if_neg h5, if_neg h5]
section MPART
variable {X : XS} {d u : Nat} {D D' : DD} {J J' : JJ} {t : Tx} {n top0 : Nat} {fv lv : Int32} {D0 : DD} {J0 : JJ} {k dp : Nat} {E S Z : List Int32} {tf : Nat → Int32} {Q : Rs → Prop} {K : Hp → Option Rs} {T : Nat → Hp → Option Rs} {mi : Bool}
theorem ef_puts {m : Nat} {e c : Int32} {k' : Nat} (h : EF t n top0 D0 J0 (m + 1) e k' D J) (hk : ∀ D', EF t n top0 D0 J0 m e k' D' J → Wp (K (hS u D' J)) Q) : Wp (bV (EvM X d 192 [.ref 70, .int c] (hS u D J)) K T) Q := by
  obtain ⟨a1, a2, a3, ⟨a, b, c1, c2, c3, c4, c5⟩, a5⟩ := h
  refine wp_vE (m_puts c1 (by omega) c) (hk _ ?_)
  have f : FrQ top0 D (putD D a c) := put_fr c3
  exact ⟨(f.2.1 9 (by decide) (by decide)).trans a1, a2, (f.2.1 10 (by decide) (by decide)).trans a3, ⟨a + 1, b, by unfold putD; rw [ud_at], by unfold putD; rw [ud_k (by decide), ud_q (by decide)]; exact c2, by omega, by omega, c5⟩, a5.q f⟩
def PaP (t : Tx) (n top0 : Nat) (fv lv : Int32) (D0 : DD) (J0 : JJ) (k : Nat) (E S : List Int32) (dp : Nat) (tf : Nat → Int32) (r : Pr) (D : DD) (J : JJ) : Prop := match r with
  | .inl (e, k') => ESF t n top0 D0 J0 e k' D J
  | .inr (k', f) => k' = k + 1 ∧ tkN t n k < n ∧ ∃ c v, ES t n top0 fv lv D0 J0 (k + 1) (E ++ [c] ++ [v]) S dp tf D J ∧ Cde [c, v] f
theorem p51F {e : Int32} {k' : Nat} (h : ESF t n top0 D0 J0 e k' D J) : Wp (Ev X (d + 3) 197 (51, [.ref 70, .null], [], hS u D J)) (RW u (fun D' J' => ESF t n top0 D0 J0 e k' D' J')) := by
  have h9 : D 70 9 ≠ 0 := by rw [h.1]; exact h.2.1
  refine wp_eq (e197_51) (wp_iE (m_good0 h9) (wp_eq (e197_53 _) (wp_t rfl ?_)))
  exact wp_eq (e197_56) (wp_rW h)
theorem p51G (hn : n ≤ 700) (h : ES t n top0 fv lv D0 J0 k E S dp tf D J) (hk : tkN t n k < n) : Wp (Ev X (d + 3) 197 (51, [.ref 70, .null], [], hS u D J)) (RW u (fun D' J' => ES t n top0 fv lv D0 J0 (k + 1) E S dp tf D' J')) := by
  refine wp_eq (e197_51) (wp_iE (m_good1 h.2.1) (wp_eq (e197_53 _) (wp_f (by decide) ?_)))
  exact es_goes (d := d + 1) hn h hk (fun D2 J2 h2 => wp_eq (e197_56) (wp_rW h2))
theorem wk197 {x1 : Int32} {R : Rs → Prop} (h : Wp (Ev X (d + 3) 197 (51, [.ref 70, .null], [], hS u D J)) R) : Wp (Ev X (d + 3) 197 (47, [.ref 70, .int x1], [], hS u D J)) R := wp_eq (e197_47 _) (wp_weak (ls := [.ref 70, .null]) ⟨Or.inl rfl, Or.inr ⟨rfl, rfl⟩, trivial⟩ h)
theorem m_197 {inner : Option (Nat → Pr)} (hn : n ≤ 700) (hby : byB t) (hv : viOk mi fv lv) (h : ES t n top0 fv lv D0 J0 k E S dp tf D J) (hb : Bd t n top0 k E S) (q : sgAt (kK t n) (vV t n) 40 k = false) : Wp (EvM X (d + 3) 197 [.ref 70] (hS u D J)) (RW u (PaP t n top0 fv lv D0 J0 k E S dp tf (pPart (kK t n) (vV t n) inner mi k))) := by
  have b := hb.bn hn
  have h14 : D 70 14 = nI (kK t n k) := h.1.2.2.1
  have b26 : D 70 26 = fv := h.2.2.2.1.2.2.1
  have b27 : D 70 27 = lv := h.2.2.2.1.2.2.2.1
  refine wp_eq (e197_0) (wp_iE (m_good1 h.2.1) (wp_eq (e197_2 _) (wp_t (by decide) ?_)))
  rw [h14]
  unfold pPart
  rw [if_neg (by rw [q]; exact Bool.false_ne_true)]
  by_cases z2 : kK t n k = 2
  · rw [if_pos z2]
    obtain ⟨w1, w2, w3⟩ := kd_2 z2
    obtain ⟨v1, v2, v3⟩ := v_num hby z2
    have hen := (en_b (t := t) w1).2
    have e16 : D 70 16 = nI (enN t n (tkN t n k) - tkN t n k) := by
      have := h.1.2.2.2.2.1
      unfold neN at this
      rwa [if_pos w1] at this
    refine wp_f (fun y => y ((kI kK_lt (by decide : 2 < 5)).mpr z2)) ?_
    rw [e16]
    by_cases h4 : enN t n (tkN t n k) - tkN t n k ≤ 4
    · obtain ⟨y, y1, y2, y3⟩ := v2 h4
      have e17 : D 70 17 = nI y := by
        have := h.1.2.2.2.2.2.1 z2
        unfold neN at this
        rw [if_pos w1] at this
        exact (this h4).trans y3
      rw [y2, if_pos (show nI y ≤ 9999 from nI_le (b := 9999) (by omega) (by decide))]
      refine wp_t (nI_le (b := 4) h4 (by decide)) ?_
      refine wp_eq (e197_15) (es_puts h (by omega) (fun D1 h1 => ?_))
      refine wp_eq (e197_18) ?_
      have g17 : D1 70 17 = nI y := by
        have := h1.1.2.2.2.2.2.1 z2
        unfold neN at this
        rw [if_pos w1] at this
        exact (this h4).trans y3
      rw [g17]
      refine es_puts h1 (by rw [List.length_append, List.length_singleton]; omega) (fun D2 h2 => ?_)
      refine wp_eq (e197_22) (wp_mono (p51G hn h2 w1) (fun R hR => ?_))
      obtain ⟨D3, J3, r1, r2⟩ := hR
      exact ⟨D3, J3, r1, rfl, w1, 1, nI y, r2, Cde.num _⟩
    · rw [v3 h4, if_neg (by decide)]
      refine wp_f (fun y => h4 ((nI_leI (by omega) (by decide : 4 < 2 ^ 31)).mp y)) ?_
      refine wp_vE (m_wrong h.1 h.2.1 2) ?_
      refine wp_eq (e197_15) (ef_puts (m := 6) (h.wrS hb hn (by decide)) (fun D1 h1 => ?_))
      refine wp_eq (e197_18) (ef_puts (m := 5) h1 (fun D2 h2 => ?_))
      exact wp_eq (e197_22) (p51F h2.f)
  · rw [if_neg z2]
    refine wp_t (fun y => z2 ((kI kK_lt (by decide : 2 < 5)).mp y)) ?_
    by_cases z1 : kK t n k = 1
    · rw [if_pos z1]
      have w1 : tkN t n k < n := kz (by rw [z1]; decide)
      refine wp_f (fun y => y ((kI kK_lt (by decide : 1 < 5)).mpr z1)) ?_
      refine wp_iE (m_known (d := d) hn hby h.1) (wp_eq (e197_29 _) ?_)
      rw [b26, b27]
      have ek : knW t n k = kmI (vV t n k) := if_pos z1
      have bad : ∀ x1 : Int32, vlOk mi (vV t n k - 8) = false → Wp (bV (EvM X (d + 2) 187 [.ref 70, .int 3] (hS u D J)) (fun h => Ev X (d + 3) 197 (41, [.ref 70, .int x1], [], h)) (fun e h => some (.inr e, h))) (RW u (PaP t n top0 fv lv D0 J0 k E S dp tf (if vlOk mi (vV t n k - 8) = true then .inr (k + 1, fun v => v (vV t n k - 8).toNatClampNeg) else .inl (3, k)))) := fun x1 hf => by
        rw [if_neg (by rw [hf]; exact Bool.false_ne_true)]
        refine wp_vE (m_wrong h.1 h.2.1 3) ?_
        refine wp_eq (e197_41 _) (ef_puts (m := 6) (h.wrS hb hn (by decide)) (fun D1 h1 => ?_))
        refine wp_eq (e197_44 _) (ef_puts (m := 5) h1 (fun D2 h2 => ?_))
        exact wk197 (p51F h2.f)
      rw [ek]
      rcases v_word15 z1 with e | ⟨j, j1, e⟩
      · have hf : vlOk mi (vV t n k - 8) = false := by rw [e]; exact vl_m1 mi
        have h0 : kmI (vV t n k) < fv := by
          rw [e]
          rcases hv with ⟨-, rfl, -⟩ | ⟨-, rfl, -⟩ <;> decide
        exact wp_t h0 (bad _ hf)
      · have hm := km_vl j j1 mi
        have hfv : (if mi = true then (2 : Int32) else 0) = fv ∧ (if mi = true then (6 : Int32) else 5) = lv := by
          rcases hv with ⟨rfl, rfl, rfl⟩ | ⟨rfl, rfl, rfl⟩ <;> exact ⟨rfl, rfl⟩
        rw [hfv.1, hfv.2, ← e] at hm
        refine wp_if (fun y => bad _ (by rw [hm, decide_eq_true y]; rfl)) (fun y1 => ?_)
        refine wp_if (fun y2 => ?_) (fun y => bad _ (by rw [hm, decide_eq_false y, Bool.and_false]))
        have hok : vlOk mi (vV t n k - 8) = true := by rw [hm, decide_eq_false y1, decide_eq_true y2]; rfl
        rw [if_pos hok]
        rw [e] at hok
        obtain ⟨i2, i3⟩ := km_vi j j1 mi hok
        rw [← e] at i2 i3
        refine wp_eq (e197_41 _) (es_puts h (by omega) (fun D1 h1 => ?_))
        refine wp_eq (e197_44 _) (es_puts h1 (by rw [List.length_append, List.length_singleton]; omega) (fun D2 h2 => ?_))
        refine wk197 (wp_mono (p51G hn h2 w1) (fun R hR => ?_))
        obtain ⟨D3, J3, r1, r2⟩ := hR
        refine ⟨D3, J3, r1, rfl, w1, 2, kmI (vV t n k), r2, ?_⟩
        rw [i3]
        exact Cde.vl i2 (fun tl => tv_all tl _)
    · rw [if_neg z1]
      refine wp_t (fun y => z1 ((kI kK_lt (by decide : 1 < 5)).mp y)) ?_
      refine wp_vE (m_wrong h.1 h.2.1 1) ?_
      exact p51F (h.wr hb hn (by decide))
/-- a part -/
theorem m_part {inner : Option (Nat → Pr)} (hn : n ≤ 700) (hby : byB t) (hd : dp ≤ 6) (hd1 : 1 ≤ dp) (hv : viOk mi fv lv) (hi : (dp = 6 ∧ inner = none) ∨ (dp < 6 ∧ ∃ p, inner = some p ∧ SpM X d u t n top0 fv lv D0 J0 (dp + 1) 0 p)) : SpM X d u t n top0 fv lv D0 J0 dp 5 (pPart (kK t n) (vV t n) inner mi) := by
  intro k E S tf D J Q h hb hw ht hR
  show PT X d u fv lv D J Q
  intro x1 x2 x3 x4
  have b := hb.bn hn
  refine wp_iE (m_good1 h.2.1) (wp_eq (e199_39 _ _ _ _ _) (wp_f (by decide) (wp_iE (m_sg h.1 40) (wp_eq (e199_43 _ _ _ _ _) ?_))))
  by_cases q : sgAt (kK t n) (vV t n) 40 k = true
  · rw [q]
    have hk := sg_lt2 q
    refine wp_f b1T ?_
    refine es_wait h (by omega) (fun D1 h1 => ?_)
    refine wp_eq (e199_53 _ _ _ _) (es_goes (d := d + 2) hn h1 hk (fun D2 J2 h2 => ?_))
    have hb2 : Bd t n top0 (k + 1) E (14 :: S) := hb.wt hk
    refine wp_eq (e199_55 _ _ _ _) ?_
    unfold pPart at hR
    rw [if_pos q] at hR
    have b29 : D2 70 29 = nI dp := h2.2.2.2.1.1
    rcases hi with ⟨h6, rfl⟩ | ⟨h6, p, rfl, hp⟩
    · have hR : FCn X d u t n top0 fv lv D0 J0 (if kK t n (k + 1) = 2 then 2 else if kK t n (k + 1) = 1 then 2 else if sgAt (kK t n) (vV t n) 40 (k + 1) = true then 2 else 1) (k + 1) Q := hR
      have h14 : D2 70 14 = nI (kK t n (k + 1)) := h2.1.2.2.1
      have hD : Wp (EvM X (d + 3) 198 [.ref 70] (hS u D2 J2)) (RW u (fun D' J' => ESF t n top0 D0 J0 (if kK t n (k + 1) = 2 then 2 else if kK t n (k + 1) = 1 then 2 else if sgAt (kK t n) (vV t n) 40 (k + 1) = true then 2 else 1) (k + 1) D' J')) := by
        refine wp_eq (e198_0) ?_
        rw [b29, h14]
        refine wp_t (nI_le (a := 6) (by omega) (by omega)) ?_
        by_cases z2 : kK t n (k + 1) = 2
        · rw [if_pos z2]
          refine wp_t ((kI kK_lt (by decide : 2 < 5)).mpr z2) ?_
          exact wp_vE (m_wrong h2.1 h2.2.1 2) (wp_eq (e198_34) (wp_rW (h2.wr hb2 hn (by decide))))
        · rw [if_neg z2]
          refine wp_f (fun y => z2 ((kI kK_lt (by decide : 2 < 5)).mp y)) ?_
          by_cases z1 : kK t n (k + 1) = 1
          · rw [if_pos z1]
            refine wp_t ((kI kK_lt (by decide : 1 < 5)).mpr z1) ?_
            exact wp_vE (m_wrong h2.1 h2.2.1 2) (wp_eq (e198_34) (wp_rW (h2.wr hb2 hn (by decide))))
          · rw [if_neg z1]
            refine wp_f (fun y => z1 ((kI kK_lt (by decide : 1 < 5)).mp y)) ?_
            refine wp_iE (m_sg h2.1 40) (wp_eq (e198_29 _) ?_)
            by_cases z0 : sgAt (kK t n) (vV t n) 40 (k + 1) = true
            · rw [if_pos z0, z0]
              refine wp_f b1T ?_
              exact wp_vE (m_wrong h2.1 h2.2.1 2) (wp_eq (e198_34) (wp_rW (h2.wr hb2 hn (by decide))))
            · rw [if_neg z0, Bool.eq_false_iff.mpr z0]
              refine wp_t b0F ?_
              exact wp_vE (m_wrong h2.1 h2.2.1 1) (wp_eq (e198_34) (wp_rW (h2.wr hb2 hn (by decide))))
      refine wp_cW hD (fun D3 J3 h3 => ?_)
      refine wp_eq (e199_57 _ _ _ _) (wp_weak (ls := [.ref 70, .int x1, .int 1, .int 1, .null]) ⟨Or.inl rfl, Or.inl rfl, Or.inl rfl, Or.inl rfl, Or.inr ⟨rfl, rfl⟩, trivial⟩ ?_)
      exact opF4 h3 hR
    · have hD : EvM X (d + 3) 198 [.ref 70] (hS u D2 J2) = some (.inl none, hS u (ud (ud D2 70 29 (nI (dp + 1))) 77 (dp + 1) 0) J2) := by
        refine (e198_0).trans ?_
        rw [b29, brF (show ¬ (6 : Int32) ≤ nI dp from nI_ge (b := 6) h6 (by decide)), nI_1, ud_at, nI_clamp (by omega)]
        exact gd_t (by rw [ob_n (show dp + 1 < 9 by omega) (by decide)]; decide)
      refine wp_vE hD (wp_eq (e199_57 _ _ _ _) (wp_weak (ls := [.ref 70, .int x1, .int 1, .int 1, .null]) ⟨Or.inl rfl, Or.inl rfl, Or.inl rfl, Or.inl rfl, Or.inr ⟨rfl, rfl⟩, trivial⟩ ?_))
      have h3 := (h2.sdp (e := dp + 1)).stf (j := dp + 1) (v := 0)
      have o : OPn X d u fv lv 1 (ud (ud D2 70 29 (nI (dp + 1))) 77 (dp + 1) 0) J2 Q := by
        refine hp (k + 1) E (14 :: S) (upd tf (dp + 1) 0) _ J2 Q h3 hb2 (wT_14 _ S) (fun _ => upd_at _ _ _) ?_
        dsimp only at hR
        cases hs : p (k + 1) with
        | inl e =>
          obtain ⟨e, k'⟩ := e
          rw [hs] at hR; exact hR
        | inr kf =>
          obtain ⟨k2, g⟩ := kf
          rw [hs] at hR
          dsimp only at hR
          intro G Z tf' D3 J3 a1 a2 a3 a4 a5 a6 a7 a8
          by_cases c : sgAt (kK t n) (vV t n) 41 k2 = true
          · rw [if_pos c] at hR
            have hR : Kn X d u t n top0 fv lv D0 J0 5 k E S dp tf (k2 + 1) g Q := hR
            refine hdCl hn hby a2 a3 (by omega) a6 c (fun z hz => (a5 z hz).1) (fun D4 J4 h4 => ?_)
            refine hR (G ++ Z) [] tf' D4 J4 (by omega) (by rw [← List.append_assoc]; exact h4) ?_ (by rw [List.append_nil]; exact a4) (fun z hz => absurd hz List.not_mem_nil) ⟨fun z => absurd z (by decide), fun z => absurd z (by decide), fun z => absurd z (by decide), fun z => absurd z (by decide), fun z => absurd z (by decide)⟩ (fun i hi => (a7 i (by omega)).trans (upd_ne (by omega))) (fun _ => (a7 dp (by omega)).trans (upd_ne (by omega)))
            have := tk_up (sg_lt2 c)
            unfold Bd at a3 ⊢
            simp only [List.length_append, List.length_cons, List.length_nil] at a3 ⊢
            omega
          · rw [if_neg c] at hR
            exact hdX hn hby a2 a3 (by omega) (by omega) a6 (Bool.eq_false_iff.mpr c) hR
      exact o x1
  · rw [Bool.eq_false_iff.mpr q]
    refine wp_t b0F (wp_weak (ls := [.ref 70, .int x1, .int x2, .int 0, .null]) ⟨Or.inl rfl, Or.inl rfl, Or.inl rfl, Or.inl rfl, Or.inr ⟨rfl, rfl⟩, trivial⟩ (wp_eq (e199_4 _ _ _) (wp_t rfl ?_)))
    refine wp_cW (m_197 (inner := inner) hn hby hv h hb (Bool.eq_false_iff.mpr q)) (fun D' J' h' => wp_eq (e199_62 _ _ _) (wp_rW ?_))
    cases hs : pPart (kK t n) (vV t n) inner mi k with
    | inl e =>
      obtain ⟨e, k'⟩ := e
      rw [hs] at hR h'
      exact hdF h' hR
    | inr kf =>
      obtain ⟨k', f⟩ := kf
      rw [hs] at hR h'
      obtain ⟨rfl, hk, c, v, h1, h2⟩ := h'
      have hR : Kn X d u t n top0 fv lv D0 J0 5 k E S dp tf (k + 1) f Q := hR
      refine hR [c, v] [] tf D' J' (by omega) (by rw [List.append_assoc] at h1; exact h1) ?_ h2 (fun z hz => absurd hz List.not_mem_nil) ⟨fun z => absurd z (by decide), fun z => absurd z (by decide), fun z => absurd z (by decide), fun z => absurd z (by decide), fun z => absurd z (by decide)⟩ (fun _ _ => rfl) (fun _ => rfl)
      have := tk_up hk
      unfold Bd at hb ⊢
      simp only [List.length_append, List.length_cons, List.length_nil] at hb ⊢
      omega
theorem m_top {inner : Option (Nat → Pr)} (hn : n ≤ 700) (hby : byB t) (hd : dp ≤ 6) (hd1 : 1 ≤ dp) (hv : viOk mi fv lv) (hi : (dp = 6 ∧ inner = none) ∨ (dp < 6 ∧ ∃ p, inner = some p ∧ SpM X d u t n top0 fv lv D0 J0 (dp + 1) 0 p)) : SpM X d u t n top0 fv lv D0 J0 dp 0 (pTop (kK t n) (vV t n) inner mi) :=
  m_bin (L := 0) (by decide) hn hby hd (m_bin (L := 1) (by decide) hn hby hd (m_not hn hby hd (m_bin (L := 3) (by decide) hn hby hd (m_bin (L := 4) (by decide) hn hby hd (m_part hn hby hd hd1 hv hi)))))
theorem m_E (hn : n ≤ 700) (hby : byB t) (hv : viOk mi fv lv) : ∀ (j dp : Nat), dp + j = 6 → 1 ≤ dp → SpM X d u t n top0 fv lv D0 J0 dp 0 (pE (kK t n) (vV t n) mi j)
  | 0, dp, h, h1 => m_top hn hby (by omega) h1 hv (Or.inl ⟨by omega, rfl⟩)
  | j + 1, dp, h, h1 => m_top hn hby (by omega) h1 hv (Or.inr ⟨by omega, _, rfl, m_E hn hby hv j (dp + 1) (by omega) (by omega)⟩)
/-- what an expression leaves -/
def ExP (t : Tx) (n top0 k : Nat) (D0 : DD) (J0 : JJ) (r : Pr) (D : DD) (J : JJ) : Prop := FrE top0 D0 J0 D J ∧ match r with
  | .inl (e, k') => D 70 9 = e ∧ e ≠ 0 ∧ D 70 10 = nI (tkN t n k')
  | .inr (k', f) => TkM t n k' D J ∧ D 70 9 = 0 ∧ D 70 10 = D0 70 10 ∧ k < k' ∧ ∃ C : List Int32, Cde C f ∧ D 70 25 = nI (top0 + C.length + 1) ∧ ArrL (D 75) top0 (C ++ [0]) ∧ top0 + C.length + 8 ≤ 2 * tkN t n k'
theorem FrE.rf (top0 : Nat) (D : DD) (J : JJ) : FrE top0 D J D J := ⟨fun _ _ _ _ _ => rfl, fun _ _ => rfl, fun _ _ => rfl, fun _ _ => rfl⟩
theorem FrE.v {k : Nat} {v : Int32} (h : FrE top0 D0 J0 D J) (h1 : 25 ≤ k) (h2 : k ≤ 29) : FrE top0 D0 J0 (ud D 70 k v) J := ⟨fun q a b c e => by rw [ud_q a]; exact h.1 q a b c e, fun j a => by rw [ud_k (by omega)]; exact h.2.1 j a, fun i a => by rw [ud_q (by decide)]; exact h.2.2.1 i a, h.2.2.2⟩
theorem m_expr (hn : n ≤ 700) (hby : byB t) (hv : viOk mi fv lv) (hT : TkM t n k D J) (h9 : D 70 9 = 0) (h25 : D 70 25 = nI top0) (hb : top0 + 8 ≤ 2 * tkN t n k) : Wp (EvM X (d + 5) 202 [.ref 70, .int fv, .int lv] (hS u D J)) (RW u (ExP t n top0 k D J (pE (kK t n) (vV t n) mi 5 k))) := by
  refine wp_eq (e202_0 _ _) (wp_iE (m_good1 h9) (wp_eq (e202_2 _ _ _) (wp_t (by decide) ?_)))
  generalize hD1 : ud (ud (ud (ud D 70 26 fv) 70 27 lv) 70 28 0) 70 29 0 = D1
  have hk1 : ∀ i, i < 26 → D1 70 i = D 70 i := fun i hi => by rw [← hD1, ud_k (by omega), ud_k (by omega), ud_k (by omega), ud_k (by omega)]
  have hq1 : ∀ q, q ≠ 70 → D1 q = D q := fun q hq => by rw [← hD1, ud_q hq, ud_q hq, ud_q hq, ud_q hq]
  have F1 : FrE top0 D J D1 J := by
    rw [← hD1]
    exact ((((FrE.rf top0 D J).v (by decide) (by decide)).v (by decide) (by decide)).v (by decide) (by decide)).v (by decide) (by decide)
  have h1 : ES t n top0 fv lv D J k [] [] 0 (D 77) D1 J := by
    refine ⟨hT.fr (fun j _ _ => hk1 j (by omega)) (hq1 72 (by decide)) rfl, (hk1 9 (by decide)).trans h9, ⟨⟨(hk1 25 (by decide)).trans h25, fun i hi => absurd hi (Nat.not_lt_zero i)⟩, by rw [← hD1, ud_k (by decide), ud_at]; rfl, fun i hi => absurd hi (Nat.not_lt_zero i)⟩, ⟨by rw [← hD1, ud_at]; rfl, hq1 77 (by decide), by rw [← hD1, ud_k (by decide), ud_k (by decide), ud_k (by decide), ud_at], by rw [← hD1, ud_k (by decide), ud_k (by decide), ud_at], hk1 10 (by decide)⟩, F1⟩
  have hD : EvM X (d + 4) 198 [.ref 70] (hS u D1 J) = some (.inl none, hS u (ud (ud D1 70 29 (nI (0 + 1))) 77 (0 + 1) 0) J) := by
    have b29 : D1 70 29 = nI 0 := h1.2.2.2.1.1
    refine (e198_0).trans ?_
    rw [b29, brF (show ¬ (6 : Int32) ≤ nI 0 by decide), nI_1, ud_at, nI_clamp (by decide)]
    exact gd_t (by decide)
  refine wp_vE hD (wp_eq (e202_18 _ _) ?_)
  have h2 := (h1.sdp (e := 0 + 1)).stf (j := 0 + 1) (v := 0)
  have hb2 : Bd t n top0 k [] [] := by
    unfold Bd
    simp only [List.length_nil]
    omega
  have o : OPn X d u fv lv 1 (ud (ud D1 70 29 (nI (0 + 1))) 77 (0 + 1) 0) J (RW u (ExP t n top0 k D J (pE (kK t n) (vV t n) mi 5 k))) := by
    refine m_E hn hby hv 5 1 rfl (Nat.le_refl _) k [] [] (upd (D 77) (0 + 1) 0) _ J _ h2 hb2 (fun x l e => by cases e) (fun _ => upd_at _ _ _) ?_
    cases hs : pE (kK t n) (vV t n) mi 5 k with
    | inl e =>
      obtain ⟨e, k'⟩ := e
      intro x3 D' J' hF
      obtain ⟨a1, a2, a3, ⟨a, b, c1, c2, c3, c4, c5⟩, a5⟩ := hF
      refine wp_eq (e202_178 _ _ _) (wp_cV (m_dropsA (d := d + 3) (top0 := top0) b a D' c1 c2 c3 c4 c5) (fun D2 hD2 => ?_))
      obtain ⟨f2, a', g1, g2, g3⟩ := hD2
      refine wp_eq (e202_181 _ _ _) (wp_vE (m_puts g1 (by omega) 0) (wp_eq (e202_184 _ _ _) (wp_rW ?_)))
      have f3 : FrQ top0 D2 (putD D2 a' 0) := put_fr g2
      exact ⟨(a5.q f2).q f3, (f3.2.1 9 (by decide) (by decide)).trans ((f2.2.1 9 (by decide) (by decide)).trans a1), a2, (f3.2.1 10 (by decide) (by decide)).trans ((f2.2.1 10 (by decide) (by decide)).trans a3)⟩
    | inr kf =>
      obtain ⟨k', f⟩ := kf
      intro G Z tf' D' J' a1 a2 a3 a4 a5 a6 a7 a8
      have b := a3.bn hn
      have a3' := a3
      unfold Bd at a3'
      simp only [List.length_append, List.length_nil, List.append_nil, List.nil_append] at b a3'
      refine hdEn hn hby a2 a3 (by decide) a6 (Or.inr (fun z hz => ?_)) ?_
      · rw [List.append_nil] at hz; exact (a5 z hz).1
      · refine wp_iE (m_good1 a2.2.1) (wp_eq (e202_170 _ _ _ _) (wp_f (by decide) ?_))
        rw [a2.2.2.2.1.1]
        refine wp_t (by decide) ?_
        refine wp_eq (e202_178 _ _ _) ?_
        refine es_drops (d := d + 3) a2 a3 hn (fun z hz => ⟨(a5 z hz).1, strN_0 z⟩) (fun x l e => by cases e) (fun D2 h2 => ?_)
        refine wp_eq (e202_181 _ _ _) (es_puts h2 (by simp only [List.length_append, List.length_nil, List.nil_append]; omega) (fun D3 h3 => ?_))
        refine wp_eq (e202_184 _ _ _) (wp_rW ⟨h3.2.2.2.2, h3.1, h3.2.1, h3.2.2.2.1.2.2.2.2, a1, G ++ Z, a4, ?_, ?_, ?_⟩)
        · have := h3.2.2.1.1.1
          rw [this]
          simp only [List.length_append, List.length_nil, List.nil_append, List.length_singleton]
          exact congrArg nI (by omega)
        · have := h3.2.2.1.1.2
          rw [List.nil_append] at this
          exact this
        · rw [List.length_append]; omega
  have h3 : Wp (EvM X (d + 4) 199 [.ref 70, .int 1] (hS u (ud (ud D1 70 29 (nI (0 + 1))) 77 (0 + 1) 0) J)) (RW u (fun D' J' => Wp (HD X d u fv lv D' J') (RW u (ExP t n top0 k D J (pE (kK t n) (vV t n) mi 5 k))))) := wp_eq (e199_0 1) (o 1)
  refine wp_cW h3 (fun D' J' h' => ?_)
  refine wp_eq (e202_21 _ _) h'
end MPART
