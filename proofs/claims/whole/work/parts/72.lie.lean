/-! ===== refusals; acts that change one number: lie, bar ===== -/
def rfS (σ : Sg) (k : Nat) : Sg := ((σ.1.1, σ.1.2.1, σ.1.2.2.1, upd σ.1.2.2.2 k (σ.1.2.2.2 k + 1)), σ.2)
def actS (σ : Sg) (c' : Cc) : Sg := (σ.1, σ.2.1, c', pushN σ.2.2.2.1 σ.2.2.1, σ.2.2.2.2)
section LIE
variable {X : XS} {d u : Nat} {D : DD} {J : JJ} {σ : Sg}
theorem SgOk.rf (h : SgOk σ) (k : Nat) : SgOk (rfS σ k) := h
theorem CI.rf {k : Nat} (h : CI σ D) (hk : k < 3) : CI (rfS σ k) (ud D 2 k (D 2 k + 1)) := by
  obtain ⟨⟨t1, t2, t3, t4⟩, a2, a3, a4, a5, a6, a7, a8, a9, a10, a11⟩ := h
  have hq : ∀ q, q ≠ 2 → ud D 2 k (D 2 k + 1) q = D q := fun q h => ud_q h
  refine ⟨⟨by rw [hq 0 (by decide)]; exact t1, fun i hi => by rw [hq 1 (by decide)]; exact t2 i hi, by rw [hq 0 (by decide)]; exact t3, fun j hj => ?_⟩, a2.mv (hq 3 (by decide)) (fun q _ _ => hq q (by omega)) (fun i _ _ => by rw [hq 5 (by decide)]), a3.mv (hq 26 (by decide)) (hq 27 (by decide)) (hq 28 (by decide)), a4.mv (fun q _ _ => hq q (by omega)), a5.mv (hq 46 (by decide)) (hq 47 (by decide)), a6.mv (hq 48 (by decide)) (hq 49 (by decide)) (hq 50 (by decide)) (hq 51 (by decide)), a7.mv (hq 52 (by decide)) (hq 53 (by decide)), a8.mv (fun q _ _ => hq q (by omega)), by rw [hq 32 (by decide)]; exact a9, by rw [hq 39 (by decide)]; exact a10, by rw [hq 56 (by decide)]; exact a11⟩
  rw [ud_row]
  show (if j = k then _ else _) = (if j = k then _ else _)
  rw [t4 j hj, t4 k hk]
theorem MI.rf {k : Nat} (h : MI σ D) (hk : k < 3) (hn : σ.2.1.1 ≤ 12) : MI (rfS σ k) (ud D 73 k (D 73 k + 1)) := by
  have hq : ∀ q, q ≠ 73 → ud D 73 k (D 73 k + 1) q = D q := fun q h => ud_q h
  obtain ⟨⟨t1, t2, t3, t4⟩, a2, a3, a4, a5, a6, a7⟩ := h
  refine ⟨⟨by rw [hq 70 (by decide)]; exact t1, fun i hi => by rw [hq 72 (by decide)]; exact t2 i hi, by rw [hq 70 (by decide)]; exact t3, fun j hj => ?_⟩, a2.mv (fun j _ _ => by rw [hq 70 (by decide)]) (hq 71 (by decide)), by rw [hq 78 (by decide)]; exact a3, by rw [hq 70 (by decide), hq 79 (by decide)]; exact a4, by rw [hq 70 (by decide), hq 89 (by decide)]; exact a5, a6.mv (fun j _ _ => by rw [hq 70 (by decide)]) (fun q _ _ => hq q (by omega)), by rw [hq 70 (by decide)]; exact a7⟩
  rw [ud_row]
  show (if j = k then _ else _) = (if j = k then _ else _)
  rw [t4 j hj, t4 k hk]
theorem c_refuse {k : Nat} (hk : k < 3) : EvM X d 112 [.ref 0, .int (nI k)] (hS u D J) = some (.inl (some (.int (-1))), hS u (ud D 2 k (D 2 k + 1)) J) := by
  refine (e112_0 (nI k)).trans ?_
  rw [nI_clamp (by omega), gd_t (ob_n hk (by decide)), gd_t (ob_n hk (by decide))]
theorem m_refuses {k : Nat} (hk : k < 3) : EvM X d 209 [.ref 70, .int (nI k)] (hS u D J) = some (.inl (some (.int (-1))), hS u (ud D 73 k (D 73 k + 1)) J) := by
  refine (e209_0 (nI k)).trans ?_
  rw [nI_clamp (by omega), gd_t (ob_n hk (by decide)), gd_t (ob_n hk (by decide))]
/-- the class, as an act begins -/
theorem c_begin (hC : CI σ D) (hl : σ.2.2.2.1.length ≤ 40) : Wp (EvM X (d + 1) 111 [.ref 0] (hS u D J)) (RV u J (fun D' => ActsC 46 (pushN σ.2.2.2.1 σ.2.2.1) D' ∧ D' 37 0 = -1 ∧ D' 52 0 = 0 ∧ ∀ q, q ≠ 37 → q ≠ 46 → q ≠ 47 → q ≠ 52 → D' q = D q)) := by
  refine wp_eq e111_0 ?_
  refine wp_cV (c_keep hC.2.2.2.2.1 hl hC.2.2.1.1) (fun D1 h1 => ?_)
  obtain ⟨g1, g2⟩ := h1
  refine wp_eq e111_6 ?_
  refine wp_vE (h := hS u (ud (ud D1 37 0 (-1)) 52 0 0) J) e103_0 ?_
  refine wp_eq e111_8 (wp_rV ⟨g1.mv (by rw [ud_q (by decide), ud_q (by decide)]) (by rw [ud_q (by decide), ud_q (by decide)]), by rw [ud_q (by decide), ud_at], by rw [ud_at], fun q q1 q2 q3 q4 => ?_⟩)
  rw [ud_q q4, ud_q q1]; exact g2 q q2 q3
/-- the class's part, behind an act -/
theorem CI.act {D' : DD} {c' : Cc} (hC : CI σ D) (hW : PewsC 25 σ.2.1 c' D') (hA : ActsC 46 (pushN σ.2.2.2.1 σ.2.2.1) D') (h37 : D' 37 0 = -1) (h52 : D' 52 0 = 0) (h5 : ∀ i, 7 ≤ i → i < 357 → D' 5 i = D 5 i) (hq : ∀ q, q < 70 → q ≠ 5 → q < 25 ∨ 30 < q → q ≠ 37 → q ≠ 46 → q ≠ 47 → q ≠ 52 → D' q = D q) : CI (actS σ c') D' := by
  obtain ⟨a1, a2, a3, a4, a5, a6, a7, a8, a9, a10, a11⟩ := hC
  have hq' : ∀ q, q < 25 ∨ 30 < q → q < 70 → q ≠ 5 → q ≠ 37 → q ≠ 46 → q ≠ 47 → q ≠ 52 → D' q = D q := fun q h1 h2 h3 h4 h5 h6 h7 => hq q h2 h3 h1 h4 h5 h6 h7
  exact ⟨a1.mv (hq' 0 (by omega) (by omega) (by omega) (by omega) (by omega) (by omega) (by omega)) (hq' 1 (by omega) (by omega) (by omega) (by omega) (by omega) (by omega) (by omega)) (hq' 2 (by omega) (by omega) (by omega) (by omega) (by omega) (by omega) (by omega)),
    a2.mv (hq' 3 (by omega) (by omega) (by omega) (by omega) (by omega) (by omega) (by omega)) (fun q _ _ => hq' q (by omega) (by omega) (by omega) (by omega) (by omega) (by omega) (by omega)) h5, hW, Or.inl h37, hA,
    a6.mv (hq' 48 (by omega) (by omega) (by omega) (by omega) (by omega) (by omega) (by omega)) (hq' 49 (by omega) (by omega) (by omega) (by omega) (by omega) (by omega) (by omega)) (hq' 50 (by omega) (by omega) (by omega) (by omega) (by omega) (by omega) (by omega)) (hq' 51 (by omega) (by omega) (by omega) (by omega) (by omega) (by omega) (by omega)), Or.inl h52,
    a8.mv (fun q _ _ => hq' q (by omega) (by omega) (by omega) (by omega) (by omega) (by omega) (by omega)), by rw [hq' 32 (by omega) (by omega) (by omega) (by omega) (by omega) (by omega) (by omega)]; exact a9, by rw [hq' 39 (by omega) (by omega) (by omega) (by omega) (by omega) (by omega) (by omega)]; exact a10, by rw [hq' 56 (by omega) (by omega) (by omega) (by omega) (by omega) (by omega) (by omega)]; exact a11⟩
/-- the reference's part, behind an act -/
theorem MI.act {D' : DD} {c' : Cc} (hM : MI σ D) (hr : RowM 0 σ.2.1 c' (D' 78)) (h36 : D' 70 36 = nI (pushN σ.2.2.2.1 σ.2.2.1).length) (hk : KeptM σ.2.1 (pushN σ.2.2.2.1 σ.2.2.1) (D' 79)) (h0 : ∀ k, k ≠ 0 → k ≠ 36 → k ≠ 40 → k ≠ 41 → k ≠ 42 → k ≠ 46 → D' 70 k = D 70 k) (hq : ∀ q, q = 71 ∨ q = 72 ∨ q = 73 ∨ q = 89 ∨ q = 92 ∨ q = 93 ∨ q = 94 → D' q = D q) : MI (actS σ c') D' := by
  obtain ⟨a1, a2, a3, a4, a5, a6, a7⟩ := hM
  have e : ∀ k, k ≠ 0 → k ≠ 36 → k < 40 ∨ k = 43 ∨ 47 ≤ k → D' 70 k = D 70 k := fun k k1 k2 k3 => h0 k k1 k2 (by omega) (by omega) (by omega) (by omega)
  exact ⟨a1.mv (e 8 (by omega) (by omega) (by omega)) (e 10 (by omega) (by omega) (by omega)) (hq 72 (by omega)) (hq 73 (by omega)), a2.mv (fun k k1 k2 => e k (by omega) (by omega) (by omega)) (hq 71 (by omega)), hr, ⟨h36, hk⟩, by rw [e 51 (by omega) (by omega) (by omega), hq 89 (by omega)]; exact a5, a6.mv (fun k k1 k2 => e k (by omega) (by omega) (by omega)) (fun q _ _ => hq q (by omega)), by rw [e 43 (by omega) (by omega) (by omega)]; exact a7⟩
theorem SgOk.act {c' : Cc} (h : SgOk σ) (hc : Good σ.2.1 c') : SgOk (actS σ c') := by
  obtain ⟨a1, a2, a3, a4, a5, a6, a7⟩ := h
  exact ⟨a1, a2, hc, ⟨(push_len a4.1).1, push_good a4.2 a3⟩, a5, a6, a7⟩
/-- one number is changed: answers and states -/
def chaA (σ : Sg) (k p : Nat) (v : Int32) (most : Nat) : Int32 × Sg := if v < 0 ∨ nI most < v ∨ v = σ.2.2.1 (k + p) then (-1, rfS σ 1) else (σ.2.2.1 (k + p), actS σ (upd σ.2.2.1 (k + p) v))
theorem Good.set {ρ : Ru} {c : Cc} {k p : Nat} {v : Int32} {most : Nat} (hn : ρ.1 ≤ 12) (h : Good ρ c) (hp : p < ρ.1) (hk : (k = 12 ∧ most = 29) ∨ (k = 60 ∧ most = 9)) (h1 : ¬ v < 0) (h2 : ¬ nI most < v) : Good ρ (upd c (k + p) v) := by
  obtain ⟨a, a1, rfl⟩ := nI_of h1
  have am : a ≤ most := Nat.not_lt.mp (fun z => h2 (nI_lt z a1))
  obtain ⟨g1, g2, g3, g4, g5⟩ := h
  refine ⟨g1.congr (fun q hq => (upd_ne (by omega)).symm), fun i hi => by rw [upd_ne (by omega)]; exact g2 i hi, fun q hq hq2 => ?_, fun q hq => ?_, fun q hq => ?_⟩
  · rw [upd_ne (by omega), upd_ne (by omega), upd_ne (by omega), upd_ne (by omega), upd_ne (by omega), upd_ne (by omega)]; exact g3 q hq hq2
  · by_cases hh : 12 + q = k + p
    · rw [hh, upd_at]; exact ⟨a, by omega, rfl⟩
    · rw [upd_ne hh]; exact g4 q hq
  · by_cases hh : 60 + q = k + p
    · rw [hh, upd_at]; exact ⟨a, by omega, rfl⟩
    · rw [upd_ne hh]; exact g5 q hq
theorem chaA_ok {k p : Nat} {v : Int32} {most : Nat} (h : SgOk σ) (hp : p < σ.2.1.1) (hk : (k = 12 ∧ most = 29) ∨ (k = 60 ∧ most = 9)) : SgOk (chaA σ k p v most).2 := by
  unfold chaA
  split
  · exact h
  · next hh =>
    have h1 : ¬ v < 0 := fun z => hh (Or.inl z)
    have h2 : ¬ nI most < v := fun z => hh (Or.inr (Or.inl z))
    exact h.act (h.2.2.1.set h.2.1.1.1 hp hk h1 h2)
theorem c_change {k p : Nat} {v : Int32} {most : Nat} (hσ : SgOk σ) (hC : CI σ D) (hp : p < σ.2.1.1) (hk : (k = 12 ∧ most = 29) ∨ (k = 60 ∧ most = 9)) : Wp (EvM X (d + 2) 118 [.ref 0, .int (nI (k + p)), .int v, .int (nI most)] (hS u D J)) (CR (chaA σ k p v most).2 D u J (.inl (chaA σ k p v most).1)) := by
  have hn := hσ.2.1.1.1
  have e26 : D 26 = σ.2.2.1 := hC.2.2.1.1
  refine wp_eq (e118_0 _ _ _) ?_
  refine oG (by omega) (by decide) ?_
  rw [nI_clamp (by omega), e26]
  have no : (v < 0 ∨ nI most < v ∨ v = σ.2.2.1 (k + p)) → Wp (bI (EvM X (d + 1) 112 [.ref 0, .int 1] (hS u D J)) (fun y h => Ev X (d + 1 + 1) 118 (17, [.ref 0, .int (nI (k + p)), .int v, .int (nI most), .int (σ.2.2.1 (k + p))], [.int y], h)) (fun e h => some (.inr e, h))) (CR (chaA σ k p v most).2 D u J (.inl (chaA σ k p v most).1)) := by
    intro hh
    have ec : chaA σ k p v most = (-1, rfS σ 1) := by unfold chaA; rw [if_pos hh]
    rw [ec]
    refine wp_iE (c_refuse (k := 1) (by decide)) ?_
    exact wp_eq (e118_17 _ _ _ _ _) (wp_cr (hC.rf (by decide)) (fun q hq => ud_q (by omega)))
  refine wp_if (fun h => no (Or.inl h)) (fun h1 => ?_)
  refine wp_if (fun h => no (Or.inr (Or.inl h))) (fun h2 => ?_)
  refine wp_if (fun h3 => ?_) (fun h3 => no (Or.inr (Or.inr (Classical.not_not.mp h3))))
  have ec : chaA σ k p v most = (σ.2.2.1 (k + p), actS σ (upd σ.2.2.1 (k + p) v)) := by
    unfold chaA
    rw [if_neg]
    rintro (z | z | z)
    · exact h1 z
    · exact h2 z
    · exact h3 z
  rw [ec]
  refine wp_cV (c_begin (d := d) hC hσ.2.2.2.1.1) (fun D1 g => ?_)
  obtain ⟨g1, g2, g3, g4⟩ := g
  refine wp_eq (e118_20 _ _ _ _) ?_
  rw [nI_clamp (by omega)]
  refine oG (by omega) (by decide) ?_
  have hq : ∀ q, q ≠ 26 → q ≠ 37 → q ≠ 46 → q ≠ 47 → q ≠ 52 → ud D1 26 (k + p) v q = D q := fun q q1 q2 q3 q4 q5 => by rw [ud_q q1]; exact g4 q q2 q3 q4 q5
  refine wp_cr (hC.act ⟨?_, ?_⟩ (g1.mv (by rw [ud_q (by decide)]) (by rw [ud_q (by decide)])) (by rw [ud_q (by decide)]; exact g2) (by rw [ud_q (by decide)]; exact g3) (fun i _ _ => by rw [hq 5 (by decide) (by decide) (by decide) (by decide) (by decide)]) (fun q q1 q2 q3 q4 q5 q6 q7 => hq q (by omega) q4 q5 q6 q7)) (fun q h => hq q (by omega) (by omega) (by omega) (by omega) (by omega))
  · rw [ud_row, g4 26 (by decide) (by decide) (by decide) (by decide), e26]
  · rw [hq 27 (by decide) (by decide) (by decide) (by decide) (by decide), hq 28 (by decide) (by decide) (by decide) (by decide) (by decide)]
    exact hC.2.2.1.2.congr (fun q hq => (upd_ne (by omega)).symm)
theorem row_set {ρ : Ru} {c : Cc} {r : Nat → Int32} {k kk p : Nat} {v : Int32} (hn : ρ.1 ≤ 12) (h : RowM 0 ρ c r) (hp : p < ρ.1) (hk : (k = 12 ∧ kk = 1) ∨ (k = 60 ∧ kk = 73)) : RowM 0 ρ (upd c (k + p) v) (upd r (kk + p) v) := by
  refine ⟨by rw [upd_ne (by omega), upd_ne (by omega)]; exact h.1, fun q hq => ?_⟩
  obtain ⟨t1, t2, t3, t4, t5, t6, t7⟩ := h.s hn hq
  refine ⟨?_, by rw [upd_ne (by omega), upd_ne (by omega)]; exact t2, fun _ => by rw [upd_ne (by omega), upd_ne (by omega)]; exact t3, by rw [upd_ne (by omega), upd_ne (by omega)]; exact t4, by rw [upd_ne (by omega), upd_ne (by omega)]; exact t5, by rw [upd_ne (by omega), upd_ne (by omega)]; exact t6, ?_⟩
  · by_cases hh : 12 + q = k + p
    · rw [hh, upd_at, show 0 + 1 + q = kk + p by omega, upd_at]
    · rw [upd_ne hh, upd_ne (by omega)]; exact t1
  · by_cases hh : 60 + q = k + p
    · rw [hh, upd_at, show 0 + 73 + q = kk + p by omega, upd_at]
    · rw [upd_ne hh, upd_ne (by omega)]; exact t7
theorem m_change {k kk p : Nat} {v : Int32} {most : Nat} (hσ : SgOk σ) (hM : MI σ D) (h0 : D 70 0 = 0) (hp : p < σ.2.1.1) (hk : (k = 12 ∧ most = 29 ∧ kk = 1) ∨ (k = 60 ∧ most = 9 ∧ kk = 73)) : Wp (EvM X (d + 1) 243 [.ref 70, .int (nI (kk + p)), .int v, .int (nI most)] (hS u D J)) (MR (chaA σ k p v most).2 D u J (chaA σ k p v most).1 0) := by
  have hn := hσ.2.1.1.1
  have hr := hM.2.2.1
  have e78 : D 78 (kk + p) = σ.2.2.1 (k + p) := by
    obtain ⟨t1, -, -, -, -, -, t7⟩ := hr.s hn hp
    rcases hk with ⟨k1, k2, k3⟩ | ⟨k1, k2, k3⟩
    · rw [k1, k3, ← t1, Nat.zero_add]
    · rw [k1, k3, ← t7, Nat.zero_add]
  refine wp_eq (e243_0 _ _ _) ?_
  refine oG (by omega) (by decide) ?_
  rw [nI_clamp (by omega), e78]
  refine wp_iE m_within ?_
  refine wp_eq (e243_9 _ _ _ _ _) ?_
  have no : (v < 0 ∨ nI most < v ∨ v = σ.2.2.1 (k + p)) → Wp (bI (EvM X d 209 [.ref 70, .int 1] (hS u D J)) (fun y h => Ev X (d + 1) 243 (16, [.ref 70, .int (nI (kk + p)), .int v, .int (nI most), .int (σ.2.2.1 (k + p))], [.int y], h)) (fun e h => some (.inr e, h))) (MR (chaA σ k p v most).2 D u J (chaA σ k p v most).1 0) := by
    intro hh
    have ec : chaA σ k p v most = (-1, rfS σ 1) := by unfold chaA; rw [if_pos hh]
    rw [ec]
    refine wp_iE (m_refuses (k := 1) (by decide)) ?_
    exact wp_eq (e243_16 _ _ _ _ _) (wp_mr (hM.rf (by decide) hn) (by rw [ud_q (by decide)]; exact h0) (fun q hq => ud_q (by omega)))
  by_cases hw : ¬ v < 0 ∧ ¬ nI most < v
  · rw [if_pos hw]
    refine wp_f (by decide) ?_
    refine wp_if (fun h3 => ?_) (fun h3 => no (Or.inr (Or.inr (Classical.not_not.mp h3).symm)))
    have ec : chaA σ k p v most = (σ.2.2.1 (k + p), actS σ (upd σ.2.2.1 (k + p) v)) := by
      unfold chaA
      rw [if_neg]
      rintro (z | z | z)
      · exact hw.1 z
      · exact hw.2 z
      · exact h3 z.symm
    rw [ec]
    refine wp_cV (m_keeps hn hM.2.2.2.1.1 hσ.2.2.2.1.1 hM.2.2.2.1.2 hr) (fun D1 g => ?_)
    obtain ⟨g1, g2, g3, g4⟩ := g
    refine wp_eq (e243_19 _ _ _ _) ?_
    rw [nI_clamp (by omega)]
    refine oG (by omega) (by decide) ?_
    refine wp_mr (hM.act ?_ (by rw [ud_q (by decide)]; exact g1) (by rw [ud_q (by decide)]; exact g2) (fun j j1 j2 _ _ _ _ => by rw [ud_q (by decide)]; exact g3 j j2) (fun q hq => by rw [ud_q (by omega)]; exact g4 q (by omega) (by omega))) (by rw [ud_q (by decide), g3 0 (by decide)]; exact h0) (fun q hq => by rw [ud_q (by omega)]; exact g4 q (by omega) (by omega))
    rw [ud_row, g4 78 (by decide) (by decide)]
    exact row_set hn hr hp (by omega)
  · rw [if_neg hw]
    refine wp_t rfl (no ?_)
    by_cases h1 : v < 0
    · exact Or.inl h1
    · exact Or.inr (Or.inl (Classical.byContradiction (fun z => hw ⟨h1, z⟩)))
/-- lie and bar: what both answer -/
noncomputable def setA (σ : Sg) (k : Nat) (x v : Int32) (most : Nat) : (Int32 ⊕ Nat) × Sg := @ite _ (isPe σ.2.1.1 x) (Classical.propDecidable _) (.inl (chaA σ k x.toNatClampNeg v most).1, (chaA σ k x.toNatClampNeg v most).2) (.inr 1, σ)
theorem setA_y {k most : Nat} {x v : Int32} (h : isPe σ.2.1.1 x) : setA σ k x v most = (.inl (chaA σ k x.toNatClampNeg v most).1, (chaA σ k x.toNatClampNeg v most).2) := by unfold setA; rw [if_pos h]
theorem setA_n {k most : Nat} {x v : Int32} (h : ¬ isPe σ.2.1.1 x) : setA σ k x v most = (.inr 1, σ) := by unfold setA; rw [if_neg h]
theorem setA_ok {k most : Nat} {x v : Int32} (hσ : SgOk σ) (hk : (k = 12 ∧ most = 29) ∨ (k = 60 ∧ most = 9)) : SgOk (setA σ k x v most).2 := by
  have hn := hσ.2.1.1.1
  by_cases h : isPe σ.2.1.1 x
  · rw [setA_y h]
    obtain ⟨p, h1, rfl⟩ := h
    rw [nI_clamp (by omega)]
    exact chaA_ok hσ h1 hk
  · rw [setA_n h]; exact hσ
theorem c_lie {x v : Int32} (hσ : SgOk σ) (hC : CI σ D) : Wp (EvM X (d + 3) 116 [.ref 0, .int x, .int v] (hS u D J)) (CR (setA σ 12 x v 29).2 D u J (setA σ 12 x v 29).1) := by
  have hn := hσ.2.1.1.1
  refine wp_eq (e116_0 _ _) ?_
  rcases c_pers (X := X) (d := d + 2) (u := u) (J := J) (x := x) (show σ.2.1.1 < 2 ^ 31 by omega) hC.2.1.1 with ⟨h1, h2⟩ | ⟨h1, h2⟩
  · rw [setA_y h1]
    refine wp_vE h2 ?_
    obtain ⟨p, p1, rfl⟩ := h1
    refine wp_eq (e116_3 _ _) ?_
    rw [nI_clamp (by omega), la]
    obtain ⟨y, q1, D', q2, q3, q4⟩ := c_change (X := X) (d := d) (u := u) (J := J) (v := v) hσ hC p1 (Or.inl ⟨rfl, rfl⟩)
    refine wp_iE (q1.trans (congrArg some q2)) ?_
    exact wp_eq (e116_10 _ _ _) (wp_cr q3 q4)
  · rw [setA_n h1]
    exact wp_vT h2 (wp_ct hC (fun _ _ => rfl))
theorem c_bar {x v : Int32} (hσ : SgOk σ) (hC : CI σ D) : Wp (EvM X (d + 3) 117 [.ref 0, .int x, .int v] (hS u D J)) (CR (setA σ 60 x v 9).2 D u J (setA σ 60 x v 9).1) := by
  have hn := hσ.2.1.1.1
  refine wp_eq (e117_0 _ _) ?_
  rcases c_pers (X := X) (d := d + 2) (u := u) (J := J) (x := x) (show σ.2.1.1 < 2 ^ 31 by omega) hC.2.1.1 with ⟨h1, h2⟩ | ⟨h1, h2⟩
  · rw [setA_y h1]
    refine wp_vE h2 ?_
    obtain ⟨p, p1, rfl⟩ := h1
    refine wp_eq (e117_3 _ _) ?_
    rw [nI_clamp (by omega), la]
    obtain ⟨y, q1, D', q2, q3, q4⟩ := c_change (X := X) (d := d) (u := u) (J := J) (v := v) hσ hC p1 (Or.inr ⟨rfl, rfl⟩)
    refine wp_iE (q1.trans (congrArg some q2)) ?_
    exact wp_eq (e117_10 _ _ _) (wp_cr q3 q4)
  · rw [setA_n h1]
    exact wp_vT h2 (wp_ct hC (fun _ _ => rfl))
/-- the reference's answer for a class's: the number, or 0 with what is thrown -/
def thA (r : Int32 ⊕ Nat) (w : Nat → Int32) : Int32 := match r with | .inl _ => 0 | .inr e => w e
def reA (r : Int32 ⊕ Nat) : Int32 := match r with | .inl x => x | .inr _ => 0
theorem m_lie {x v : Int32} (hσ : SgOk σ) (hM : MI σ D) : Wp (EvM X (d + 2) 244 [.ref 70, .int x, .int v] (hS u D J)) (MR (setA σ 12 x v 29).2 D u J (reA (setA σ 12 x v 29).1) (thA (setA σ 12 x v 29).1 nI)) := by
  have hn := hσ.2.1.1.1
  have hM0 := hM.th (v := 0) hn
  obtain ⟨r1, r2⟩ := m_pers (X := X) (d := d) (u := u) (J := J) (x := x) (D := ud D 70 0 0) (show σ.2.1.1 < 2 ^ 31 by omega) hM0.2.1.1 (ud_at D 70 0 0)
  refine wp_eq (e244_0 _ _) ?_
  by_cases h : isPe σ.2.1.1 x
  · rw [setA_y h]
    refine wp_iE (r1 h) ?_
    obtain ⟨p, p1, rfl⟩ := h
    refine wp_eq (e244_6 _ _ _) ?_
    refine wp_f (by decide) ?_
    rw [nI_clamp (by omega), la]
    obtain ⟨y, q1, D', J', q2, q3, q4, q5, q6⟩ := m_change (X := X) (d := d) (u := u) (J := J) (v := v) hσ hM0 (ud_at D 70 0 0) p1 (Or.inl ⟨rfl, rfl, rfl⟩)
    refine wp_iE (q1.trans (congrArg some q2)) ?_
    exact wp_eq (e244_14 _ _ _) ⟨_, rfl, D', J', rfl, q3, q4, q5, fun q hq => (q6 q hq).trans (ud_q (by omega))⟩
  · rw [setA_n h]
    refine wp_iE (r2 h) ?_
    refine wp_eq (e244_6 _ _ _) ?_
    refine wp_t rfl ?_
    exact wp_mr (hM0.th hn) (ud_at _ 70 0 1) (fun q hq => by rw [ud_q (by omega), ud_q (by omega)])
theorem m_bar {x v : Int32} (hσ : SgOk σ) (hM : MI σ D) : Wp (EvM X (d + 2) 245 [.ref 70, .int x, .int v] (hS u D J)) (MR (setA σ 60 x v 9).2 D u J (reA (setA σ 60 x v 9).1) (thA (setA σ 60 x v 9).1 nI)) := by
  have hn := hσ.2.1.1.1
  have hM0 := hM.th (v := 0) hn
  obtain ⟨r1, r2⟩ := m_pers (X := X) (d := d) (u := u) (J := J) (x := x) (D := ud D 70 0 0) (show σ.2.1.1 < 2 ^ 31 by omega) hM0.2.1.1 (ud_at D 70 0 0)
  refine wp_eq (e245_0 _ _) ?_
  by_cases h : isPe σ.2.1.1 x
  · rw [setA_y h]
    refine wp_iE (r1 h) ?_
    obtain ⟨p, p1, rfl⟩ := h
    refine wp_eq (e245_6 _ _ _) ?_
    refine wp_f (by decide) ?_
    rw [nI_clamp (by omega), la]
    obtain ⟨y, q1, D', J', q2, q3, q4, q5, q6⟩ := m_change (X := X) (d := d) (u := u) (J := J) (v := v) hσ hM0 (ud_at D 70 0 0) p1 (Or.inr ⟨rfl, rfl, rfl⟩)
    refine wp_iE (q1.trans (congrArg some q2)) ?_
    exact wp_eq (e245_14 _ _ _) ⟨_, rfl, D', J', rfl, q3, q4, q5, fun q hq => (q6 q hq).trans (ud_q (by omega))⟩
  · rw [setA_n h]
    refine wp_iE (r2 h) ?_
    refine wp_eq (e245_6 _ _ _) ?_
    refine wp_t rfl ?_
    exact wp_mr (hM0.th hn) (ud_at _ 70 0 1) (fun q hq => by rw [ud_q (by omega), ud_q (by omega)])
end LIE
