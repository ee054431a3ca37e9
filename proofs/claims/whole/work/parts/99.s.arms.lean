/-! ===== the law: one arm a call (printed by wip/gen/law.py) ===== -/
theorem runF_dep (X : XS) : ∀ (n d m : Nat) (s : FS) (r : Rs), runF X n d m s = some r → runF X n (d + 1) m s = some r := by
  intro n
  induction n with
  | zero => intro d m s r h; simp [runF] at h
  | succ n ih =>
    intro d m s r h
    obtain ⟨i, ls, st, hp⟩ := s
    rw [runF] at h ⊢
    cases hc : (code0 m)[i]? with
    | none => rw [hc] at h; cases h
    | some ai =>
      rw [hc] at h
      dsimp only at h ⊢
      refine ex_mono (fun s r h => ih d m s r h) ?_ _ _ h
      intro k as h0 r0 h1
      cases d with
      | zero => cases h1
      | succ d => exact ih d k _ _ h1
theorem Ev_dep {X : XS} {d m : Nat} {s : FS} {r : Rs} (h : Ev X d m s = some r) : Ev X (d + 1) m s = some r := by
  obtain ⟨n, hn⟩ := Ev_iff.mp h
  exact Ev_iff.mpr ⟨n, runF_dep X n d m s r hn⟩
theorem wp_dep {X : XS} {d m : Nat} {as : List Value} {h : Hp} {Q : Rs → Prop} (q : Wp (EvM X d m as h) Q) : Wp (EvM X (d + 1) m as h) Q := by
  obtain ⟨y, h1, h2⟩ := q
  exact ⟨y, Ev_dep h1, h2⟩
theorem MI.cls {σ : Sg} {D D' : DD} (h : MI σ D) (hn : σ.2.1.1 ≤ 12) (hq : ∀ q, 70 ≤ q → D' q = D q) : MI σ D' :=
  h.mv (fun k _ _ _ => by rw [hq 70 (by decide)]) (fun i _ => by rw [hq 78 (by decide)]) (fun q hh => hq q (by omega)) hn
theorem cmp_rfl (x : Int64) : lg_cmp x x = 0 := by
  unfold lg_cmp
  simp
def ChP (X : XS) : Prop := ∀ (σ : Sg) (d : Nat) (x : Int32), SgOk σ → PairI σ (fun u J D => EvM X (d + 52) 102 [.ref 0, .int x] (hS u D J)) (fun u J D => EvM X (d + 52) 206 [.ref 70, .int x] (hS u D J)) (fun _ => 1) xB
/-- behind a call: all is as the model says -/
def NxQ (X : XS) (u : Nat) (x4 : Int32) (Q : Rs → Prop) : Prop := ∀ (σ' : Sg) (u' : Nat) (D' : DD) (J' : JJ), SgOk σ' → u' ≤ u + 1 → CI σ' D' → MI σ' D' → Wp (Ev X 60 333 (1712, [.ref 900000, .ref 0, .ref 70, .ref 95, .int x4, .null, .null], [], hS u' D' J')) Q
def swJ (y : Int32) : Int64 := if y = 0 then Int64.ofNat 0 else Int64.ofNat 1
theorem w_sw {u : Nat} {D : DD} {J : JJ} {y : Int32} {r : Option Rs} (h : r = br (decide (y = 0)) (gd (ob 0 1) (some (.inl (some (.int 0)), hS u D (uj J 95 (0 : Int32).toNatClampNeg (Int64.ofNat 0))))) (gd (ob 0 1) (some (.inl (some (.int 0)), hS u D (uj J 95 (0 : Int32).toNatClampNeg (Int64.ofNat 1)))))) : r = some (.inl (some (.int 0)), hS u D (uj J 95 0 (swJ y))) := by
  rw [h]
  unfold swJ
  by_cases hy : y = 0
  · rw [brT hy, if_pos hy]; exact gd_t rfl
  · rw [brF hy, if_neg hy]; exact gd_t rfl
section WR
variable {σ' : Sg} {D : DD} {u : Nat} {J : JJ} {res : Int32 ⊕ Nat} {fc Ew : Option Rs} {K : Int32 → Hp → Option Rs} {T T2 : Hp → Option Rs} {g : Int32 → Int64}
theorem uj_at (J : JJ) (q k : Nat) (v : Int64) : uj J q k v q k = v := by
  unfold uj
  simp
theorem wr_A (h : Wp fc (CR σ' D u J res)) (hx : exO xA res) (he : Ew = bI fc K (fun e h => if e = 1 then T h else none)) (hK : ∀ y u D J, K y (hS u D J) = some (.inl (some (.int 0)), hS u D (uj J 95 0 (g y)))) (hT : ∀ u D J, T (hS u D J) = some (.inl (some (.int 1)), hS u D J)) : ∃ (D1 : DD) (u1 : Nat) (J1 : JJ), Ew = some (.inl (some (.int (thA res nI))), hS u1 D1 J1) ∧ CI σ' D1 ∧ (∀ q, 70 ≤ q → D1 q = D q) ∧ u1 ≤ u + 1 ∧ ∀ r, res = .inl r → J1 95 0 = g r := by
  obtain ⟨y, h1, D1, h2, h3, h4⟩ := h
  cases res with
  | inl v =>
    have h2 : y = (.inl (some (.int v)), hS u D1 J) := h2
    subst h2
    refine ⟨D1, u, uj J 95 0 (g v), ?_, h3, h4, Nat.le_succ _, fun r hr => ?_⟩
    · rw [he, h1]; exact hK v u D1 J
    · cases hr; exact uj_at _ _ _ _
  | inr e =>
    have hx : e = 1 := hx
    subst hx
    have h2 : y = (.inr 1, hS (u + 1) D1 J) := h2
    subst h2
    refine ⟨D1, u + 1, J, ?_, h3, h4, Nat.le_refl _, fun r hr => by cases hr⟩
    rw [he, h1]; exact hT (u + 1) D1 J
theorem wr_B (h : Wp fc (CR σ' D u J res)) (hx : exO xB res) (he : Ew = bI fc K (fun e h => if e = 2 then T h else none)) (hK : ∀ y u D J, K y (hS u D J) = some (.inl (some (.int 0)), hS u D (uj J 95 0 (g y)))) (hT : ∀ u D J, T (hS u D J) = some (.inl (some (.int 1)), hS u D J)) : ∃ (D1 : DD) (u1 : Nat) (J1 : JJ), Ew = some (.inl (some (.int (thA res (fun _ => 1)))), hS u1 D1 J1) ∧ CI σ' D1 ∧ (∀ q, 70 ≤ q → D1 q = D q) ∧ u1 ≤ u + 1 ∧ ∀ r, res = .inl r → J1 95 0 = g r := by
  obtain ⟨y, h1, D1, h2, h3, h4⟩ := h
  cases res with
  | inl v =>
    have h2 : y = (.inl (some (.int v)), hS u D1 J) := h2
    subst h2
    refine ⟨D1, u, uj J 95 0 (g v), ?_, h3, h4, Nat.le_succ _, fun r hr => ?_⟩
    · rw [he, h1]; exact hK v u D1 J
    · cases hr; exact uj_at _ _ _ _
  | inr e =>
    have hx : e = 2 := hx
    subst hx
    have h2 : y = (.inr 2, hS (u + 1) D1 J) := h2
    subst h2
    refine ⟨D1, u + 1, J, ?_, h3, h4, Nat.le_refl _, fun r hr => by cases hr⟩
    rw [he, h1]; exact hT (u + 1) D1 J
theorem wr_C (h : Wp fc (CR σ' D u J res)) (hx : exO xC res) (he : Ew = bI fc K (fun e h => if e = 1 then T h else if e = 2 then T2 h else none)) (hK : ∀ y u D J, K y (hS u D J) = some (.inl (some (.int 0)), hS u D (uj J 95 0 (g y)))) (hT : ∀ u D J, T (hS u D J) = some (.inl (some (.int 1)), hS u D J)) (hT2 : ∀ u D J, T2 (hS u D J) = some (.inl (some (.int 2)), hS u D J)) : ∃ (D1 : DD) (u1 : Nat) (J1 : JJ), Ew = some (.inl (some (.int (thA res nI))), hS u1 D1 J1) ∧ CI σ' D1 ∧ (∀ q, 70 ≤ q → D1 q = D q) ∧ u1 ≤ u + 1 ∧ ∀ r, res = .inl r → J1 95 0 = g r := by
  obtain ⟨y, h1, D1, h2, h3, h4⟩ := h
  cases res with
  | inl v =>
    have h2 : y = (.inl (some (.int v)), hS u D1 J) := h2
    subst h2
    refine ⟨D1, u, uj J 95 0 (g v), ?_, h3, h4, Nat.le_succ _, fun r hr => ?_⟩
    · rw [he, h1]; exact hK v u D1 J
    · cases hr; exact uj_at _ _ _ _
  | inr e =>
    have h2 : y = (.inr e, hS (u + 1) D1 J) := h2
    subst h2
    refine ⟨D1, u + 1, J, ?_, h3, h4, Nat.le_refl _, fun r hr => by cases hr⟩
    have hx : e = 1 ∨ e = 2 := hx
    rcases hx with rfl | rfl
    · rw [he, h1]; exact hT (u + 1) D1 J
    · rw [he, h1]; exact hT2 (u + 1) D1 J
end WR
theorem arm_0 {X : XS} {u : Nat} {D : DD} {J : JJ} {σ : Sg} {x4 : Int32} {Q : Rs → Prop} (hσ : SgOk σ) (hC : CI σ D) (hM : MI σ D) (o1 : ob (x4 + 1) X.2 = true) (o2 : ob (x4 + 2) X.2 = true) (o3 : ob (x4 + 3) X.2 = true) (o4 : ob (x4 + 4) X.2 = true) (o5 : ob (x4 + 5) X.2 = true) (hQ : NxQ X u x4 Q) : Wp (Ev X 60 333 (25, [.ref 900000, .ref 0, .ref 70, .ref 95, .int x4, .null, .null], [], hS u D J)) Q := by
  have hn := hσ.2.1.1.1
  obtain ⟨res, σ', g1, g2, g3, g4⟩ := p_feed (X := X) (d := 9) (x1 := X.1 (x4 + 1).toNatClampNeg) (x2 := X.1 (x4 + 2).toNatClampNeg) (x3 := X.1 (x4 + 3).toNatClampNeg) (x4 := X.1 (x4 + 4).toNatClampNeg) (x5 := X.1 (x4 + 5).toNatClampNeg) hσ
  cases res with
  | inr e => exact absurd g4 (fun z => z)
  | inl v =>
    obtain ⟨Y, hY, D1, rfl, k1, k2⟩ := g2 u J D hC
    refine wp_eq (e333_25 _) (wp_gd o1 (wp_gd o2 (wp_gd o3 (wp_gd o4 (wp_gd o5 (wp_iE hY ?_))))))
    obtain ⟨Y, hY, D2, J2, rfl, a1, a2, a3, a4⟩ := g3 u J D1 (hM.cls hn k2)
    refine wp_eq (e333_52 _ _) (wp_gd o1 (wp_gd o2 (wp_gd o3 (wp_gd o4 (wp_gd o5 (wp_iE hY ?_))))))
    exact wp_eq (e333_79 _ _ _) (wp_t rfl (hQ σ' u D2 J2 g1 (Nat.le_succ _) (k1.mv (fun q hq => a4 q hq)) a2))
theorem arm_1 {X : XS} {u : Nat} {D : DD} {J : JJ} {σ : Sg} {x4 : Int32} {Q : Rs → Prop} (hch : ChP X) (hσ : SgOk σ) (hC : CI σ D) (hM : MI σ D) (o1 : ob (x4 + 1) X.2 = true) (o2 : ob (x4 + 2) X.2 = true) (o3 : ob (x4 + 3) X.2 = true) (o4 : ob (x4 + 4) X.2 = true) (o5 : ob (x4 + 5) X.2 = true) (hQ : NxQ X u x4 Q) : Wp (Ev X 60 333 (82, [.ref 900000, .ref 0, .ref 70, .ref 95, .int x4, .null, .null], [], hS u D J)) Q := by
  have hn := hσ.2.1.1.1
  obtain ⟨res, σ', g1, g2, g3, g4⟩ := hch σ 6 (X.1 (x4 + 1).toNatClampNeg) hσ
  obtain ⟨D1, u1, J1, r, k1, k2, k3, k4⟩ := wr_B (g := Int32.toInt64) (g2 u J D hC) g4 (e295_0 _) (fun y u D J => (e295_5 _ y 0).trans (gd_t rfl)) (fun u D J => e295_9 _)
  refine wp_eq (e333_82 _) (wp_gd o1 (wp_iE r ?_))
  refine wp_eq (e333_90 _ _) (wp_eq (e333_91 _ _) (wp_gd o1 ?_))
  obtain ⟨Y, hY, D2, J2, rfl, a1, a2, a3, a4⟩ := wp_dep (g3 u1 J1 D1 (hM.cls hn k2))
  refine wp_iE hY ?_
  refine wp_eq (e333_98 _ _ _) (wp_eq (e333_99 _ _ _) (wp_iE e171_0 ?_))
  rw [a3]
  have hN := hQ σ' u1 D2 J2 g1 k3 (k1.mv (fun q hq => a4 q hq)) a2
  refine wp_eq (e333_101 _ _ _ _) (wp_t rfl ?_)
  cases res with
  | inl v =>
    refine wp_f (fun z => z rfl) ?_
    have e95 : J2 95 0 = Int32.toInt64 v := by rw [a1]; exact k4 v rfl
    rw [e95]
    exact wp_t (cmp_rfl _) (wp_weak (by simp [lle, lng]) hN)
  | inr e => exact wp_t (show ¬ (1 : Int32) = 0 by decide) (wp_weak (by simp [lle, lng]) hN)
theorem arm_2 {X : XS} {u : Nat} {D : DD} {J : JJ} {σ : Sg} {x4 : Int32} {Q : Rs → Prop} (hσ : SgOk σ) (hC : CI σ D) (hM : MI σ D) (o1 : ob (x4 + 1) X.2 = true) (o2 : ob (x4 + 2) X.2 = true) (o3 : ob (x4 + 3) X.2 = true) (o4 : ob (x4 + 4) X.2 = true) (o5 : ob (x4 + 5) X.2 = true) (hQ : NxQ X u x4 Q) : Wp (Ev X 60 333 (117, [.ref 900000, .ref 0, .ref 70, .ref 95, .int x4, .null, .null], [], hS u D J)) Q := by
  have hn := hσ.2.1.1.1
  obtain ⟨res, σ', g1, g2, g3, g4⟩ := p_fault (X := X) (d := 9)  hσ
  cases res with
  | inr e => exact absurd g4 (fun z => z)
  | inl v =>
    obtain ⟨Y, hY, D1, rfl, k1, k2⟩ := g2 u J D hC
    refine wp_eq (e333_117 _) (wp_iE hY ?_)
    obtain ⟨Y, hY, D2, J2, rfl, a1, a2, a3, a4⟩ := g3 u J D1 (hM.cls hn k2)
    refine wp_eq (e333_119 _ _) (wp_iE hY ?_)
    exact wp_eq (e333_121 _ _ _) (wp_t rfl (hQ σ' u D2 J2 g1 (Nat.le_succ _) (k1.mv (fun q hq => a4 q hq)) a2))
theorem arm_3 {X : XS} {u : Nat} {D : DD} {J : JJ} {σ : Sg} {x4 : Int32} {Q : Rs → Prop} (hσ : SgOk σ) (hC : CI σ D) (hM : MI σ D) (o1 : ob (x4 + 1) X.2 = true) (o2 : ob (x4 + 2) X.2 = true) (o3 : ob (x4 + 3) X.2 = true) (o4 : ob (x4 + 4) X.2 = true) (o5 : ob (x4 + 5) X.2 = true) (hQ : NxQ X u x4 Q) : Wp (Ev X 60 333 (124, [.ref 900000, .ref 0, .ref 70, .ref 95, .int x4, .null, .null], [], hS u D J)) Q := by
  have hn := hσ.2.1.1.1
  obtain ⟨res, σ', g1, g2, g3, g4⟩ := p_count (X := X) (d := 8) (x := X.1 (x4 + 1).toNatClampNeg) hσ
  obtain ⟨D1, u1, J1, r, k1, k2, k3, k4⟩ := wr_A (g := Int32.toInt64) (g2 u J D hC) g4 (e296_0 _) (fun y u D J => (e296_5 _ y 0).trans (gd_t rfl)) (fun u D J => e296_9 _)
  refine wp_eq (e333_124 _) (wp_gd o1 (wp_iE r ?_))
  refine wp_eq (e333_132 _ _) (wp_eq (e333_133 _ _) (wp_gd o1 ?_))
  obtain ⟨Y, hY, D2, J2, rfl, a1, a2, a3, a4⟩ := wp_dep (g3 u1 J1 D1 (hM.cls hn k2))
  refine wp_iE hY ?_
  refine wp_eq (e333_140 _ _ _) (wp_eq (e333_141 _ _ _) (wp_iE e171_0 ?_))
  rw [a3]
  have hN := hQ σ' u1 D2 J2 g1 k3 (k1.mv (fun q hq => a4 q hq)) a2
  refine wp_eq (e333_143 _ _ _ _) (wp_t rfl ?_)
  cases res with
  | inl v =>
    refine wp_f (fun z => z rfl) ?_
    have e95 : J2 95 0 = Int32.toInt64 v := by rw [a1]; exact k4 v rfl
    rw [e95]
    exact wp_t (cmp_rfl _) (wp_weak (by simp [lle, lng]) hN)
  | inr e =>
    have he : e = 1 := g4
    subst he
    exact wp_t (by decide) (wp_weak (by simp [lle, lng]) hN)
theorem arm_4 {X : XS} {u : Nat} {D : DD} {J : JJ} {σ : Sg} {x4 : Int32} {Q : Rs → Prop} (hσ : SgOk σ) (hC : CI σ D) (hM : MI σ D) (o1 : ob (x4 + 1) X.2 = true) (o2 : ob (x4 + 2) X.2 = true) (o3 : ob (x4 + 3) X.2 = true) (o4 : ob (x4 + 4) X.2 = true) (o5 : ob (x4 + 5) X.2 = true) (hQ : NxQ X u x4 Q) : Wp (Ev X 60 333 (159, [.ref 900000, .ref 0, .ref 70, .ref 95, .int x4, .null, .null], [], hS u D J)) Q := by
  have hn := hσ.2.1.1.1
  obtain ⟨res, σ', g1, g2, g3, g4⟩ := p_person (X := X) (d := 8) (x := X.1 (x4 + 1).toNatClampNeg) (y := X.1 (x4 + 2).toNatClampNeg) hσ
  obtain ⟨D1, u1, J1, r, k1, k2, k3, k4⟩ := wr_A (g := Int32.toInt64) (g2 u J D hC) g4 (e297_0 _ _) (fun y u D J => (e297_6 _ _ y 0).trans (gd_t rfl)) (fun u D J => e297_10 _ _)
  refine wp_eq (e333_159 _) (wp_gd o1 (wp_gd o2 (wp_iE r ?_)))
  refine wp_eq (e333_172 _ _) (wp_eq (e333_173 _ _) (wp_gd o1 (wp_gd o2 ?_)))
  obtain ⟨Y, hY, D2, J2, rfl, a1, a2, a3, a4⟩ := wp_dep (g3 u1 J1 D1 (hM.cls hn k2))
  refine wp_iE hY ?_
  refine wp_eq (e333_185 _ _ _) (wp_eq (e333_186 _ _ _) (wp_iE e171_0 ?_))
  rw [a3]
  have hN := hQ σ' u1 D2 J2 g1 k3 (k1.mv (fun q hq => a4 q hq)) a2
  refine wp_eq (e333_188 _ _ _ _) (wp_t rfl ?_)
  cases res with
  | inl v =>
    refine wp_f (fun z => z rfl) ?_
    have e95 : J2 95 0 = Int32.toInt64 v := by rw [a1]; exact k4 v rfl
    rw [e95]
    exact wp_t (cmp_rfl _) (wp_weak (by simp [lle, lng]) hN)
  | inr e =>
    have he : e = 1 := g4
    subst he
    exact wp_t (by decide) (wp_weak (by simp [lle, lng]) hN)
theorem arm_5 {X : XS} {u : Nat} {D : DD} {J : JJ} {σ : Sg} {x4 : Int32} {Q : Rs → Prop} (hσ : SgOk σ) (hC : CI σ D) (hM : MI σ D) (o1 : ob (x4 + 1) X.2 = true) (o2 : ob (x4 + 2) X.2 = true) (o3 : ob (x4 + 3) X.2 = true) (o4 : ob (x4 + 4) X.2 = true) (o5 : ob (x4 + 5) X.2 = true) (hQ : NxQ X u x4 Q) : Wp (Ev X 60 333 (204, [.ref 900000, .ref 0, .ref 70, .ref 95, .int x4, .null, .null], [], hS u D J)) Q := by
  have hn := hσ.2.1.1.1
  obtain ⟨res, σ', g1, g2, g3, g4⟩ := p_pew (X := X) (d := 8) (x := X.1 (x4 + 1).toNatClampNeg) (y := X.1 (x4 + 2).toNatClampNeg) hσ
  obtain ⟨D1, u1, J1, r, k1, k2, k3, k4⟩ := wr_A (g := Int32.toInt64) (g2 u J D hC) g4 (e298_0 _ _) (fun y u D J => (e298_6 _ _ y 0).trans (gd_t rfl)) (fun u D J => e298_10 _ _)
  refine wp_eq (e333_204 _) (wp_gd o1 (wp_gd o2 (wp_iE r ?_)))
  refine wp_eq (e333_217 _ _) (wp_eq (e333_218 _ _) (wp_gd o1 (wp_gd o2 ?_)))
  obtain ⟨Y, hY, D2, J2, rfl, a1, a2, a3, a4⟩ := wp_dep (g3 u1 J1 D1 (hM.cls hn k2))
  refine wp_iE hY ?_
  refine wp_eq (e333_230 _ _ _) (wp_eq (e333_231 _ _ _) (wp_iE e171_0 ?_))
  rw [a3]
  have hN := hQ σ' u1 D2 J2 g1 k3 (k1.mv (fun q hq => a4 q hq)) a2
  refine wp_eq (e333_233 _ _ _ _) (wp_t rfl ?_)
  cases res with
  | inl v =>
    refine wp_f (fun z => z rfl) ?_
    have e95 : J2 95 0 = Int32.toInt64 v := by rw [a1]; exact k4 v rfl
    rw [e95]
    exact wp_t (cmp_rfl _) (wp_weak (by simp [lle, lng]) hN)
  | inr e =>
    have he : e = 1 := g4
    subst he
    exact wp_t (by decide) (wp_weak (by simp [lle, lng]) hN)
theorem arm_6 {X : XS} {u : Nat} {D : DD} {J : JJ} {σ : Sg} {x4 : Int32} {Q : Rs → Prop} (hσ : SgOk σ) (hC : CI σ D) (hM : MI σ D) (o1 : ob (x4 + 1) X.2 = true) (o2 : ob (x4 + 2) X.2 = true) (o3 : ob (x4 + 3) X.2 = true) (o4 : ob (x4 + 4) X.2 = true) (o5 : ob (x4 + 5) X.2 = true) (hQ : NxQ X u x4 Q) : Wp (Ev X 60 333 (249, [.ref 900000, .ref 0, .ref 70, .ref 95, .int x4, .null, .null], [], hS u D J)) Q := by
  have hn := hσ.2.1.1.1
  obtain ⟨res, σ', g1, g2, g3, g4⟩ := p_sundays (X := X) (d := 9) (x := X.1 (x4 + 1).toNatClampNeg) hσ
  cases res with
  | inr e => exact absurd g4 (fun z => z)
  | inl v =>
    obtain ⟨Y, hY, D1, rfl, k1, k2⟩ := g2 u J D hC
    refine wp_eq (e333_249 _) (wp_gd o1 (wp_iE hY ?_))
    obtain ⟨Y, hY, D2, J2, rfl, a1, a2, a3, a4⟩ := g3 u J D1 (hM.cls hn k2)
    refine wp_eq (e333_256 _ _) (wp_gd o1 (wp_iE hY ?_))
    exact wp_eq (e333_263 _ _ _) (wp_t rfl (hQ σ' u D2 J2 g1 (Nat.le_succ _) (k1.mv (fun q hq => a4 q hq)) a2))
theorem arm_7 {X : XS} {u : Nat} {D : DD} {J : JJ} {σ : Sg} {x4 : Int32} {Q : Rs → Prop} (hσ : SgOk σ) (hC : CI σ D) (hM : MI σ D) (o1 : ob (x4 + 1) X.2 = true) (o2 : ob (x4 + 2) X.2 = true) (o3 : ob (x4 + 3) X.2 = true) (o4 : ob (x4 + 4) X.2 = true) (o5 : ob (x4 + 5) X.2 = true) (hQ : NxQ X u x4 Q) : Wp (Ev X 60 333 (266, [.ref 900000, .ref 0, .ref 70, .ref 95, .int x4, .null, .null], [], hS u D J)) Q := by
  have hn := hσ.2.1.1.1
  obtain ⟨res, σ', g1, g2, g3, g4⟩ := p_come (X := X) (d := 8) (x := X.1 (x4 + 1).toNatClampNeg) hσ
  obtain ⟨D1, u1, J1, r, k1, k2, k3, k4⟩ := wr_A (g := Int32.toInt64) (g2 u J D hC) g4 (e299_0 _) (fun y u D J => (e299_5 _ y 0).trans (gd_t rfl)) (fun u D J => e299_9 _)
  refine wp_eq (e333_266 _) (wp_gd o1 (wp_iE r ?_))
  refine wp_eq (e333_274 _ _) (wp_eq (e333_275 _ _) (wp_gd o1 ?_))
  obtain ⟨Y, hY, D2, J2, rfl, a1, a2, a3, a4⟩ := wp_dep (g3 u1 J1 D1 (hM.cls hn k2))
  refine wp_iE hY ?_
  refine wp_eq (e333_282 _ _ _) (wp_eq (e333_283 _ _ _) (wp_iE e171_0 ?_))
  rw [a3]
  have hN := hQ σ' u1 D2 J2 g1 k3 (k1.mv (fun q hq => a4 q hq)) a2
  refine wp_eq (e333_285 _ _ _ _) (wp_t rfl ?_)
  cases res with
  | inl v =>
    refine wp_f (fun z => z rfl) ?_
    have e95 : J2 95 0 = Int32.toInt64 v := by rw [a1]; exact k4 v rfl
    rw [e95]
    exact wp_t (cmp_rfl _) (wp_weak (by simp [lle, lng]) hN)
  | inr e =>
    have he : e = 1 := g4
    subst he
    exact wp_t (by decide) (wp_weak (by simp [lle, lng]) hN)
theorem arm_8 {X : XS} {u : Nat} {D : DD} {J : JJ} {σ : Sg} {x4 : Int32} {Q : Rs → Prop} (hσ : SgOk σ) (hC : CI σ D) (hM : MI σ D) (o1 : ob (x4 + 1) X.2 = true) (o2 : ob (x4 + 2) X.2 = true) (o3 : ob (x4 + 3) X.2 = true) (o4 : ob (x4 + 4) X.2 = true) (o5 : ob (x4 + 5) X.2 = true) (hQ : NxQ X u x4 Q) : Wp (Ev X 60 333 (301, [.ref 900000, .ref 0, .ref 70, .ref 95, .int x4, .null, .null], [], hS u D J)) Q := by
  have hn := hσ.2.1.1.1
  obtain ⟨res, σ', g1, g2, g3, g4⟩ := p_leave (X := X) (d := 8) (x := X.1 (x4 + 1).toNatClampNeg) hσ
  obtain ⟨D1, u1, J1, r, k1, k2, k3, k4⟩ := wr_A (g := Int32.toInt64) (g2 u J D hC) g4 (e300_0 _) (fun y u D J => (e300_5 _ y 0).trans (gd_t rfl)) (fun u D J => e300_9 _)
  refine wp_eq (e333_301 _) (wp_gd o1 (wp_iE r ?_))
  refine wp_eq (e333_309 _ _) (wp_eq (e333_310 _ _) (wp_gd o1 ?_))
  obtain ⟨Y, hY, D2, J2, rfl, a1, a2, a3, a4⟩ := wp_dep (g3 u1 J1 D1 (hM.cls hn k2))
  refine wp_iE hY ?_
  refine wp_eq (e333_317 _ _ _) (wp_eq (e333_318 _ _ _) (wp_iE e171_0 ?_))
  rw [a3]
  have hN := hQ σ' u1 D2 J2 g1 k3 (k1.mv (fun q hq => a4 q hq)) a2
  refine wp_eq (e333_320 _ _ _ _) (wp_t rfl ?_)
  cases res with
  | inl v =>
    refine wp_f (fun z => z rfl) ?_
    have e95 : J2 95 0 = Int32.toInt64 v := by rw [a1]; exact k4 v rfl
    rw [e95]
    exact wp_t (cmp_rfl _) (wp_weak (by simp [lle, lng]) hN)
  | inr e =>
    have he : e = 1 := g4
    subst he
    exact wp_t (by decide) (wp_weak (by simp [lle, lng]) hN)
theorem arm_9 {X : XS} {u : Nat} {D : DD} {J : JJ} {σ : Sg} {x4 : Int32} {Q : Rs → Prop} (hσ : SgOk σ) (hC : CI σ D) (hM : MI σ D) (o1 : ob (x4 + 1) X.2 = true) (o2 : ob (x4 + 2) X.2 = true) (o3 : ob (x4 + 3) X.2 = true) (o4 : ob (x4 + 4) X.2 = true) (o5 : ob (x4 + 5) X.2 = true) (hQ : NxQ X u x4 Q) : Wp (Ev X 60 333 (336, [.ref 900000, .ref 0, .ref 70, .ref 95, .int x4, .null, .null], [], hS u D J)) Q := by
  have hn := hσ.2.1.1.1
  obtain ⟨res, σ', g1, g2, g3, g4⟩ := p_swap (X := X) (d := 8) (x := X.1 (x4 + 1).toNatClampNeg) (y := X.1 (x4 + 2).toNatClampNeg) hσ
  obtain ⟨D1, u1, J1, r, k1, k2, k3, k4⟩ := wr_A (g := swJ) (g2 u J D hC) g4 (e301_0 _ _) (fun y u D J => w_sw (e301_6 _ _ y 0)) (fun u D J => e301_13 _ _)
  refine wp_eq (e333_336 _) (wp_gd o1 (wp_gd o2 (wp_iE r ?_)))
  refine wp_eq (e333_349 _ _) (wp_eq (e333_350 _ _) (wp_gd o1 (wp_gd o2 ?_)))
  obtain ⟨Y, hY, D2, J2, rfl, a1, a2, a3, a4⟩ := wp_dep (g3 u1 J1 D1 (hM.cls hn k2))
  refine wp_iE hY ?_
  refine wp_eq (e333_362 _ _ _) (wp_eq (e333_363 _ _ _) (wp_iE e171_0 ?_))
  rw [a3]
  have hN := hQ σ' u1 D2 J2 g1 k3 (k1.mv (fun q hq => a4 q hq)) a2
  refine wp_eq (e333_365 _ _ _ _) (wp_t rfl ?_)
  cases res with
  | inl v =>
    refine wp_f (fun z => z rfl) ?_
    have e95 : J2 95 0 = swJ v := by rw [a1]; exact k4 v rfl
    show Wp (br (decide (v = 0)) _ _) Q
    rw [e95]
    unfold swJ
    refine wp_if (fun h => ?_) (fun h => ?_)
    · rw [if_pos h]
      exact wp_t (cmp_rfl _) (wp_weak (by simp [lle, lng]) hN)
    · rw [if_neg h]
      exact wp_t (cmp_rfl _) (wp_weak (by simp [lle, lng]) hN)
  | inr e =>
    have he : e = 1 := g4
    subst he
    exact wp_t (by decide) (wp_weak (by simp [lle, lng]) hN)
theorem arm_10 {X : XS} {u : Nat} {D : DD} {J : JJ} {σ : Sg} {x4 : Int32} {Q : Rs → Prop} (hσ : SgOk σ) (hC : CI σ D) (hM : MI σ D) (o1 : ob (x4 + 1) X.2 = true) (o2 : ob (x4 + 2) X.2 = true) (o3 : ob (x4 + 3) X.2 = true) (o4 : ob (x4 + 4) X.2 = true) (o5 : ob (x4 + 5) X.2 = true) (hQ : NxQ X u x4 Q) : Wp (Ev X 60 333 (384, [.ref 900000, .ref 0, .ref 70, .ref 95, .int x4, .null, .null], [], hS u D J)) Q := by
  have hn := hσ.2.1.1.1
  obtain ⟨res, σ', g1, g2, g3, g4⟩ := p_lie (X := X) (d := 8) (x := X.1 (x4 + 1).toNatClampNeg) (v := X.1 (x4 + 2).toNatClampNeg) hσ
  obtain ⟨D1, u1, J1, r, k1, k2, k3, k4⟩ := wr_A (g := Int32.toInt64) (g2 u J D hC) g4 (e302_0 _ _) (fun y u D J => (e302_6 _ _ y 0).trans (gd_t rfl)) (fun u D J => e302_10 _ _)
  refine wp_eq (e333_384 _) (wp_gd o1 (wp_gd o2 (wp_iE r ?_)))
  refine wp_eq (e333_397 _ _) (wp_eq (e333_398 _ _) (wp_gd o1 (wp_gd o2 ?_)))
  obtain ⟨Y, hY, D2, J2, rfl, a1, a2, a3, a4⟩ := wp_dep (g3 u1 J1 D1 (hM.cls hn k2))
  refine wp_iE hY ?_
  refine wp_eq (e333_410 _ _ _) (wp_eq (e333_411 _ _ _) (wp_iE e171_0 ?_))
  rw [a3]
  have hN := hQ σ' u1 D2 J2 g1 k3 (k1.mv (fun q hq => a4 q hq)) a2
  refine wp_eq (e333_413 _ _ _ _) (wp_t rfl ?_)
  cases res with
  | inl v =>
    refine wp_f (fun z => z rfl) ?_
    have e95 : J2 95 0 = Int32.toInt64 v := by rw [a1]; exact k4 v rfl
    rw [e95]
    exact wp_t (cmp_rfl _) (wp_weak (by simp [lle, lng]) hN)
  | inr e =>
    have he : e = 1 := g4
    subst he
    exact wp_t (by decide) (wp_weak (by simp [lle, lng]) hN)
theorem arm_11 {X : XS} {u : Nat} {D : DD} {J : JJ} {σ : Sg} {x4 : Int32} {Q : Rs → Prop} (hσ : SgOk σ) (hC : CI σ D) (hM : MI σ D) (o1 : ob (x4 + 1) X.2 = true) (o2 : ob (x4 + 2) X.2 = true) (o3 : ob (x4 + 3) X.2 = true) (o4 : ob (x4 + 4) X.2 = true) (o5 : ob (x4 + 5) X.2 = true) (hQ : NxQ X u x4 Q) : Wp (Ev X 60 333 (429, [.ref 900000, .ref 0, .ref 70, .ref 95, .int x4, .null, .null], [], hS u D J)) Q := by
  have hn := hσ.2.1.1.1
  obtain ⟨res, σ', g1, g2, g3, g4⟩ := p_bar (X := X) (d := 8) (x := X.1 (x4 + 1).toNatClampNeg) (v := X.1 (x4 + 2).toNatClampNeg) hσ
  obtain ⟨D1, u1, J1, r, k1, k2, k3, k4⟩ := wr_A (g := Int32.toInt64) (g2 u J D hC) g4 (e303_0 _ _) (fun y u D J => (e303_6 _ _ y 0).trans (gd_t rfl)) (fun u D J => e303_10 _ _)
  refine wp_eq (e333_429 _) (wp_gd o1 (wp_gd o2 (wp_iE r ?_)))
  refine wp_eq (e333_442 _ _) (wp_eq (e333_443 _ _) (wp_gd o1 (wp_gd o2 ?_)))
  obtain ⟨Y, hY, D2, J2, rfl, a1, a2, a3, a4⟩ := wp_dep (g3 u1 J1 D1 (hM.cls hn k2))
  refine wp_iE hY ?_
  refine wp_eq (e333_455 _ _ _) (wp_eq (e333_456 _ _ _) (wp_iE e171_0 ?_))
  rw [a3]
  have hN := hQ σ' u1 D2 J2 g1 k3 (k1.mv (fun q hq => a4 q hq)) a2
  refine wp_eq (e333_458 _ _ _ _) (wp_t rfl ?_)
  cases res with
  | inl v =>
    refine wp_f (fun z => z rfl) ?_
    have e95 : J2 95 0 = Int32.toInt64 v := by rw [a1]; exact k4 v rfl
    rw [e95]
    exact wp_t (cmp_rfl _) (wp_weak (by simp [lle, lng]) hN)
  | inr e =>
    have he : e = 1 := g4
    subst he
    exact wp_t (by decide) (wp_weak (by simp [lle, lng]) hN)
theorem arm_12 {X : XS} {u : Nat} {D : DD} {J : JJ} {σ : Sg} {x4 : Int32} {Q : Rs → Prop} (hσ : SgOk σ) (hC : CI σ D) (hM : MI σ D) (o1 : ob (x4 + 1) X.2 = true) (o2 : ob (x4 + 2) X.2 = true) (o3 : ob (x4 + 3) X.2 = true) (o4 : ob (x4 + 4) X.2 = true) (o5 : ob (x4 + 5) X.2 = true) (hQ : NxQ X u x4 Q) : Wp (Ev X 60 333 (474, [.ref 900000, .ref 0, .ref 70, .ref 95, .int x4, .null, .null], [], hS u D J)) Q := by
  have hn := hσ.2.1.1.1
  obtain ⟨res, σ', g1, g2, g3, g4⟩ := p_undo (X := X) (d := 9)  hσ
  cases res with
  | inr e => exact absurd g4 (fun z => z)
  | inl v =>
    obtain ⟨Y, hY, D1, rfl, k1, k2⟩ := g2 u J D hC
    refine wp_eq (e333_474 _) (wp_iE hY ?_)
    obtain ⟨Y, hY, D2, J2, rfl, a1, a2, a3, a4⟩ := g3 u J D1 (hM.cls hn k2)
    refine wp_eq (e333_476 _ _) (wp_iE hY ?_)
    exact wp_eq (e333_478 _ _ _) (wp_t rfl (hQ σ' u D2 J2 g1 (Nat.le_succ _) (k1.mv (fun q hq => a4 q hq)) a2))
theorem arm_13 {X : XS} {u : Nat} {D : DD} {J : JJ} {σ : Sg} {x4 : Int32} {Q : Rs → Prop} (hσ : SgOk σ) (hC : CI σ D) (hM : MI σ D) (o1 : ob (x4 + 1) X.2 = true) (o2 : ob (x4 + 2) X.2 = true) (o3 : ob (x4 + 3) X.2 = true) (o4 : ob (x4 + 4) X.2 = true) (o5 : ob (x4 + 5) X.2 = true) (hQ : NxQ X u x4 Q) : Wp (Ev X 60 333 (481, [.ref 900000, .ref 0, .ref 70, .ref 95, .int x4, .null, .null], [], hS u D J)) Q := by
  have hn := hσ.2.1.1.1
  obtain ⟨res, σ', g1, g2, g3, g4⟩ := p_then (X := X) (d := 8) (x := X.1 (x4 + 1).toNatClampNeg) (y := X.1 (x4 + 2).toNatClampNeg) (z := X.1 (x4 + 3).toNatClampNeg) hσ
  obtain ⟨D1, u1, J1, r, k1, k2, k3, k4⟩ := wr_C (g := Int32.toInt64) (g2 u J D hC) g4 (e304_0 _ _ _) (fun y u D J => (e304_7 _ _ _ y 0).trans (gd_t rfl)) (fun u D J => e304_11 _ _ _) (fun u D J => e304_14 _ _ _)
  refine wp_eq (e333_481 _) (wp_gd o1 (wp_gd o2 (wp_gd o3 (wp_iE r ?_))))
  refine wp_eq (e333_499 _ _) (wp_eq (e333_500 _ _) (wp_gd o1 (wp_gd o2 (wp_gd o3 ?_))))
  obtain ⟨Y, hY, D2, J2, rfl, a1, a2, a3, a4⟩ := wp_dep (g3 u1 J1 D1 (hM.cls hn k2))
  refine wp_iE hY ?_
  refine wp_eq (e333_517 _ _ _) (wp_eq (e333_518 _ _ _) (wp_iE e171_0 ?_))
  rw [a3]
  have hN := hQ σ' u1 D2 J2 g1 k3 (k1.mv (fun q hq => a4 q hq)) a2
  refine wp_eq (e333_520 _ _ _ _) (wp_t rfl ?_)
  cases res with
  | inl v =>
    refine wp_f (fun z => z rfl) ?_
    have e95 : J2 95 0 = Int32.toInt64 v := by rw [a1]; exact k4 v rfl
    rw [e95]
    exact wp_t (cmp_rfl _) (wp_weak (by simp [lle, lng]) hN)
  | inr e =>
    have he : e = 1 ∨ e = 2 := g4
    rcases he with rfl | rfl
    · exact wp_t (by decide) (wp_weak (by simp [lle, lng]) hN)
    · exact wp_t (by decide) (wp_weak (by simp [lle, lng]) hN)
theorem arm_14 {X : XS} {u : Nat} {D : DD} {J : JJ} {σ : Sg} {x4 : Int32} {Q : Rs → Prop} (hσ : SgOk σ) (hC : CI σ D) (hM : MI σ D) (o1 : ob (x4 + 1) X.2 = true) (o2 : ob (x4 + 2) X.2 = true) (o3 : ob (x4 + 3) X.2 = true) (o4 : ob (x4 + 4) X.2 = true) (o5 : ob (x4 + 5) X.2 = true) (hQ : NxQ X u x4 Q) : Wp (Ev X 60 333 (536, [.ref 900000, .ref 0, .ref 70, .ref 95, .int x4, .null, .null], [], hS u D J)) Q := by
  have hn := hσ.2.1.1.1
  obtain ⟨res, σ', g1, g2, g3, g4⟩ := p_who (X := X) (d := 8) (x := X.1 (x4 + 1).toNatClampNeg) (y := X.1 (x4 + 2).toNatClampNeg) (z := X.1 (x4 + 3).toNatClampNeg) hσ
  obtain ⟨D1, u1, J1, r, k1, k2, k3, k4⟩ := wr_B (g := Int32.toInt64) (g2 u J D hC) g4 (e305_0 _ _ _) (fun y u D J => (e305_7 _ _ _ y 0).trans (gd_t rfl)) (fun u D J => e305_11 _ _ _)
  refine wp_eq (e333_536 _) (wp_gd o1 (wp_gd o2 (wp_gd o3 (wp_iE r ?_))))
  refine wp_eq (e333_554 _ _) (wp_eq (e333_555 _ _) (wp_gd o1 (wp_gd o2 (wp_gd o3 ?_))))
  obtain ⟨Y, hY, D2, J2, rfl, a1, a2, a3, a4⟩ := wp_dep (g3 u1 J1 D1 (hM.cls hn k2))
  refine wp_iE hY ?_
  refine wp_eq (e333_572 _ _ _) (wp_eq (e333_573 _ _ _) (wp_iE e171_0 ?_))
  rw [a3]
  have hN := hQ σ' u1 D2 J2 g1 k3 (k1.mv (fun q hq => a4 q hq)) a2
  refine wp_eq (e333_575 _ _ _ _) (wp_t rfl ?_)
  cases res with
  | inl v =>
    refine wp_f (fun z => z rfl) ?_
    have e95 : J2 95 0 = Int32.toInt64 v := by rw [a1]; exact k4 v rfl
    rw [e95]
    exact wp_t (cmp_rfl _) (wp_weak (by simp [lle, lng]) hN)
  | inr e => exact wp_t (show ¬ (1 : Int32) = 0 by decide) (wp_weak (by simp [lle, lng]) hN)
theorem arm_15 {X : XS} {u : Nat} {D : DD} {J : JJ} {σ : Sg} {x4 : Int32} {Q : Rs → Prop} (hσ : SgOk σ) (hC : CI σ D) (hM : MI σ D) (o1 : ob (x4 + 1) X.2 = true) (o2 : ob (x4 + 2) X.2 = true) (o3 : ob (x4 + 3) X.2 = true) (o4 : ob (x4 + 4) X.2 = true) (o5 : ob (x4 + 5) X.2 = true) (hQ : NxQ X u x4 Q) : Wp (Ev X 60 333 (591, [.ref 900000, .ref 0, .ref 70, .ref 95, .int x4, .null, .null], [], hS u D J)) Q := by
  have hn := hσ.2.1.1.1
  obtain ⟨res, σ', g1, g2, g3, g4⟩ := p_later (X := X) (d := 8) (x := X.1 (x4 + 1).toNatClampNeg) (y := X.1 (x4 + 2).toNatClampNeg) hσ
  obtain ⟨D1, u1, J1, r, k1, k2, k3, k4⟩ := wr_C (g := Int32.toInt64) (g2 u J D hC) g4 (e306_0 _ _) (fun y u D J => (e306_6 _ _ y 0).trans (gd_t rfl)) (fun u D J => e306_10 _ _) (fun u D J => e306_13 _ _)
  refine wp_eq (e333_591 _) (wp_gd o1 (wp_gd o2 (wp_iE r ?_)))
  refine wp_eq (e333_604 _ _) (wp_eq (e333_605 _ _) (wp_gd o1 (wp_gd o2 ?_)))
  obtain ⟨Y, hY, D2, J2, rfl, a1, a2, a3, a4⟩ := wp_dep (g3 u1 J1 D1 (hM.cls hn k2))
  refine wp_iE hY ?_
  refine wp_eq (e333_617 _ _ _) (wp_eq (e333_618 _ _ _) (wp_iE e171_0 ?_))
  rw [a3]
  have hN := hQ σ' u1 D2 J2 g1 k3 (k1.mv (fun q hq => a4 q hq)) a2
  refine wp_eq (e333_620 _ _ _ _) (wp_t rfl ?_)
  cases res with
  | inl v =>
    refine wp_f (fun z => z rfl) ?_
    have e95 : J2 95 0 = Int32.toInt64 v := by rw [a1]; exact k4 v rfl
    rw [e95]
    exact wp_t (cmp_rfl _) (wp_weak (by simp [lle, lng]) hN)
  | inr e =>
    have he : e = 1 ∨ e = 2 := g4
    rcases he with rfl | rfl
    · exact wp_t (by decide) (wp_weak (by simp [lle, lng]) hN)
    · exact wp_t (by decide) (wp_weak (by simp [lle, lng]) hN)
theorem arm_16 {X : XS} {u : Nat} {D : DD} {J : JJ} {σ : Sg} {x4 : Int32} {Q : Rs → Prop} (hσ : SgOk σ) (hC : CI σ D) (hM : MI σ D) (o1 : ob (x4 + 1) X.2 = true) (o2 : ob (x4 + 2) X.2 = true) (o3 : ob (x4 + 3) X.2 = true) (o4 : ob (x4 + 4) X.2 = true) (o5 : ob (x4 + 5) X.2 = true) (hQ : NxQ X u x4 Q) : Wp (Ev X 60 333 (636, [.ref 900000, .ref 0, .ref 70, .ref 95, .int x4, .null, .null], [], hS u D J)) Q := by
  have hn := hσ.2.1.1.1
  obtain ⟨res, σ', g1, g2, g3, g4⟩ := p_size (X := X) (d := 8) (x := X.1 (x4 + 1).toNatClampNeg) (y := X.1 (x4 + 2).toNatClampNeg) hσ
  obtain ⟨D1, u1, J1, r, k1, k2, k3, k4⟩ := wr_B (g := Int32.toInt64) (g2 u J D hC) g4 (e307_0 _ _) (fun y u D J => (e307_6 _ _ y 0).trans (gd_t rfl)) (fun u D J => e307_10 _ _)
  refine wp_eq (e333_636 _) (wp_gd o1 (wp_gd o2 (wp_iE r ?_)))
  refine wp_eq (e333_649 _ _) (wp_eq (e333_650 _ _) (wp_gd o1 (wp_gd o2 ?_)))
  obtain ⟨Y, hY, D2, J2, rfl, a1, a2, a3, a4⟩ := wp_dep (g3 u1 J1 D1 (hM.cls hn k2))
  refine wp_iE hY ?_
  refine wp_eq (e333_662 _ _ _) (wp_eq (e333_663 _ _ _) (wp_iE e171_0 ?_))
  rw [a3]
  have hN := hQ σ' u1 D2 J2 g1 k3 (k1.mv (fun q hq => a4 q hq)) a2
  refine wp_eq (e333_665 _ _ _ _) (wp_t rfl ?_)
  cases res with
  | inl v =>
    refine wp_f (fun z => z rfl) ?_
    have e95 : J2 95 0 = Int32.toInt64 v := by rw [a1]; exact k4 v rfl
    rw [e95]
    exact wp_t (cmp_rfl _) (wp_weak (by simp [lle, lng]) hN)
  | inr e => exact wp_t (show ¬ (1 : Int32) = 0 by decide) (wp_weak (by simp [lle, lng]) hN)
theorem arm_17 {X : XS} {u : Nat} {D : DD} {J : JJ} {σ : Sg} {x4 : Int32} {Q : Rs → Prop} (hσ : SgOk σ) (hC : CI σ D) (hM : MI σ D) (o1 : ob (x4 + 1) X.2 = true) (o2 : ob (x4 + 2) X.2 = true) (o3 : ob (x4 + 3) X.2 = true) (o4 : ob (x4 + 4) X.2 = true) (o5 : ob (x4 + 5) X.2 = true) (hQ : NxQ X u x4 Q) : Wp (Ev X 60 333 (681, [.ref 900000, .ref 0, .ref 70, .ref 95, .int x4, .null, .null], [], hS u D J)) Q := by
  have hn := hσ.2.1.1.1
  obtain ⟨res, σ', g1, g2, g3, g4⟩ := p_front (X := X) (d := 8) (x := X.1 (x4 + 1).toNatClampNeg) (y := X.1 (x4 + 2).toNatClampNeg) hσ
  obtain ⟨D1, u1, J1, r, k1, k2, k3, k4⟩ := wr_C (g := Int32.toInt64) (g2 u J D hC) g4 (e308_0 _ _) (fun y u D J => (e308_6 _ _ y 0).trans (gd_t rfl)) (fun u D J => e308_10 _ _) (fun u D J => e308_13 _ _)
  refine wp_eq (e333_681 _) (wp_gd o1 (wp_gd o2 (wp_iE r ?_)))
  refine wp_eq (e333_694 _ _) (wp_eq (e333_695 _ _) (wp_gd o1 (wp_gd o2 ?_)))
  obtain ⟨Y, hY, D2, J2, rfl, a1, a2, a3, a4⟩ := wp_dep (g3 u1 J1 D1 (hM.cls hn k2))
  refine wp_iE hY ?_
  refine wp_eq (e333_707 _ _ _) (wp_eq (e333_708 _ _ _) (wp_iE e171_0 ?_))
  rw [a3]
  have hN := hQ σ' u1 D2 J2 g1 k3 (k1.mv (fun q hq => a4 q hq)) a2
  refine wp_eq (e333_710 _ _ _ _) (wp_t rfl ?_)
  cases res with
  | inl v =>
    refine wp_f (fun z => z rfl) ?_
    have e95 : J2 95 0 = Int32.toInt64 v := by rw [a1]; exact k4 v rfl
    rw [e95]
    exact wp_t (cmp_rfl _) (wp_weak (by simp [lle, lng]) hN)
  | inr e =>
    have he : e = 1 ∨ e = 2 := g4
    rcases he with rfl | rfl
    · exact wp_t (by decide) (wp_weak (by simp [lle, lng]) hN)
    · exact wp_t (by decide) (wp_weak (by simp [lle, lng]) hN)
theorem arm_18 {X : XS} {u : Nat} {D : DD} {J : JJ} {σ : Sg} {x4 : Int32} {Q : Rs → Prop} (hσ : SgOk σ) (hC : CI σ D) (hM : MI σ D) (o1 : ob (x4 + 1) X.2 = true) (o2 : ob (x4 + 2) X.2 = true) (o3 : ob (x4 + 3) X.2 = true) (o4 : ob (x4 + 4) X.2 = true) (o5 : ob (x4 + 5) X.2 = true) (hQ : NxQ X u x4 Q) : Wp (Ev X 60 333 (726, [.ref 900000, .ref 0, .ref 70, .ref 95, .int x4, .null, .null], [], hS u D J)) Q := by
  have hn := hσ.2.1.1.1
  obtain ⟨res, σ', g1, g2, g3, g4⟩ := p_first (X := X) (d := 8) (x := X.1 (x4 + 1).toNatClampNeg) hσ
  obtain ⟨D1, u1, J1, r, k1, k2, k3, k4⟩ := wr_A (g := Int32.toInt64) (g2 u J D hC) g4 (e309_0 _) (fun y u D J => (e309_5 _ y 0).trans (gd_t rfl)) (fun u D J => e309_9 _)
  refine wp_eq (e333_726 _) (wp_gd o1 (wp_iE r ?_))
  refine wp_eq (e333_734 _ _) (wp_eq (e333_735 _ _) (wp_gd o1 ?_))
  obtain ⟨Y, hY, D2, J2, rfl, a1, a2, a3, a4⟩ := wp_dep (g3 u1 J1 D1 (hM.cls hn k2))
  refine wp_iE hY ?_
  refine wp_eq (e333_742 _ _ _) (wp_eq (e333_743 _ _ _) (wp_iE e171_0 ?_))
  rw [a3]
  have hN := hQ σ' u1 D2 J2 g1 k3 (k1.mv (fun q hq => a4 q hq)) a2
  refine wp_eq (e333_745 _ _ _ _) (wp_t rfl ?_)
  cases res with
  | inl v =>
    refine wp_f (fun z => z rfl) ?_
    have e95 : J2 95 0 = Int32.toInt64 v := by rw [a1]; exact k4 v rfl
    rw [e95]
    exact wp_t (cmp_rfl _) (wp_weak (by simp [lle, lng]) hN)
  | inr e =>
    have he : e = 1 := g4
    subst he
    exact wp_t (by decide) (wp_weak (by simp [lle, lng]) hN)
theorem arm_19 {X : XS} {u : Nat} {D : DD} {J : JJ} {σ : Sg} {x4 : Int32} {Q : Rs → Prop} (hσ : SgOk σ) (hC : CI σ D) (hM : MI σ D) (o1 : ob (x4 + 1) X.2 = true) (o2 : ob (x4 + 2) X.2 = true) (o3 : ob (x4 + 3) X.2 = true) (o4 : ob (x4 + 4) X.2 = true) (o5 : ob (x4 + 5) X.2 = true) (hQ : NxQ X u x4 Q) : Wp (Ev X 60 333 (761, [.ref 900000, .ref 0, .ref 70, .ref 95, .int x4, .null, .null], [], hS u D J)) Q := by
  have hn := hσ.2.1.1.1
  obtain ⟨res, σ', g1, g2, g3, g4⟩ := p_beside (X := X) (d := 8) (x := X.1 (x4 + 1).toNatClampNeg) (y := X.1 (x4 + 2).toNatClampNeg) hσ
  obtain ⟨D1, u1, J1, r, k1, k2, k3, k4⟩ := wr_A (g := Int32.toInt64) (g2 u J D hC) g4 (e310_0 _ _) (fun y u D J => (e310_6 _ _ y 0).trans (gd_t rfl)) (fun u D J => e310_10 _ _)
  refine wp_eq (e333_761 _) (wp_gd o1 (wp_gd o2 (wp_iE r ?_)))
  refine wp_eq (e333_774 _ _) (wp_eq (e333_775 _ _) (wp_gd o1 (wp_gd o2 ?_)))
  obtain ⟨Y, hY, D2, J2, rfl, a1, a2, a3, a4⟩ := wp_dep (g3 u1 J1 D1 (hM.cls hn k2))
  refine wp_iE hY ?_
  refine wp_eq (e333_787 _ _ _) (wp_eq (e333_788 _ _ _) (wp_iE e171_0 ?_))
  rw [a3]
  have hN := hQ σ' u1 D2 J2 g1 k3 (k1.mv (fun q hq => a4 q hq)) a2
  refine wp_eq (e333_790 _ _ _ _) (wp_t rfl ?_)
  cases res with
  | inl v =>
    refine wp_f (fun z => z rfl) ?_
    have e95 : J2 95 0 = Int32.toInt64 v := by rw [a1]; exact k4 v rfl
    rw [e95]
    exact wp_t (cmp_rfl _) (wp_weak (by simp [lle, lng]) hN)
  | inr e =>
    have he : e = 1 := g4
    subst he
    exact wp_t (by decide) (wp_weak (by simp [lle, lng]) hN)
theorem arm_20 {X : XS} {u : Nat} {D : DD} {J : JJ} {σ : Sg} {x4 : Int32} {Q : Rs → Prop} (hσ : SgOk σ) (hC : CI σ D) (hM : MI σ D) (o1 : ob (x4 + 1) X.2 = true) (o2 : ob (x4 + 2) X.2 = true) (o3 : ob (x4 + 3) X.2 = true) (o4 : ob (x4 + 4) X.2 = true) (o5 : ob (x4 + 5) X.2 = true) (hQ : NxQ X u x4 Q) : Wp (Ev X 60 333 (806, [.ref 900000, .ref 0, .ref 70, .ref 95, .int x4, .null, .null], [], hS u D J)) Q := by
  have hn := hσ.2.1.1.1
  obtain ⟨res, σ', g1, g2, g3, g4⟩ := p_together (X := X) (d := 8) (x := X.1 (x4 + 1).toNatClampNeg) (y := X.1 (x4 + 2).toNatClampNeg) (z := X.1 (x4 + 3).toNatClampNeg) hσ
  obtain ⟨D1, u1, J1, r, k1, k2, k3, k4⟩ := wr_C (g := Int32.toInt64) (g2 u J D hC) g4 (e311_0 _ _ _) (fun y u D J => (e311_7 _ _ _ y 0).trans (gd_t rfl)) (fun u D J => e311_11 _ _ _) (fun u D J => e311_14 _ _ _)
  refine wp_eq (e333_806 _) (wp_gd o1 (wp_gd o2 (wp_gd o3 (wp_iE r ?_))))
  refine wp_eq (e333_824 _ _) (wp_eq (e333_825 _ _) (wp_gd o1 (wp_gd o2 (wp_gd o3 ?_))))
  obtain ⟨Y, hY, D2, J2, rfl, a1, a2, a3, a4⟩ := wp_dep (g3 u1 J1 D1 (hM.cls hn k2))
  refine wp_iE hY ?_
  refine wp_eq (e333_842 _ _ _) (wp_eq (e333_843 _ _ _) (wp_iE e171_0 ?_))
  rw [a3]
  have hN := hQ σ' u1 D2 J2 g1 k3 (k1.mv (fun q hq => a4 q hq)) a2
  refine wp_eq (e333_845 _ _ _ _) (wp_t rfl ?_)
  cases res with
  | inl v =>
    refine wp_f (fun z => z rfl) ?_
    have e95 : J2 95 0 = Int32.toInt64 v := by rw [a1]; exact k4 v rfl
    rw [e95]
    exact wp_t (cmp_rfl _) (wp_weak (by simp [lle, lng]) hN)
  | inr e =>
    have he : e = 1 ∨ e = 2 := g4
    rcases he with rfl | rfl
    · exact wp_t (by decide) (wp_weak (by simp [lle, lng]) hN)
    · exact wp_t (by decide) (wp_weak (by simp [lle, lng]) hN)
theorem arm_21 {X : XS} {u : Nat} {D : DD} {J : JJ} {σ : Sg} {x4 : Int32} {Q : Rs → Prop} (hσ : SgOk σ) (hC : CI σ D) (hM : MI σ D) (o1 : ob (x4 + 1) X.2 = true) (o2 : ob (x4 + 2) X.2 = true) (o3 : ob (x4 + 3) X.2 = true) (o4 : ob (x4 + 4) X.2 = true) (o5 : ob (x4 + 5) X.2 = true) (hQ : NxQ X u x4 Q) : Wp (Ev X 60 333 (861, [.ref 900000, .ref 0, .ref 70, .ref 95, .int x4, .null, .null], [], hS u D J)) Q := by
  have hn := hσ.2.1.1.1
  obtain ⟨res, σ', g1, g2, g3, g4⟩ := p_asNow (X := X) (d := 9)  hσ
  cases res with
  | inr e => exact absurd g4 (fun z => z)
  | inl v =>
    obtain ⟨Y, hY, D1, rfl, k1, k2⟩ := g2 u J D hC
    refine wp_eq (e333_861 _) (wp_iE hY ?_)
    obtain ⟨Y, hY, D2, J2, rfl, a1, a2, a3, a4⟩ := g3 u J D1 (hM.cls hn k2)
    refine wp_eq (e333_863 _ _) (wp_iE hY ?_)
    exact wp_eq (e333_865 _ _ _) (wp_t rfl (hQ σ' u D2 J2 g1 (Nat.le_succ _) (k1.mv (fun q hq => a4 q hq)) a2))
theorem arm_22 {X : XS} {u : Nat} {D : DD} {J : JJ} {σ : Sg} {x4 : Int32} {Q : Rs → Prop} (hσ : SgOk σ) (hC : CI σ D) (hM : MI σ D) (o1 : ob (x4 + 1) X.2 = true) (o2 : ob (x4 + 2) X.2 = true) (o3 : ob (x4 + 3) X.2 = true) (o4 : ob (x4 + 4) X.2 = true) (o5 : ob (x4 + 5) X.2 = true) (hQ : NxQ X u x4 Q) : Wp (Ev X 60 333 (868, [.ref 900000, .ref 0, .ref 70, .ref 95, .int x4, .null, .null], [], hS u D J)) Q := by
  have hn := hσ.2.1.1.1
  obtain ⟨res, σ', g1, g2, g3, g4⟩ := p_neighbours (X := X) (d := 8) (x := X.1 (x4 + 1).toNatClampNeg) (y := X.1 (x4 + 2).toNatClampNeg) hσ
  obtain ⟨D1, u1, J1, r, k1, k2, k3, k4⟩ := wr_C (g := Int32.toInt64) (g2 u J D hC) g4 (e312_0 _ _) (fun y u D J => (e312_6 _ _ y 0).trans (gd_t rfl)) (fun u D J => e312_10 _ _) (fun u D J => e312_13 _ _)
  refine wp_eq (e333_868 _) (wp_gd o1 (wp_gd o2 (wp_iE r ?_)))
  refine wp_eq (e333_881 _ _) (wp_eq (e333_882 _ _) (wp_gd o1 (wp_gd o2 ?_)))
  obtain ⟨Y, hY, D2, J2, rfl, a1, a2, a3, a4⟩ := wp_dep (g3 u1 J1 D1 (hM.cls hn k2))
  refine wp_iE hY ?_
  refine wp_eq (e333_894 _ _ _) (wp_eq (e333_895 _ _ _) (wp_iE e171_0 ?_))
  rw [a3]
  have hN := hQ σ' u1 D2 J2 g1 k3 (k1.mv (fun q hq => a4 q hq)) a2
  refine wp_eq (e333_897 _ _ _ _) (wp_t rfl ?_)
  cases res with
  | inl v =>
    refine wp_f (fun z => z rfl) ?_
    have e95 : J2 95 0 = Int32.toInt64 v := by rw [a1]; exact k4 v rfl
    rw [e95]
    exact wp_t (cmp_rfl _) (wp_weak (by simp [lle, lng]) hN)
  | inr e =>
    have he : e = 1 ∨ e = 2 := g4
    rcases he with rfl | rfl
    · exact wp_t (by decide) (wp_weak (by simp [lle, lng]) hN)
    · exact wp_t (by decide) (wp_weak (by simp [lle, lng]) hN)
theorem arm_23 {X : XS} {u : Nat} {D : DD} {J : JJ} {σ : Sg} {x4 : Int32} {Q : Rs → Prop} (hσ : SgOk σ) (hC : CI σ D) (hM : MI σ D) (o1 : ob (x4 + 1) X.2 = true) (o2 : ob (x4 + 2) X.2 = true) (o3 : ob (x4 + 3) X.2 = true) (o4 : ob (x4 + 4) X.2 = true) (o5 : ob (x4 + 5) X.2 = true) (hQ : NxQ X u x4 Q) : Wp (Ev X 60 333 (913, [.ref 900000, .ref 0, .ref 70, .ref 95, .int x4, .null, .null], [], hS u D J)) Q := by
  have hn := hσ.2.1.1.1
  obtain ⟨res, σ', g1, g2, g3, g4⟩ := p_more (X := X) (d := 8) (x := X.1 (x4 + 1).toNatClampNeg) (y := X.1 (x4 + 2).toNatClampNeg) hσ
  obtain ⟨D1, u1, J1, r, k1, k2, k3, k4⟩ := wr_A (g := Int32.toInt64) (g2 u J D hC) g4 (e313_0 _ _) (fun y u D J => (e313_6 _ _ y 0).trans (gd_t rfl)) (fun u D J => e313_10 _ _)
  refine wp_eq (e333_913 _) (wp_gd o1 (wp_gd o2 (wp_iE r ?_)))
  refine wp_eq (e333_926 _ _) (wp_eq (e333_927 _ _) (wp_gd o1 (wp_gd o2 ?_)))
  obtain ⟨Y, hY, D2, J2, rfl, a1, a2, a3, a4⟩ := wp_dep (g3 u1 J1 D1 (hM.cls hn k2))
  refine wp_iE hY ?_
  refine wp_eq (e333_939 _ _ _) (wp_eq (e333_940 _ _ _) (wp_iE e171_0 ?_))
  rw [a3]
  have hN := hQ σ' u1 D2 J2 g1 k3 (k1.mv (fun q hq => a4 q hq)) a2
  refine wp_eq (e333_942 _ _ _ _) (wp_t rfl ?_)
  cases res with
  | inl v =>
    refine wp_f (fun z => z rfl) ?_
    have e95 : J2 95 0 = Int32.toInt64 v := by rw [a1]; exact k4 v rfl
    rw [e95]
    exact wp_t (cmp_rfl _) (wp_weak (by simp [lle, lng]) hN)
  | inr e =>
    have he : e = 1 := g4
    subst he
    exact wp_t (by decide) (wp_weak (by simp [lle, lng]) hN)
theorem arm_24 {X : XS} {u : Nat} {D : DD} {J : JJ} {σ : Sg} {x4 : Int32} {Q : Rs → Prop} (hσ : SgOk σ) (hC : CI σ D) (hM : MI σ D) (o1 : ob (x4 + 1) X.2 = true) (o2 : ob (x4 + 2) X.2 = true) (o3 : ob (x4 + 3) X.2 = true) (o4 : ob (x4 + 4) X.2 = true) (o5 : ob (x4 + 5) X.2 = true) (hQ : NxQ X u x4 Q) : Wp (Ev X 60 333 (958, [.ref 900000, .ref 0, .ref 70, .ref 95, .int x4, .null, .null], [], hS u D J)) Q := by
  have hn := hσ.2.1.1.1
  obtain ⟨res, σ', g1, g2, g3, g4⟩ := p_order (X := X) (d := 8) (x := X.1 (x4 + 1).toNatClampNeg) hσ
  obtain ⟨D1, u1, J1, r, k1, k2, k3, k4⟩ := wr_B (g := Int32.toInt64) (g2 u J D hC) g4 (e314_0 _) (fun y u D J => (e314_5 _ y 0).trans (gd_t rfl)) (fun u D J => e314_9 _)
  refine wp_eq (e333_958 _) (wp_gd o1 (wp_iE r ?_))
  refine wp_eq (e333_966 _ _) (wp_eq (e333_967 _ _) (wp_gd o1 ?_))
  obtain ⟨Y, hY, D2, J2, rfl, a1, a2, a3, a4⟩ := wp_dep (g3 u1 J1 D1 (hM.cls hn k2))
  refine wp_iE hY ?_
  refine wp_eq (e333_974 _ _ _) (wp_eq (e333_975 _ _ _) (wp_iE e171_0 ?_))
  rw [a3]
  have hN := hQ σ' u1 D2 J2 g1 k3 (k1.mv (fun q hq => a4 q hq)) a2
  refine wp_eq (e333_977 _ _ _ _) (wp_t rfl ?_)
  cases res with
  | inl v =>
    refine wp_f (fun z => z rfl) ?_
    have e95 : J2 95 0 = Int32.toInt64 v := by rw [a1]; exact k4 v rfl
    rw [e95]
    exact wp_t (cmp_rfl _) (wp_weak (by simp [lle, lng]) hN)
  | inr e => exact wp_t (show ¬ (1 : Int32) = 0 by decide) (wp_weak (by simp [lle, lng]) hN)
theorem arm_25 {X : XS} {u : Nat} {D : DD} {J : JJ} {σ : Sg} {x4 : Int32} {Q : Rs → Prop} (hσ : SgOk σ) (hC : CI σ D) (hM : MI σ D) (o1 : ob (x4 + 1) X.2 = true) (o2 : ob (x4 + 2) X.2 = true) (o3 : ob (x4 + 3) X.2 = true) (o4 : ob (x4 + 4) X.2 = true) (o5 : ob (x4 + 5) X.2 = true) (hQ : NxQ X u x4 Q) : Wp (Ev X 60 333 (993, [.ref 900000, .ref 0, .ref 70, .ref 95, .int x4, .null, .null], [], hS u D J)) Q := by
  have hn := hσ.2.1.1.1
  obtain ⟨res, σ', g1, g2, g3, g4⟩ := p_longest (X := X) (d := 8) (x := X.1 (x4 + 1).toNatClampNeg) hσ
  obtain ⟨D1, u1, J1, r, k1, k2, k3, k4⟩ := wr_A (g := Int32.toInt64) (g2 u J D hC) g4 (e315_0 _) (fun y u D J => (e315_5 _ y 0).trans (gd_t rfl)) (fun u D J => e315_9 _)
  refine wp_eq (e333_993 _) (wp_gd o1 (wp_iE r ?_))
  refine wp_eq (e333_1001 _ _) (wp_eq (e333_1002 _ _) (wp_gd o1 ?_))
  obtain ⟨Y, hY, D2, J2, rfl, a1, a2, a3, a4⟩ := wp_dep (g3 u1 J1 D1 (hM.cls hn k2))
  refine wp_iE hY ?_
  refine wp_eq (e333_1009 _ _ _) (wp_eq (e333_1010 _ _ _) (wp_iE e171_0 ?_))
  rw [a3]
  have hN := hQ σ' u1 D2 J2 g1 k3 (k1.mv (fun q hq => a4 q hq)) a2
  refine wp_eq (e333_1012 _ _ _ _) (wp_t rfl ?_)
  cases res with
  | inl v =>
    refine wp_f (fun z => z rfl) ?_
    have e95 : J2 95 0 = Int32.toInt64 v := by rw [a1]; exact k4 v rfl
    rw [e95]
    exact wp_t (cmp_rfl _) (wp_weak (by simp [lle, lng]) hN)
  | inr e =>
    have he : e = 1 := g4
    subst he
    exact wp_t (by decide) (wp_weak (by simp [lle, lng]) hN)
theorem arm_26 {X : XS} {u : Nat} {D : DD} {J : JJ} {σ : Sg} {x4 : Int32} {Q : Rs → Prop} (hσ : SgOk σ) (hC : CI σ D) (hM : MI σ D) (o1 : ob (x4 + 1) X.2 = true) (o2 : ob (x4 + 2) X.2 = true) (o3 : ob (x4 + 3) X.2 = true) (o4 : ob (x4 + 4) X.2 = true) (o5 : ob (x4 + 5) X.2 = true) (hQ : NxQ X u x4 Q) : Wp (Ev X 60 333 (1028, [.ref 900000, .ref 0, .ref 70, .ref 95, .int x4, .null, .null], [], hS u D J)) Q := by
  have hn := hσ.2.1.1.1
  obtain ⟨res, σ', g1, g2, g3, g4⟩ := p_toCome (X := X) (d := 8) (x := X.1 (x4 + 1).toNatClampNeg) (y := X.1 (x4 + 2).toNatClampNeg) hσ
  obtain ⟨D1, u1, J1, r, k1, k2, k3, k4⟩ := wr_A (g := Int32.toInt64) (g2 u J D hC) g4 (e316_0 _ _) (fun y u D J => (e316_6 _ _ y 0).trans (gd_t rfl)) (fun u D J => e316_10 _ _)
  refine wp_eq (e333_1028 _) (wp_gd o1 (wp_gd o2 (wp_iE r ?_)))
  refine wp_eq (e333_1041 _ _) (wp_eq (e333_1042 _ _) (wp_gd o1 (wp_gd o2 ?_)))
  obtain ⟨Y, hY, D2, J2, rfl, a1, a2, a3, a4⟩ := wp_dep (g3 u1 J1 D1 (hM.cls hn k2))
  refine wp_iE hY ?_
  refine wp_eq (e333_1054 _ _ _) (wp_eq (e333_1055 _ _ _) (wp_iE e171_0 ?_))
  rw [a3]
  have hN := hQ σ' u1 D2 J2 g1 k3 (k1.mv (fun q hq => a4 q hq)) a2
  refine wp_eq (e333_1057 _ _ _ _) (wp_t rfl ?_)
  cases res with
  | inl v =>
    refine wp_f (fun z => z rfl) ?_
    have e95 : J2 95 0 = Int32.toInt64 v := by rw [a1]; exact k4 v rfl
    rw [e95]
    exact wp_t (cmp_rfl _) (wp_weak (by simp [lle, lng]) hN)
  | inr e =>
    have he : e = 1 := g4
    subst he
    exact wp_t (by decide) (wp_weak (by simp [lle, lng]) hN)
theorem arm_27 {X : XS} {u : Nat} {D : DD} {J : JJ} {σ : Sg} {x4 : Int32} {Q : Rs → Prop} (hσ : SgOk σ) (hC : CI σ D) (hM : MI σ D) (o1 : ob (x4 + 1) X.2 = true) (o2 : ob (x4 + 2) X.2 = true) (o3 : ob (x4 + 3) X.2 = true) (o4 : ob (x4 + 4) X.2 = true) (o5 : ob (x4 + 5) X.2 = true) (hQ : NxQ X u x4 Q) : Wp (Ev X 60 333 (1073, [.ref 900000, .ref 0, .ref 70, .ref 95, .int x4, .null, .null], [], hS u D J)) Q := by
  have hn := hσ.2.1.1.1
  obtain ⟨res, σ', g1, g2, g3, g4⟩ := p_whose (X := X) (d := 8) (x := X.1 (x4 + 1).toNatClampNeg) hσ
  obtain ⟨D1, u1, J1, r, k1, k2, k3, k4⟩ := wr_A (g := Int32.toInt64) (g2 u J D hC) g4 (e317_0 _) (fun y u D J => (e317_5 _ y 0).trans (gd_t rfl)) (fun u D J => e317_9 _)
  refine wp_eq (e333_1073 _) (wp_gd o1 (wp_iE r ?_))
  refine wp_eq (e333_1081 _ _) (wp_eq (e333_1082 _ _) (wp_gd o1 ?_))
  obtain ⟨Y, hY, D2, J2, rfl, a1, a2, a3, a4⟩ := wp_dep (g3 u1 J1 D1 (hM.cls hn k2))
  refine wp_iE hY ?_
  refine wp_eq (e333_1089 _ _ _) (wp_eq (e333_1090 _ _ _) (wp_iE e171_0 ?_))
  rw [a3]
  have hN := hQ σ' u1 D2 J2 g1 k3 (k1.mv (fun q hq => a4 q hq)) a2
  refine wp_eq (e333_1092 _ _ _ _) (wp_t rfl ?_)
  cases res with
  | inl v =>
    refine wp_f (fun z => z rfl) ?_
    have e95 : J2 95 0 = Int32.toInt64 v := by rw [a1]; exact k4 v rfl
    rw [e95]
    exact wp_t (cmp_rfl _) (wp_weak (by simp [lle, lng]) hN)
  | inr e =>
    have he : e = 1 := g4
    subst he
    exact wp_t (by decide) (wp_weak (by simp [lle, lng]) hN)
theorem arm_28 {X : XS} {u : Nat} {D : DD} {J : JJ} {σ : Sg} {x4 : Int32} {Q : Rs → Prop} (hσ : SgOk σ) (hC : CI σ D) (hM : MI σ D) (o1 : ob (x4 + 1) X.2 = true) (o2 : ob (x4 + 2) X.2 = true) (o3 : ob (x4 + 3) X.2 = true) (o4 : ob (x4 + 4) X.2 = true) (o5 : ob (x4 + 5) X.2 = true) (hQ : NxQ X u x4 Q) : Wp (Ev X 60 333 (1108, [.ref 900000, .ref 0, .ref 70, .ref 95, .int x4, .null, .null], [], hS u D J)) Q := by
  have hn := hσ.2.1.1.1
  obtain ⟨res, σ', g1, g2, g3, g4⟩ := p_couples (X := X) (d := 8) (x := X.1 (x4 + 1).toNatClampNeg) hσ
  obtain ⟨D1, u1, J1, r, k1, k2, k3, k4⟩ := wr_A (g := Int32.toInt64) (g2 u J D hC) g4 (e318_0 _) (fun y u D J => (e318_5 _ y 0).trans (gd_t rfl)) (fun u D J => e318_9 _)
  refine wp_eq (e333_1108 _) (wp_gd o1 (wp_iE r ?_))
  refine wp_eq (e333_1116 _ _) (wp_eq (e333_1117 _ _) (wp_gd o1 ?_))
  obtain ⟨Y, hY, D2, J2, rfl, a1, a2, a3, a4⟩ := wp_dep (g3 u1 J1 D1 (hM.cls hn k2))
  refine wp_iE hY ?_
  refine wp_eq (e333_1124 _ _ _) (wp_eq (e333_1125 _ _ _) (wp_iE e171_0 ?_))
  rw [a3]
  have hN := hQ σ' u1 D2 J2 g1 k3 (k1.mv (fun q hq => a4 q hq)) a2
  refine wp_eq (e333_1127 _ _ _ _) (wp_t rfl ?_)
  cases res with
  | inl v =>
    refine wp_f (fun z => z rfl) ?_
    have e95 : J2 95 0 = Int32.toInt64 v := by rw [a1]; exact k4 v rfl
    rw [e95]
    exact wp_t (cmp_rfl _) (wp_weak (by simp [lle, lng]) hN)
  | inr e =>
    have he : e = 1 := g4
    subst he
    exact wp_t (by decide) (wp_weak (by simp [lle, lng]) hN)
theorem arm_29 {X : XS} {u : Nat} {D : DD} {J : JJ} {σ : Sg} {x4 : Int32} {Q : Rs → Prop} (hσ : SgOk σ) (hC : CI σ D) (hM : MI σ D) (o1 : ob (x4 + 1) X.2 = true) (o2 : ob (x4 + 2) X.2 = true) (o3 : ob (x4 + 3) X.2 = true) (o4 : ob (x4 + 4) X.2 = true) (o5 : ob (x4 + 5) X.2 = true) (hQ : NxQ X u x4 Q) : Wp (Ev X 60 333 (1143, [.ref 900000, .ref 0, .ref 70, .ref 95, .int x4, .null, .null], [], hS u D J)) Q := by
  have hn := hσ.2.1.1.1
  obtain ⟨res, σ', g1, g2, g3, g4⟩ := p_see (X := X) (d := 8) (x := X.1 (x4 + 1).toNatClampNeg) (y := X.1 (x4 + 2).toNatClampNeg) (z := X.1 (x4 + 3).toNatClampNeg) hσ
  obtain ⟨D1, u1, J1, r, k1, k2, k3, k4⟩ := wr_A (g := Int32.toInt64) (g2 u J D hC) g4 (e319_0 _ _ _) (fun y u D J => (e319_7 _ _ _ y 0).trans (gd_t rfl)) (fun u D J => e319_11 _ _ _)
  refine wp_eq (e333_1143 _) (wp_gd o1 (wp_gd o2 (wp_gd o3 (wp_iE r ?_))))
  refine wp_eq (e333_1161 _ _) (wp_eq (e333_1162 _ _) (wp_gd o1 (wp_gd o2 (wp_gd o3 ?_))))
  obtain ⟨Y, hY, D2, J2, rfl, a1, a2, a3, a4⟩ := wp_dep (g3 u1 J1 D1 (hM.cls hn k2))
  refine wp_iE hY ?_
  refine wp_eq (e333_1179 _ _ _) (wp_eq (e333_1180 _ _ _) (wp_iE e171_0 ?_))
  rw [a3]
  have hN := hQ σ' u1 D2 J2 g1 k3 (k1.mv (fun q hq => a4 q hq)) a2
  refine wp_eq (e333_1182 _ _ _ _) (wp_t rfl ?_)
  cases res with
  | inl v =>
    refine wp_f (fun z => z rfl) ?_
    have e95 : J2 95 0 = Int32.toInt64 v := by rw [a1]; exact k4 v rfl
    rw [e95]
    exact wp_t (cmp_rfl _) (wp_weak (by simp [lle, lng]) hN)
  | inr e =>
    have he : e = 1 := g4
    subst he
    exact wp_t (by decide) (wp_weak (by simp [lle, lng]) hN)
theorem arm_30 {X : XS} {u : Nat} {D : DD} {J : JJ} {σ : Sg} {x4 : Int32} {Q : Rs → Prop} (hσ : SgOk σ) (hC : CI σ D) (hM : MI σ D) (o1 : ob (x4 + 1) X.2 = true) (o2 : ob (x4 + 2) X.2 = true) (o3 : ob (x4 + 3) X.2 = true) (o4 : ob (x4 + 4) X.2 = true) (o5 : ob (x4 + 5) X.2 = true) (hQ : NxQ X u x4 Q) : Wp (Ev X 60 333 (1198, [.ref 900000, .ref 0, .ref 70, .ref 95, .int x4, .null, .null], [], hS u D J)) Q := by
  have hn := hσ.2.1.1.1
  obtain ⟨σ', g1, g2, g3⟩ := p_forget (X := X) (d := 9) hσ
  obtain ⟨Y, hY, D1, rfl, k1, k2⟩ := g2 u J D hC
  refine wp_eq (e333_1198 _) (wp_vE hY ?_)
  obtain ⟨Y, hY, D2, rfl, a2, a4⟩ := g3 u J D1 (hM.cls hn k2)
  refine wp_eq (e333_1200 _) (wp_vE hY ?_)
  exact wp_eq (e333_1202 _) (hQ σ' u D2 J g1 (Nat.le_succ _) (k1.mv (fun q hq => a4 q hq)) a2)
theorem arm_31 {X : XS} {u : Nat} {D : DD} {J : JJ} {σ : Sg} {x4 : Int32} {Q : Rs → Prop} (hσ : SgOk σ) (hC : CI σ D) (hM : MI σ D) (o1 : ob (x4 + 1) X.2 = true) (o2 : ob (x4 + 2) X.2 = true) (o3 : ob (x4 + 3) X.2 = true) (o4 : ob (x4 + 4) X.2 = true) (o5 : ob (x4 + 5) X.2 = true) (hQ : NxQ X u x4 Q) : Wp (Ev X 60 333 (1203, [.ref 900000, .ref 0, .ref 70, .ref 95, .int x4, .null, .null], [], hS u D J)) Q := by
  have hn := hσ.2.1.1.1
  obtain ⟨res, σ', g1, g2, g3, g4⟩ := p_old (X := X) (d := 8) (x := X.1 (x4 + 1).toNatClampNeg) hσ
  obtain ⟨D1, u1, J1, r, k1, k2, k3, k4⟩ := wr_A (g := Int32.toInt64) (g2 u J D hC) g4 (e320_0 _) (fun y u D J => (e320_5 _ y 0).trans (gd_t rfl)) (fun u D J => e320_9 _)
  refine wp_eq (e333_1203 _) (wp_gd o1 (wp_iE r ?_))
  refine wp_eq (e333_1211 _ _) (wp_eq (e333_1212 _ _) (wp_gd o1 ?_))
  obtain ⟨Y, hY, D2, J2, rfl, a1, a2, a3, a4⟩ := wp_dep (g3 u1 J1 D1 (hM.cls hn k2))
  refine wp_iE hY ?_
  refine wp_eq (e333_1219 _ _ _) (wp_eq (e333_1220 _ _ _) (wp_iE e171_0 ?_))
  rw [a3]
  have hN := hQ σ' u1 D2 J2 g1 k3 (k1.mv (fun q hq => a4 q hq)) a2
  refine wp_eq (e333_1222 _ _ _ _) (wp_t rfl ?_)
  cases res with
  | inl v =>
    refine wp_f (fun z => z rfl) ?_
    have e95 : J2 95 0 = Int32.toInt64 v := by rw [a1]; exact k4 v rfl
    rw [e95]
    exact wp_t (cmp_rfl _) (wp_weak (by simp [lle, lng]) hN)
  | inr e =>
    have he : e = 1 := g4
    subst he
    exact wp_t (by decide) (wp_weak (by simp [lle, lng]) hN)
theorem arm_32 {X : XS} {u : Nat} {D : DD} {J : JJ} {σ : Sg} {x4 : Int32} {Q : Rs → Prop} (hσ : SgOk σ) (hC : CI σ D) (hM : MI σ D) (o1 : ob (x4 + 1) X.2 = true) (o2 : ob (x4 + 2) X.2 = true) (o3 : ob (x4 + 3) X.2 = true) (o4 : ob (x4 + 4) X.2 = true) (o5 : ob (x4 + 5) X.2 = true) (hQ : NxQ X u x4 Q) : Wp (Ev X 60 333 (1238, [.ref 900000, .ref 0, .ref 70, .ref 95, .int x4, .null, .null], [], hS u D J)) Q := by
  have hn := hσ.2.1.1.1
  obtain ⟨res, σ', g1, g2, g3, g4⟩ := p_look (X := X) (d := 8) (x := X.1 (x4 + 1).toNatClampNeg) hσ
  obtain ⟨D1, u1, J1, r, k1, k2, k3, k4⟩ := wr_A (g := Int32.toInt64) (g2 u J D hC) g4 (e321_0 _) (fun y u D J => (e321_5 _ y 0).trans (gd_t rfl)) (fun u D J => e321_9 _)
  refine wp_eq (e333_1238 _) (wp_gd o1 (wp_iE r ?_))
  refine wp_eq (e333_1246 _ _) (wp_eq (e333_1247 _ _) (wp_gd o1 ?_))
  obtain ⟨Y, hY, D2, J2, rfl, a1, a2, a3, a4⟩ := wp_dep (g3 u1 J1 D1 (hM.cls hn k2))
  refine wp_iE hY ?_
  refine wp_eq (e333_1254 _ _ _) (wp_eq (e333_1255 _ _ _) (wp_iE e171_0 ?_))
  rw [a3]
  have hN := hQ σ' u1 D2 J2 g1 k3 (k1.mv (fun q hq => a4 q hq)) a2
  refine wp_eq (e333_1257 _ _ _ _) (wp_t rfl ?_)
  cases res with
  | inl v =>
    refine wp_f (fun z => z rfl) ?_
    have e95 : J2 95 0 = Int32.toInt64 v := by rw [a1]; exact k4 v rfl
    rw [e95]
    exact wp_t (cmp_rfl _) (wp_weak (by simp [lle, lng]) hN)
  | inr e =>
    have he : e = 1 := g4
    subst he
    exact wp_t (by decide) (wp_weak (by simp [lle, lng]) hN)
theorem arm_33 {X : XS} {u : Nat} {D : DD} {J : JJ} {σ : Sg} {x4 : Int32} {Q : Rs → Prop} (hσ : SgOk σ) (hC : CI σ D) (hM : MI σ D) (o1 : ob (x4 + 1) X.2 = true) (o2 : ob (x4 + 2) X.2 = true) (o3 : ob (x4 + 3) X.2 = true) (o4 : ob (x4 + 4) X.2 = true) (o5 : ob (x4 + 5) X.2 = true) (hQ : NxQ X u x4 Q) : Wp (Ev X 60 333 (1273, [.ref 900000, .ref 0, .ref 70, .ref 95, .int x4, .null, .null], [], hS u D J)) Q := by
  have hn := hσ.2.1.1.1
  obtain ⟨res, σ', g1, g2, g3, g4⟩ := p_rain (X := X) (d := 8) (x := X.1 (x4 + 1).toNatClampNeg) (y := X.1 (x4 + 2).toNatClampNeg) (z := X.1 (x4 + 3).toNatClampNeg) hσ
  obtain ⟨D1, u1, J1, r, k1, k2, k3, k4⟩ := wr_C (g := Int32.toInt64) (g2 u J D hC) g4 (e322_0 _ _ _) (fun y u D J => (e322_7 _ _ _ y 0).trans (gd_t rfl)) (fun u D J => e322_11 _ _ _) (fun u D J => e322_14 _ _ _)
  refine wp_eq (e333_1273 _) (wp_gd o1 (wp_gd o2 (wp_gd o3 (wp_iE r ?_))))
  refine wp_eq (e333_1291 _ _) (wp_eq (e333_1292 _ _) (wp_gd o1 (wp_gd o2 (wp_gd o3 ?_))))
  obtain ⟨Y, hY, D2, J2, rfl, a1, a2, a3, a4⟩ := wp_dep (g3 u1 J1 D1 (hM.cls hn k2))
  refine wp_iE hY ?_
  refine wp_eq (e333_1309 _ _ _) (wp_eq (e333_1310 _ _ _) (wp_iE e171_0 ?_))
  rw [a3]
  have hN := hQ σ' u1 D2 J2 g1 k3 (k1.mv (fun q hq => a4 q hq)) a2
  refine wp_eq (e333_1312 _ _ _ _) (wp_t rfl ?_)
  cases res with
  | inl v =>
    refine wp_f (fun z => z rfl) ?_
    have e95 : J2 95 0 = Int32.toInt64 v := by rw [a1]; exact k4 v rfl
    rw [e95]
    exact wp_t (cmp_rfl _) (wp_weak (by simp [lle, lng]) hN)
  | inr e =>
    have he : e = 1 ∨ e = 2 := g4
    rcases he with rfl | rfl
    · exact wp_t (by decide) (wp_weak (by simp [lle, lng]) hN)
    · exact wp_t (by decide) (wp_weak (by simp [lle, lng]) hN)
theorem arm_34 {X : XS} {u : Nat} {D : DD} {J : JJ} {σ : Sg} {x4 : Int32} {Q : Rs → Prop} (hσ : SgOk σ) (hC : CI σ D) (hM : MI σ D) (o1 : ob (x4 + 1) X.2 = true) (o2 : ob (x4 + 2) X.2 = true) (o3 : ob (x4 + 3) X.2 = true) (o4 : ob (x4 + 4) X.2 = true) (o5 : ob (x4 + 5) X.2 = true) (hQ : NxQ X u x4 Q) : Wp (Ev X 60 333 (1328, [.ref 900000, .ref 0, .ref 70, .ref 95, .int x4, .null, .null], [], hS u D J)) Q := by
  have hn := hσ.2.1.1.1
  obtain ⟨res, σ', g1, g2, g3, g4⟩ := p_game (X := X) (d := 8) (x := X.1 (x4 + 1).toNatClampNeg) (y := X.1 (x4 + 2).toNatClampNeg) (z := X.1 (x4 + 3).toNatClampNeg) hσ
  obtain ⟨D1, u1, J1, r, k1, k2, k3, k4⟩ := wr_C (g := Int32.toInt64) (g2 u J D hC) g4 (e323_0 _ _ _) (fun y u D J => (e323_7 _ _ _ y 0).trans (gd_t rfl)) (fun u D J => e323_11 _ _ _) (fun u D J => e323_14 _ _ _)
  refine wp_eq (e333_1328 _) (wp_gd o1 (wp_gd o2 (wp_gd o3 (wp_iE r ?_))))
  refine wp_eq (e333_1346 _ _) (wp_eq (e333_1347 _ _) (wp_gd o1 (wp_gd o2 (wp_gd o3 ?_))))
  obtain ⟨Y, hY, D2, J2, rfl, a1, a2, a3, a4⟩ := wp_dep (g3 u1 J1 D1 (hM.cls hn k2))
  refine wp_iE hY ?_
  refine wp_eq (e333_1364 _ _ _) (wp_eq (e333_1365 _ _ _) (wp_iE e171_0 ?_))
  rw [a3]
  have hN := hQ σ' u1 D2 J2 g1 k3 (k1.mv (fun q hq => a4 q hq)) a2
  refine wp_eq (e333_1367 _ _ _ _) (wp_t rfl ?_)
  cases res with
  | inl v =>
    refine wp_f (fun z => z rfl) ?_
    have e95 : J2 95 0 = Int32.toInt64 v := by rw [a1]; exact k4 v rfl
    rw [e95]
    exact wp_t (cmp_rfl _) (wp_weak (by simp [lle, lng]) hN)
  | inr e =>
    have he : e = 1 ∨ e = 2 := g4
    rcases he with rfl | rfl
    · exact wp_t (by decide) (wp_weak (by simp [lle, lng]) hN)
    · exact wp_t (by decide) (wp_weak (by simp [lle, lng]) hN)
theorem arm_35 {X : XS} {u : Nat} {D : DD} {J : JJ} {σ : Sg} {x4 : Int32} {Q : Rs → Prop} (hσ : SgOk σ) (hC : CI σ D) (hM : MI σ D) (o1 : ob (x4 + 1) X.2 = true) (o2 : ob (x4 + 2) X.2 = true) (o3 : ob (x4 + 3) X.2 = true) (o4 : ob (x4 + 4) X.2 = true) (o5 : ob (x4 + 5) X.2 = true) (hQ : NxQ X u x4 Q) : Wp (Ev X 60 333 (1383, [.ref 900000, .ref 0, .ref 70, .ref 95, .int x4, .null, .null], [], hS u D J)) Q := by
  have hn := hσ.2.1.1.1
  obtain ⟨res, σ', g1, g2, g3, g4⟩ := p_years (X := X) (d := 8) (x := X.1 (x4 + 1).toNatClampNeg) (y := X.1 (x4 + 2).toNatClampNeg) (z := X.1 (x4 + 3).toNatClampNeg) hσ
  obtain ⟨D1, u1, J1, r, k1, k2, k3, k4⟩ := wr_C (g := Int32.toInt64) (g2 u J D hC) g4 (e324_0 _ _ _) (fun y u D J => (e324_7 _ _ _ y 0).trans (gd_t rfl)) (fun u D J => e324_11 _ _ _) (fun u D J => e324_14 _ _ _)
  refine wp_eq (e333_1383 _) (wp_gd o1 (wp_gd o2 (wp_gd o3 (wp_iE r ?_))))
  refine wp_eq (e333_1401 _ _) (wp_eq (e333_1402 _ _) (wp_gd o1 (wp_gd o2 (wp_gd o3 ?_))))
  obtain ⟨Y, hY, D2, J2, rfl, a1, a2, a3, a4⟩ := wp_dep (g3 u1 J1 D1 (hM.cls hn k2))
  refine wp_iE hY ?_
  refine wp_eq (e333_1419 _ _ _) (wp_eq (e333_1420 _ _ _) (wp_iE e171_0 ?_))
  rw [a3]
  have hN := hQ σ' u1 D2 J2 g1 k3 (k1.mv (fun q hq => a4 q hq)) a2
  refine wp_eq (e333_1422 _ _ _ _) (wp_t rfl ?_)
  cases res with
  | inl v =>
    refine wp_f (fun z => z rfl) ?_
    have e95 : J2 95 0 = Int32.toInt64 v := by rw [a1]; exact k4 v rfl
    rw [e95]
    exact wp_t (cmp_rfl _) (wp_weak (by simp [lle, lng]) hN)
  | inr e =>
    have he : e = 1 ∨ e = 2 := g4
    rcases he with rfl | rfl
    · exact wp_t (by decide) (wp_weak (by simp [lle, lng]) hN)
    · exact wp_t (by decide) (wp_weak (by simp [lle, lng]) hN)
theorem arm_36 {X : XS} {u : Nat} {D : DD} {J : JJ} {σ : Sg} {x4 : Int32} {Q : Rs → Prop} (hσ : SgOk σ) (hC : CI σ D) (hM : MI σ D) (o1 : ob (x4 + 1) X.2 = true) (o2 : ob (x4 + 2) X.2 = true) (o3 : ob (x4 + 3) X.2 = true) (o4 : ob (x4 + 4) X.2 = true) (o5 : ob (x4 + 5) X.2 = true) (hQ : NxQ X u x4 Q) : Wp (Ev X 60 333 (1438, [.ref 900000, .ref 0, .ref 70, .ref 95, .int x4, .null, .null], [], hS u D J)) Q := by
  have hn := hσ.2.1.1.1
  obtain ⟨res, σ', g1, g2, g3, g4⟩ := p_ahead (X := X) (d := 8) (x := X.1 (x4 + 1).toNatClampNeg) (y := X.1 (x4 + 2).toNatClampNeg) hσ
  obtain ⟨D1, u1, J1, r, k1, k2, k3, k4⟩ := wr_C (g := Int32.toInt64) (g2 u J D hC) g4 (e325_0 _ _) (fun y u D J => (e325_6 _ _ y 0).trans (gd_t rfl)) (fun u D J => e325_10 _ _) (fun u D J => e325_13 _ _)
  refine wp_eq (e333_1438 _) (wp_gd o1 (wp_gd o2 (wp_iE r ?_)))
  refine wp_eq (e333_1451 _ _) (wp_eq (e333_1452 _ _) (wp_gd o1 (wp_gd o2 ?_)))
  obtain ⟨Y, hY, D2, J2, rfl, a1, a2, a3, a4⟩ := wp_dep (g3 u1 J1 D1 (hM.cls hn k2))
  refine wp_iE hY ?_
  refine wp_eq (e333_1464 _ _ _) (wp_eq (e333_1465 _ _ _) (wp_iE e171_0 ?_))
  rw [a3]
  have hN := hQ σ' u1 D2 J2 g1 k3 (k1.mv (fun q hq => a4 q hq)) a2
  refine wp_eq (e333_1467 _ _ _ _) (wp_t rfl ?_)
  cases res with
  | inl v =>
    refine wp_f (fun z => z rfl) ?_
    have e95 : J2 95 0 = Int32.toInt64 v := by rw [a1]; exact k4 v rfl
    rw [e95]
    exact wp_t (cmp_rfl _) (wp_weak (by simp [lle, lng]) hN)
  | inr e =>
    have he : e = 1 ∨ e = 2 := g4
    rcases he with rfl | rfl
    · exact wp_t (by decide) (wp_weak (by simp [lle, lng]) hN)
    · exact wp_t (by decide) (wp_weak (by simp [lle, lng]) hN)
theorem arm_37 {X : XS} {u : Nat} {D : DD} {J : JJ} {σ : Sg} {x4 : Int32} {Q : Rs → Prop} (hσ : SgOk σ) (hC : CI σ D) (hM : MI σ D) (o1 : ob (x4 + 1) X.2 = true) (o2 : ob (x4 + 2) X.2 = true) (o3 : ob (x4 + 3) X.2 = true) (o4 : ob (x4 + 4) X.2 = true) (o5 : ob (x4 + 5) X.2 = true) (hQ : NxQ X u x4 Q) : Wp (Ev X 60 333 (1483, [.ref 900000, .ref 0, .ref 70, .ref 95, .int x4, .null, .null], [], hS u D J)) Q := by
  have hn := hσ.2.1.1.1
  obtain ⟨res, σ', g1, g2, g3, g4⟩ := p_putBy (X := X) (d := 8) (x := X.1 (x4 + 1).toNatClampNeg) (y := X.1 (x4 + 2).toNatClampNeg) (z := X.1 (x4 + 3).toNatClampNeg) hσ
  obtain ⟨D1, u1, J1, r, k1, k2, k3, k4⟩ := wr_C (g := Int32.toInt64) (g2 u J D hC) g4 (e326_0 _ _ _) (fun y u D J => (e326_7 _ _ _ y 0).trans (gd_t rfl)) (fun u D J => e326_11 _ _ _) (fun u D J => e326_14 _ _ _)
  refine wp_eq (e333_1483 _) (wp_gd o1 (wp_gd o2 (wp_gd o3 (wp_iE r ?_))))
  refine wp_eq (e333_1501 _ _) (wp_eq (e333_1502 _ _) (wp_gd o1 (wp_gd o2 (wp_gd o3 ?_))))
  obtain ⟨Y, hY, D2, J2, rfl, a1, a2, a3, a4⟩ := wp_dep (g3 u1 J1 D1 (hM.cls hn k2))
  refine wp_iE hY ?_
  refine wp_eq (e333_1519 _ _ _) (wp_eq (e333_1520 _ _ _) (wp_iE e171_0 ?_))
  rw [a3]
  have hN := hQ σ' u1 D2 J2 g1 k3 (k1.mv (fun q hq => a4 q hq)) a2
  refine wp_eq (e333_1522 _ _ _ _) (wp_t rfl ?_)
  cases res with
  | inl v =>
    refine wp_f (fun z => z rfl) ?_
    have e95 : J2 95 0 = Int32.toInt64 v := by rw [a1]; exact k4 v rfl
    rw [e95]
    exact wp_t (cmp_rfl _) (wp_weak (by simp [lle, lng]) hN)
  | inr e =>
    have he : e = 1 ∨ e = 2 := g4
    rcases he with rfl | rfl
    · exact wp_t (by decide) (wp_weak (by simp [lle, lng]) hN)
    · exact wp_t (by decide) (wp_weak (by simp [lle, lng]) hN)
theorem arm_38 {X : XS} {u : Nat} {D : DD} {J : JJ} {σ : Sg} {x4 : Int32} {Q : Rs → Prop} (hσ : SgOk σ) (hC : CI σ D) (hM : MI σ D) (o1 : ob (x4 + 1) X.2 = true) (o2 : ob (x4 + 2) X.2 = true) (o3 : ob (x4 + 3) X.2 = true) (o4 : ob (x4 + 4) X.2 = true) (o5 : ob (x4 + 5) X.2 = true) (hQ : NxQ X u x4 Q) : Wp (Ev X 60 333 (1538, [.ref 900000, .ref 0, .ref 70, .ref 95, .int x4, .null, .null], [], hS u D J)) Q := by
  have hn := hσ.2.1.1.1
  obtain ⟨res, σ', g1, g2, g3, g4⟩ := p_forward (X := X) (d := 8) (x := X.1 (x4 + 1).toNatClampNeg) (y := X.1 (x4 + 2).toNatClampNeg) (z := X.1 (x4 + 3).toNatClampNeg) hσ
  obtain ⟨D1, u1, J1, r, k1, k2, k3, k4⟩ := wr_C (g := Int32.toInt64) (g2 u J D hC) g4 (e327_0 _ _ _) (fun y u D J => (e327_7 _ _ _ y 0).trans (gd_t rfl)) (fun u D J => e327_11 _ _ _) (fun u D J => e327_14 _ _ _)
  refine wp_eq (e333_1538 _) (wp_gd o1 (wp_gd o2 (wp_gd o3 (wp_iE r ?_))))
  refine wp_eq (e333_1556 _ _) (wp_eq (e333_1557 _ _) (wp_gd o1 (wp_gd o2 (wp_gd o3 ?_))))
  obtain ⟨Y, hY, D2, J2, rfl, a1, a2, a3, a4⟩ := wp_dep (g3 u1 J1 D1 (hM.cls hn k2))
  refine wp_iE hY ?_
  refine wp_eq (e333_1574 _ _ _) (wp_eq (e333_1575 _ _ _) (wp_iE e171_0 ?_))
  rw [a3]
  have hN := hQ σ' u1 D2 J2 g1 k3 (k1.mv (fun q hq => a4 q hq)) a2
  refine wp_eq (e333_1577 _ _ _ _) (wp_t rfl ?_)
  cases res with
  | inl v =>
    refine wp_f (fun z => z rfl) ?_
    have e95 : J2 95 0 = Int32.toInt64 v := by rw [a1]; exact k4 v rfl
    rw [e95]
    exact wp_t (cmp_rfl _) (wp_weak (by simp [lle, lng]) hN)
  | inr e =>
    have he : e = 1 ∨ e = 2 := g4
    rcases he with rfl | rfl
    · exact wp_t (by decide) (wp_weak (by simp [lle, lng]) hN)
    · exact wp_t (by decide) (wp_weak (by simp [lle, lng]) hN)
theorem arm_39 {X : XS} {u : Nat} {D : DD} {J : JJ} {σ : Sg} {x4 : Int32} {Q : Rs → Prop} (hσ : SgOk σ) (hC : CI σ D) (hM : MI σ D) (o1 : ob (x4 + 1) X.2 = true) (o2 : ob (x4 + 2) X.2 = true) (o3 : ob (x4 + 3) X.2 = true) (o4 : ob (x4 + 4) X.2 = true) (o5 : ob (x4 + 5) X.2 = true) (hQ : NxQ X u x4 Q) : Wp (Ev X 60 333 (1593, [.ref 900000, .ref 0, .ref 70, .ref 95, .int x4, .null, .null], [], hS u D J)) Q := by
  have hn := hσ.2.1.1.1
  obtain ⟨res, σ', g1, g2, g3, g4⟩ := p_spread (X := X) (d := 8) (x := X.1 (x4 + 1).toNatClampNeg) (y := X.1 (x4 + 2).toNatClampNeg) hσ
  obtain ⟨D1, u1, J1, r, k1, k2, k3, k4⟩ := wr_C (g := Int32.toInt64) (g2 u J D hC) g4 (e328_0 _ _) (fun y u D J => (e328_6 _ _ y 0).trans (gd_t rfl)) (fun u D J => e328_10 _ _) (fun u D J => e328_13 _ _)
  refine wp_eq (e333_1593 _) (wp_gd o1 (wp_gd o2 (wp_iE r ?_)))
  refine wp_eq (e333_1606 _ _) (wp_eq (e333_1607 _ _) (wp_gd o1 (wp_gd o2 ?_)))
  obtain ⟨Y, hY, D2, J2, rfl, a1, a2, a3, a4⟩ := wp_dep (g3 u1 J1 D1 (hM.cls hn k2))
  refine wp_iE hY ?_
  refine wp_eq (e333_1619 _ _ _) (wp_eq (e333_1620 _ _ _) (wp_iE e171_0 ?_))
  rw [a3]
  have hN := hQ σ' u1 D2 J2 g1 k3 (k1.mv (fun q hq => a4 q hq)) a2
  refine wp_eq (e333_1622 _ _ _ _) (wp_t rfl ?_)
  cases res with
  | inl v =>
    refine wp_f (fun z => z rfl) ?_
    have e95 : J2 95 0 = Int32.toInt64 v := by rw [a1]; exact k4 v rfl
    rw [e95]
    exact wp_t (cmp_rfl _) (wp_weak (by simp [lle, lng]) hN)
  | inr e =>
    have he : e = 1 ∨ e = 2 := g4
    rcases he with rfl | rfl
    · exact wp_t (by decide) (wp_weak (by simp [lle, lng]) hN)
    · exact wp_t (by decide) (wp_weak (by simp [lle, lng]) hN)
theorem arm_40 {X : XS} {u : Nat} {D : DD} {J : JJ} {σ : Sg} {x4 : Int32} {Q : Rs → Prop} (hσ : SgOk σ) (hC : CI σ D) (hM : MI σ D) (o1 : ob (x4 + 1) X.2 = true) (o2 : ob (x4 + 2) X.2 = true) (o3 : ob (x4 + 3) X.2 = true) (o4 : ob (x4 + 4) X.2 = true) (o5 : ob (x4 + 5) X.2 = true) (hQ : NxQ X u x4 Q) : Wp (Ev X 60 333 (1638, [.ref 900000, .ref 0, .ref 70, .ref 95, .int x4, .null, .null], [], hS u D J)) Q := by
  have hn := hσ.2.1.1.1
  obtain ⟨res, σ', g1, g2, g3, g4⟩ := p_toLie (X := X) (d := 8) (x := X.1 (x4 + 1).toNatClampNeg) (y := X.1 (x4 + 2).toNatClampNeg) (z := X.1 (x4 + 3).toNatClampNeg) hσ
  obtain ⟨D1, u1, J1, r, k1, k2, k3, k4⟩ := wr_C (g := Int32.toInt64) (g2 u J D hC) g4 (e329_0 _ _ _) (fun y u D J => (e329_7 _ _ _ y 0).trans (gd_t rfl)) (fun u D J => e329_11 _ _ _) (fun u D J => e329_14 _ _ _)
  refine wp_eq (e333_1638 _) (wp_gd o1 (wp_gd o2 (wp_gd o3 (wp_iE r ?_))))
  refine wp_eq (e333_1656 _ _) (wp_eq (e333_1657 _ _) (wp_gd o1 (wp_gd o2 (wp_gd o3 ?_))))
  obtain ⟨Y, hY, D2, J2, rfl, a1, a2, a3, a4⟩ := wp_dep (g3 u1 J1 D1 (hM.cls hn k2))
  refine wp_iE hY ?_
  refine wp_eq (e333_1674 _ _ _) (wp_eq (e333_1675 _ _ _) (wp_iE e171_0 ?_))
  rw [a3]
  have hN := hQ σ' u1 D2 J2 g1 k3 (k1.mv (fun q hq => a4 q hq)) a2
  refine wp_eq (e333_1677 _ _ _ _) (wp_t rfl ?_)
  cases res with
  | inl v =>
    refine wp_f (fun z => z rfl) ?_
    have e95 : J2 95 0 = Int32.toInt64 v := by rw [a1]; exact k4 v rfl
    rw [e95]
    exact wp_t (cmp_rfl _) (wp_weak (by simp [lle, lng]) hN)
  | inr e =>
    have he : e = 1 ∨ e = 2 := g4
    rcases he with rfl | rfl
    · exact wp_t (by decide) (wp_weak (by simp [lle, lng]) hN)
    · exact wp_t (by decide) (wp_weak (by simp [lle, lng]) hN)
theorem arm_41 {X : XS} {u : Nat} {D : DD} {J : JJ} {σ : Sg} {x4 : Int32} {Q : Rs → Prop} (hσ : SgOk σ) (hC : CI σ D) (hM : MI σ D) (o1 : ob (x4 + 1) X.2 = true) (o2 : ob (x4 + 2) X.2 = true) (o3 : ob (x4 + 3) X.2 = true) (o4 : ob (x4 + 4) X.2 = true) (o5 : ob (x4 + 5) X.2 = true) (hQ : NxQ X u x4 Q) : Wp (Ev X 60 333 (1693, [.ref 900000, .ref 0, .ref 70, .ref 95, .int x4, .null, .null], [], hS u D J)) Q := by
  have hn := hσ.2.1.1.1
  obtain ⟨res, σ', g1, g2, g3, g4⟩ := p_toBar (X := X) (d := 9)  hσ
  cases res with
  | inr e => exact absurd g4 (fun z => z)
  | inl v =>
    obtain ⟨Y, hY, D1, rfl, k1, k2⟩ := g2 u J D hC
    refine wp_eq (e333_1693 _) (wp_iE hY ?_)
    obtain ⟨Y, hY, D2, J2, rfl, a1, a2, a3, a4⟩ := g3 u J D1 (hM.cls hn k2)
    refine wp_eq (e333_1695 _ _) (wp_iE hY ?_)
    exact wp_eq (e333_1697 _ _ _) (wp_t rfl (hQ σ' u D2 J2 g1 (Nat.le_succ _) (k1.mv (fun q hq => a4 q hq)) a2))
theorem arm_42 {X : XS} {u : Nat} {D : DD} {J : JJ} {σ : Sg} {x4 : Int32} {Q : Rs → Prop} (hσ : SgOk σ) (hC : CI σ D) (hM : MI σ D) (o1 : ob (x4 + 1) X.2 = true) (o2 : ob (x4 + 2) X.2 = true) (o3 : ob (x4 + 3) X.2 = true) (o4 : ob (x4 + 4) X.2 = true) (o5 : ob (x4 + 5) X.2 = true) (hQ : NxQ X u x4 Q) : Wp (Ev X 60 333 (1700, [.ref 900000, .ref 0, .ref 70, .ref 95, .int x4, .null, .null], [], hS u D J)) Q := by
  have hn := hσ.2.1.1.1
  obtain ⟨σ', g1, g2, g3⟩ := p_image (X := X) (d := 9) hσ
  obtain ⟨Y, hY, D1, rfl, k1, k2⟩ := g2 u J D hC
  refine wp_eq (e333_1700 _) (wp_vE hY ?_)
  obtain ⟨Y, hY, D2, rfl, a2, a4⟩ := g3 u J D1 (hM.cls hn k2)
  refine wp_eq (e333_1702 _) (wp_vE hY ?_)
  exact wp_eq (e333_1704 _) (hQ σ' u D2 J g1 (Nat.le_succ _) (k1.mv (fun q hq => a4 q hq)) a2)
theorem arm_43 {X : XS} {u : Nat} {D : DD} {J : JJ} {σ : Sg} {x4 : Int32} {Q : Rs → Prop} (hσ : SgOk σ) (hC : CI σ D) (hM : MI σ D) (o1 : ob (x4 + 1) X.2 = true) (o2 : ob (x4 + 2) X.2 = true) (o3 : ob (x4 + 3) X.2 = true) (o4 : ob (x4 + 4) X.2 = true) (o5 : ob (x4 + 5) X.2 = true) (hQ : NxQ X u x4 Q) : Wp (Ev X 60 333 (1705, [.ref 900000, .ref 0, .ref 70, .ref 95, .int x4, .null, .null], [], hS u D J)) Q := by
  have hn := hσ.2.1.1.1
  obtain ⟨res, σ', g1, g2, g3, g4⟩ := p_restore (X := X) (d := 9)  hσ
  cases res with
  | inr e => exact absurd g4 (fun z => z)
  | inl v =>
    obtain ⟨Y, hY, D1, rfl, k1, k2⟩ := g2 u J D hC
    refine wp_eq (e333_1705 _) (wp_iE hY ?_)
    obtain ⟨Y, hY, D2, J2, rfl, a1, a2, a3, a4⟩ := g3 u J D1 (hM.cls hn k2)
    refine wp_eq (e333_1707 _ _) (wp_iE hY ?_)
    exact wp_eq (e333_1709 _ _ _) (wp_t rfl (hQ σ' u D2 J2 g1 (Nat.le_succ _) (k1.mv (fun q hq => a4 q hq)) a2))
