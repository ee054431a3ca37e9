/-! ===== the language, purely: tokens by kinds K and values V ===== -/
abbrev Pr : Type := (Int32 × Nat) ⊕ (Nat × RuF)
def opI (o a b : Int32) : Int32 := if o = 0 then (if ¬ a = 0 then 1 else if b = 0 then 0 else 1) else if o = 1 then (if a = 0 then 0 else if b = 0 then 0 else 1) else if o = 2 then (if ¬ a = 0 then 0 else 1) else if o = 3 then (if b ≤ a then 0 else 1) else if o = 4 then (if ¬ a = b then 0 else 1) else if o = 5 then a + b else if o = 6 then a - b else if o = 7 then a * b else (if ¬ b = 0 then a / b else 0)
def vlOk (mi : Bool) (x : Int32) : Bool := if x = 4 then !mi else if x = 5 then !mi else if x = 6 then mi else !(decide (x < 0))
def notF : Nat → RuF → RuF
  | 0, f => f
  | j + 1, f => notF j (fun v => opI 2 (f v) (f v))
section PURE
variable (K : Nat → Nat) (V : Nat → Int32)
def sgAt (c : Int32) (k : Nat) : Bool := decide (K k = 3) && decide (V k = c)
def wdAt (w : Int32) (k : Nat) : Bool := decide (K k = 1) && decide (V k = w)
def opAt (L k : Nat) : Int32 := if L = 0 then (if wdAt K V 5 k = true then 0 else -1) else if L = 1 then (if wdAt K V 6 k = true then 1 else -1) else if L = 3 then (if sgAt K V 43 k = true then 5 else if sgAt K V 45 k = true then 6 else -1) else (if sgAt K V 42 k = true then 7 else if sgAt K V 47 k = true then 8 else -1)
def pPart (inner : Option (Nat → Pr)) (mi : Bool) (k : Nat) : Pr :=
  if sgAt K V 40 k = true then (match inner with
    | none => .inl (if K (k + 1) = 2 then 2 else if K (k + 1) = 1 then 2 else if sgAt K V 40 (k + 1) = true then 2 else 1, k + 1)
    | some f => match f (k + 1) with
      | .inl e => .inl e
      | .inr (k2, g) => if sgAt K V 41 k2 = true then .inr (k2 + 1, g) else .inl (1, k2))
  else if K k = 2 then (if V k ≤ 9999 then .inr (k + 1, fun _ => V k) else .inl (2, k))
  else if K k = 1 then (if vlOk mi (V k - 8) = true then .inr (k + 1, fun v => v (V k - 8).toNatClampNeg) else .inl (3, k))
  else .inl (1, k)
def pLoop (sub : Nat → Pr) (L : Nat) : Nat → Nat → RuF → Pr
  | 0, k, f => .inr (k, f)
  | r + 1, k, f => if opAt K V L k = -1 then .inr (k, f) else match sub (k + 1) with
    | .inl e => .inl e
    | .inr (k2, g) => pLoop sub L r k2 (fun v => opI (opAt K V L k) (f v) (g v))
def pBin (sub : Nat → Pr) (L k : Nat) : Pr := match sub k with
  | .inl e => .inl e
  | .inr (k1, f) => pLoop K V sub L 700 k1 f
def pTail (sub : Nat → Pr) (k j : Nat) : Pr := match sub k with
  | .inl e => .inl e
  | .inr (k1, f) => if sgAt K V 60 k1 = true then (match sub (k1 + 1) with
      | .inl e => .inl e
      | .inr (k2, g) => .inr (k2, notF j (fun v => opI 3 (f v) (g v))))
    else if sgAt K V 61 k1 = true then (match sub (k1 + 1) with
      | .inl e => .inl e
      | .inr (k2, g) => .inr (k2, notF j (fun v => opI 4 (f v) (g v))))
    else .inr (k1, notF j f)
def pNots (sub : Nat → Pr) : Nat → Nat → Nat → Pr
  | 0, k, j => if wdAt K V 7 k = true then .inl (2, k) else pTail K V sub k j
  | r + 1, k, j => if wdAt K V 7 k = true then pNots sub r (k + 1) (j + 1) else pTail K V sub k j
def pTop (inner : Option (Nat → Pr)) (mi : Bool) : Nat → Pr := pBin K V (pBin K V (fun k => pNots K V (pBin K V (pBin K V (pPart K V inner mi) 4) 3) 6 k 0) 1) 0
def pE (mi : Bool) : Nat → Nat → Pr
  | 0 => pTop K V none mi
  | j + 1 => pTop K V (some (pE mi j)) mi
end PURE
/-! steps over registers -/
def runR (o l r : Nat → Int32) (b : Nat) : Nat → (Nat → Int32) → Nat → Int32
  | 0, g => g
  | s + 1, g => upd (runR o l r b s g) (357 + b + s) (opI (o (b + s)) (runR o l r b s g (l (b + s)).toNatClampNeg) (runR o l r b s g (r (b + s)).toNatClampNeg))
theorem runR_lo {o l r : Nat → Int32} {b : Nat} {g : Nat → Int32} {x s : Nat} (hx : x < 357 + b + s) : ∀ j, runR o l r b (s + j) g x = runR o l r b s g x
  | 0 => rfl
  | j + 1 => by
    show upd (runR o l r b (s + j) g) (357 + b + (s + j)) _ x = _
    rw [upd_ne (by omega)]; exact runR_lo hx j
theorem runR_lo0 {o l r : Nat → Int32} {b : Nat} {g : Nat → Int32} {x : Nat} (hx : x < 357) : ∀ s, runR o l r b s g x = g x
  | 0 => rfl
  | s + 1 => by
    show upd (runR o l r b s g) (357 + b + s) _ x = _
    rw [upd_ne (by omega)]; exact runR_lo0 hx s
theorem runR_cg {o l r o' l' r' : Nat → Int32} {b : Nat} {g : Nat → Int32} : ∀ s, (∀ i, i < b + s → o' i = o i ∧ l' i = l i ∧ r' i = r i) → runR o' l' r' b s g = runR o l r b s g
  | 0, _ => rfl
  | s + 1, h => by
    rw [runR, runR, runR_cg s (fun i hi => h i (by omega)), (h (b + s) (by omega)).1, (h (b + s) (by omega)).2.1, (h (b + s) (by omega)).2.2]
def dpV (mi : Bool) (i : Nat) : Prop := if mi = true then (i < 4 ∨ i = 6) else i < 6
def Dep (mi : Bool) (f : RuF) : Prop := ∀ v v' : Nat → Int32, (∀ i, dpV mi i → v i = v' i) → f v = f v'
theorem Dep.op {mi : Bool} {f g : RuF} (o : Int32) (hf : Dep mi f) (hg : Dep mi g) : Dep mi (fun v => opI o (f v) (g v)) := fun v v' h => by
  show opI o (f v) (g v) = opI o (f v') (g v')
  rw [hf v v' h, hg v v' h]
def Rg (mi : Bool) (b : Nat) (D : DD) (ns ss r : Nat) (f : RuF) : Prop := (r < 7 + ns ∨ (357 + b ≤ r ∧ r < 357 + ss)) ∧ Dep mi f ∧ ∀ g : Nat → Int32, (∀ i, 7 ≤ i → i < 7 + ns → g i = D 15 i) → runR (D 16) (D 17) (D 18) b (ss - b) g r = f g
def ExD (D : DD) (ns ss : Nat) (D' : DD) : Prop := (∀ i, 7 ≤ i → i < 7 + ns → D' 15 i = D 15 i) ∧ ∀ i, i < ss → D' 16 i = D 16 i ∧ D' 17 i = D 17 i ∧ D' 18 i = D 18 i
theorem ExD.rf (D : DD) (ns ss : Nat) : ExD D ns ss D := ⟨fun _ _ _ => rfl, fun _ _ => ⟨rfl, rfl, rfl⟩⟩
theorem ExD.tr {A B C : DD} {ns ss ns1 ss1 : Nat} (h : ExD A ns ss B) (h1 : ExD B ns1 ss1 C) (hn : ns ≤ ns1) (hs : ss ≤ ss1) : ExD A ns ss C := ⟨fun i a c => (h1.1 i a (by omega)).trans (h.1 i a c), fun i hi => by
  obtain ⟨a1, a2, a3⟩ := h.2 i hi
  obtain ⟨c1, c2, c3⟩ := h1.2 i (by omega)
  exact ⟨c1.trans a1, c2.trans a2, c3.trans a3⟩⟩
theorem Rg.mv {mi : Bool} {b : Nat} {D D' : DD} {ns ss ns' ss' r : Nat} {f : RuF} (h : Rg mi b D ns ss r f) (hE : ExD D ns ss D') (h1 : ns ≤ ns') (h2 : ss ≤ ss') (h3 : ns ≤ 350) (hb : b ≤ ss) : Rg mi b D' ns' ss' r f := by
  obtain ⟨a1, a2, a3⟩ := h
  refine ⟨by omega, a2, fun g hg => ?_⟩
  rw [← a3 g (fun i i1 i2 => (hg i i1 (by omega)).trans (hE.1 i i1 i2)), show ss' - b = (ss - b) + (ss' - ss) by omega, runR_lo (by omega)]
  rw [runR_cg (ss - b) (fun i hi => hE.2 i (by omega))]
theorem Rg.st {mi : Bool} {b : Nat} {D D' : DD} {ns ss l r : Nat} {f g : RuF} {o : Int32} (hf : Rg mi b D ns ss l f) (hg : Rg mi b D ns ss r g) (hE : ExD D ns ss D') (hb : b ≤ ss) (h3 : ns ≤ 350) (hs : ss < 350) (e1 : D' 16 ss = o) (e2 : D' 17 ss = nI l) (e3 : D' 18 ss = nI r) : Rg mi b D' ns (ss + 1) (357 + ss) (fun v => opI o (f v) (g v)) := by
  refine ⟨Or.inr ⟨by omega, by omega⟩, hf.2.1.op o hg.2.1, fun v hv => ?_⟩
  have hl : l < 2 ^ 31 := by rcases hf.1 with h | h <;> omega
  have hr : r < 2 ^ 31 := by rcases hg.1 with h | h <;> omega
  have k1 := (hf.mv hE (Nat.le_refl _) (Nat.le_refl _) h3 hb).2.2 v hv
  have k2 := (hg.mv hE (Nat.le_refl _) (Nat.le_refl _) h3 hb).2.2 v hv
  rw [show ss + 1 - b = (ss - b) + 1 by omega, runR, show 357 + b + (ss - b) = 357 + ss by omega, show b + (ss - b) = ss by omega, upd_at, e1, e2, e3, nI_clamp hl, nI_clamp hr, k1, k2]
/-! ===== the class reads by tokens ===== -/
def kK (t : Tx) (n k : Nat) : Nat := kdN t n (tkN t n k)
def vV (t : Tx) (n k : Nat) : Int32 := tvl t n (tkN t n k)
theorem kd_lt {t : Tx} {n p : Nat} : kdN t n p < 5 := by
  unfold kdN
  split
  · split
    · decide
    · split
      · decide
      · split <;> decide
  · decide
theorem kd_0 {t : Tx} {n p : Nat} (h : p < n) : kdN t n p ≠ 0 := by
  unfold kdN
  rw [if_pos h]
  split
  · decide
  · split
    · decide
    · split <;> decide
theorem kd_n {t : Tx} {n : Nat} : kdN t n n = 0 := by
  unfold kdN
  rw [if_neg (Nat.lt_irrefl n)]
def At (t : Tx) (n m k : Nat) (D : DD) : Prop := TkC t n m D ∧ k ≤ m ∧ D 12 5 = nI k
def FrD (D D' : DD) : Prop := (∀ q, q ≠ 12 → q ≠ 13 → q < 15 ∨ 18 < q → D' q = D q) ∧ (∀ k, k ≠ 5 → k ≠ 6 → D' 12 k = D 12 k) ∧ ∀ k, k ≠ 4 → k ≠ 8 → D' 13 k = D 13 k
theorem FrD.rf (D : DD) : FrD D D := ⟨fun _ _ _ _ => rfl, fun _ _ _ => rfl, fun _ _ _ => rfl⟩
theorem FrD.tr {A B C : DD} (h : FrD A B) (h1 : FrD B C) : FrD A C := ⟨fun q a b c => (h1.1 q a b c).trans (h.1 q a b c), fun k a b => (h1.2.1 k a b).trans (h.2.1 k a b), fun k a b => (h1.2.2 k a b).trans (h.2.2 k a b)⟩
theorem FrD.u5 {D : DD} {v : Int32} : FrD D (ud D 12 5 v) := ⟨fun q a _ _ => ud_q a, fun k a _ => ud_k a, fun k _ _ => by rw [ud_q (by decide)]⟩
theorem FrD.u6 {D : DD} {v : Int32} : FrD D (ud D 12 6 v) := ⟨fun q a _ _ => ud_q a, fun k _ a => ud_k a, fun k _ _ => by rw [ud_q (by decide)]⟩
theorem TkC.mv {t : Tx} {n m : Nat} {D D' : DD} (h : TkC t n m D) (h1 : D' 22 = D 22) (h2 : D' 23 = D 23) (h3 : D' 24 = D 24) : TkC t n m D' := by
  unfold TkC TkA
  rw [h1, h2, h3]; exact h
theorem TkC.fr {t : Tx} {n m : Nat} {D D' : DD} (h : TkC t n m D) (hf : FrD D D') : TkC t n m D' := h.mv (hf.1 22 (by decide) (by decide) (by decide)) (hf.1 23 (by decide) (by decide) (by decide)) (hf.1 24 (by decide) (by decide) (by decide))
section AT
variable {X : XS} {d u : Nat} {D D' : DD} {J : JJ} {t : Tx} {n m k : Nat}
theorem TkC.lt (h : TkC t n m D) (hk : k < m) : tkN t n k < n := (h.2.2.1 k hk).1
theorem TkC.inc (h : TkC t n m D) (hk : k < m) : tkN t n k + 1 ≤ tkN t n (k + 1) := by
  have := tk_lt (h.lt hk)
  omega
theorem At.K (h : At t n m k D) : D 22 k = nI (kK t n k) := by
  rcases Nat.lt_or_ge k m with q | q
  · exact (h.1.2.2.1 k q).2.1
  · have e : k = m := Nat.le_antisymm h.2.1 q
    unfold kK
    rw [e, h.1.2.1, kd_n]; exact h.1.2.2.2.1
theorem At.V (h : At t n m k D) (q : k < m) : D 24 k = vV t n k := (h.1.2.2.1 k q).2.2.2
theorem At.lt (h : At t n m k D) (q : kK t n k ≠ 0) : k < m := by
  rcases Nat.lt_or_ge k m with z | z
  · exact z
  · have e : k = m := Nat.le_antisymm h.2.1 z
    exact absurd (by unfold kK; rw [e, h.1.2.1, kd_n]) q
theorem kK_lt : kK t n k < 5 := kd_lt
theorem At.le (h : At t n m k D) (hn : n ≤ 700) : k ≤ 700 := by
  have := h.1.1
  have := h.2.1
  omega
theorem At.ob (h : At t n m k D) (hn : n ≤ 700) : ob (D 12 5) 701 = true := by
  have := h.le hn
  rw [h.2.2]; exact ob_n (by omega) (by decide)
theorem At.cl (h : At t n m k D) (hn : n ≤ 700) : (D 12 5).toNatClampNeg = k := by
  have := h.le hn
  rw [h.2.2]; exact nI_clamp (by omega)
theorem kI {a b : Nat} (ha : a < 5) (hb : b < 5) : (nI a = nI b) ↔ a = b := nI_eq (by omega) (by omega)
theorem sg_lt (h : At t n m k D) {c : Int32} (q : sgAt (kK t n) (vV t n) c k = true) : k < m := by
  unfold sgAt at q
  simp only [Bool.and_eq_true, decide_eq_true_eq] at q
  exact h.lt (by rw [q.1]; decide)
theorem wd_lt (h : At t n m k D) {c : Int32} (q : wdAt (kK t n) (vV t n) c k = true) : k < m := by
  unfold wdAt at q
  simp only [Bool.and_eq_true, decide_eq_true_eq] at q
  exact h.lt (by rw [q.1]; decide)
theorem c_sg (h : At t n m k D) (hn : n ≤ 700) (c : Int32) : EvM X d 71 [.ref 12, .int c] (hS u D J) = some (.inl (some (.int (bI32 (sgAt (kK t n) (vV t n) c k)))), hS u D J) := by
  refine (e71_0 c).trans ?_
  rw [gd_t (h.ob hn), h.cl hn, h.K]
  by_cases q : kK t n k = 3
  · rw [brF (show ¬ ¬ nI (kK t n k) = 3 from fun z => z ((kI kK_lt (by decide : 3 < 5)).mpr q)), gd_t (h.ob hn), h.V (h.lt (by rw [q]; decide))]
    unfold sgAt
    rw [decide_eq_true q]
    by_cases e : vV t n k = c
    · rw [brF (show ¬ ¬ vV t n k = c from fun z => z e), decide_eq_true e]; rfl
    · rw [brT e, decide_eq_false e]; rfl
  · rw [brT (show ¬ nI (kK t n k) = 3 from fun z => q ((kI kK_lt (by decide : 3 < 5)).mp z))]
    unfold sgAt
    rw [decide_eq_false q]; rfl
theorem c_wd (h : At t n m k D) (hn : n ≤ 700) (c : Int32) : EvM X d 72 [.ref 12, .int c] (hS u D J) = some (.inl (some (.int (bI32 (wdAt (kK t n) (vV t n) c k)))), hS u D J) := by
  refine (e72_0 c).trans ?_
  rw [gd_t (h.ob hn), h.cl hn, h.K]
  by_cases q : kK t n k = 1
  · rw [brF (show ¬ ¬ nI (kK t n k) = 1 from fun z => z ((kI kK_lt (by decide : 1 < 5)).mpr q)), gd_t (h.ob hn), h.V (h.lt (by rw [q]; decide))]
    unfold wdAt
    rw [decide_eq_true q]
    by_cases e : vV t n k = c
    · rw [brF (show ¬ ¬ vV t n k = c from fun z => z e), decide_eq_true e]; rfl
    · rw [brT e, decide_eq_false e]; rfl
  · rw [brT (show ¬ nI (kK t n k) = 1 from fun z => q ((kI kK_lt (by decide : 1 < 5)).mp z))]
    unfold wdAt
    rw [decide_eq_false q]; rfl
theorem c_nx (h : At t n m k D) (hn : n ≤ 700) (hk : k < m) : EvM X d 70 [.ref 12] (hS u D J) = some (.inl none, hS u (ud D 12 5 (nI (k + 1))) J) := by
  refine (e70_0).trans ?_
  rw [gd_t (h.ob hn), h.cl hn, h.K, brF (show ¬ nI (kK t n k) = 0 from fun z => kd_0 (h.1.lt hk) ((kI kK_lt (by decide : 0 < 5)).mp z)), h.2.2, nI_1]
theorem At.nx (h : At t n m k D) (hk : k < m) : At t n m (k + 1) (ud D 12 5 (nI (k + 1))) := ⟨h.1.fr FrD.u5, hk, ud_at _ _ _ _⟩
theorem At.u6 (h : At t n m k D) {v : Int32} : At t n m k (ud D 12 6 v) := ⟨h.1.fr FrD.u6, h.2.1, by rw [ud_k (by decide)]; exact h.2.2⟩
theorem c_fail0 (h : D 12 6 = 0) (x : Int32) : EvM X d 62 [.ref 12, .int x] (hS u D J) = some (.inl (some (.int (-1))), hS u (ud D 12 6 x) J) := by
  refine (e62_0 x).trans ?_
  rw [brF (show ¬ ¬ D 12 6 = 0 from fun z => z h)]
theorem c_fail1 (h : D 12 6 ≠ 0) (x : Int32) : EvM X d 62 [.ref 12, .int x] (hS u D J) = some (.inl (some (.int (-1))), hS u D J) := by
  refine (e62_0 x).trans ?_
  rw [brT (show ¬ D 12 6 = 0 from h)]
theorem c_op (h : At t n m k D) (hn : n ≤ 700) {L : Nat} (hL : L = 0 ∨ L = 1 ∨ L = 3 ∨ L = 4) : EvM X (d + 1) 79 [.ref 12, .int (nI L)] (hS u D J) = some (.inl (some (.int (opAt (kK t n) (vV t n) L k))), hS u D J) := by
  refine (e79_0 _).trans ?_
  rcases hL with rfl | rfl | rfl | rfl
  · rw [brT (show nI 0 = 0 from rfl), c_wd h hn, bI_e, e79_5]
    show _ = (some (.inl (some (.int (if wdAt (kK t n) (vV t n) 5 k = true then 0 else -1))), hS u D J) : Option Rs)
    by_cases q : wdAt (kK t n) (vV t n) 5 k = true
    · rw [q, brF b1T]; rfl
    · rw [Bool.eq_false_iff.mpr q, brT b0F]; rfl
  · rw [brF (show ¬ nI 1 = 0 by decide), brT (show nI 1 = 1 from rfl), c_wd h hn, bI_e, e79_13]
    show _ = (some (.inl (some (.int (if wdAt (kK t n) (vV t n) 6 k = true then 1 else -1))), hS u D J) : Option Rs)
    by_cases q : wdAt (kK t n) (vV t n) 6 k = true
    · rw [q, brF b1T]; rfl
    · rw [Bool.eq_false_iff.mpr q, brT b0F]; rfl
  · rw [brF (show ¬ nI 3 = 0 by decide), brF (show ¬ nI 3 = 1 by decide), brF (show ¬ nI 3 = 2 by decide), brT (show nI 3 = 3 from rfl), c_sg h hn, bI_e, e79_21]
    show _ = (some (.inl (some (.int (if sgAt (kK t n) (vV t n) 43 k = true then 5 else if sgAt (kK t n) (vV t n) 45 k = true then 6 else -1))), hS u D J) : Option Rs)
    by_cases q : sgAt (kK t n) (vV t n) 43 k = true
    · rw [q, brF b1T]; rfl
    · rw [Bool.eq_false_iff.mpr q, brT b0F, c_sg h hn, bI_e, e79_27, if_neg Bool.false_ne_true]
      by_cases q2 : sgAt (kK t n) (vV t n) 45 k = true
      · rw [q2, brF b1T]; rfl
      · rw [Bool.eq_false_iff.mpr q2, brT b0F]; rfl
  · rw [brF (show ¬ nI 4 = 0 by decide), brF (show ¬ nI 4 = 1 by decide), brF (show ¬ nI 4 = 2 by decide), brF (show ¬ nI 4 = 3 by decide), brT (show nI 4 = 4 from rfl), c_sg h hn, bI_e, e79_35]
    show _ = (some (.inl (some (.int (if sgAt (kK t n) (vV t n) 42 k = true then 7 else if sgAt (kK t n) (vV t n) 47 k = true then 8 else -1))), hS u D J) : Option Rs)
    by_cases q : sgAt (kK t n) (vV t n) 42 k = true
    · rw [q, brF b1T]; rfl
    · rw [Bool.eq_false_iff.mpr q, brT b0F, c_sg h hn, bI_e, e79_41, if_neg Bool.false_ne_true]
      by_cases q2 : sgAt (kK t n) (vV t n) 47 k = true
      · rw [q2, brF b1T]; rfl
      · rw [Bool.eq_false_iff.mpr q2, brT b0F]; rfl
theorem op_lt (h : At t n m k D) {L : Nat} (q : opAt (kK t n) (vV t n) L k ≠ -1) : k < m := by
  unfold opAt at q
  split at q
  · split at q
    · next z => exact wd_lt h z
    · exact absurd rfl q
  · split at q
    · split at q
      · next z => exact wd_lt h z
      · exact absurd rfl q
    · split at q
      · split at q
        · next z => exact sg_lt h z
        · split at q
          · next z => exact sg_lt h z
          · exact absurd rfl q
      · split at q
        · next z => exact sg_lt h z
        · split at q
          · next z => exact sg_lt h z
          · exact absurd rfl q
end AT
theorem ixW_r (l : List Int32) : ∀ (ws : List (List Nat)) (i : Nat), ixW l ws i = -1 ∨ ∃ j, i ≤ j ∧ j < i + ws.length ∧ ixW l ws i = nI j
  | [], i => Or.inl rfl
  | w :: ws, i => by
    rw [ixW]
    by_cases h : l = w.map nI
    · rw [if_pos h]; exact Or.inr ⟨i, Nat.le_refl _, by simp, rfl⟩
    · rw [if_neg h]
      rcases ixW_r l ws (i + 1) with q | ⟨j, j1, j2, j3⟩
      · exact Or.inl q
      · refine Or.inr ⟨j, by omega, ?_, j3⟩
        rw [List.length_cons]; omega
theorem kd_1 {t : Tx} {n p : Nat} (h : kdN t n p = 1) : p < n ∧ isLe (t p) = true := by
  unfold kdN at h
  by_cases q : p < n
  · rw [if_pos q] at h
    by_cases z : isLe (t p) = true
    · exact ⟨q, z⟩
    · rw [if_neg z] at h
      split at h
      · cases h
      · split at h <;> cases h
  · rw [if_neg q] at h; cases h
theorem v_word {t : Tx} {n k : Nat} (h : kK t n k = 1) : vV t n k = ixW (ltL t (enN t n (tkN t n k) - tkN t n k) (tkN t n k)) WDS 0 := by
  unfold vV tvl wrN
  rw [if_pos (kd_1 h).2]
theorem v_word15 {t : Tx} {n k : Nat} (h : kK t n k = 1) : vV t n k = -1 ∨ ∃ j, j < 15 ∧ vV t n k = nI j := by
  rw [v_word h]
  rcases ixW_r (ltL t (enN t n (tkN t n k) - tkN t n k) (tkN t n k)) WDS 0 with q | ⟨j, -, j2, j3⟩
  · exact Or.inl q
  · exact Or.inr ⟨j, by
      have e : WDS.length = 15 := rfl
      omega, j3⟩
theorem ix_key {l : List Int32} {j : Nat} (hj : j < 15) : ∀ (ws : List (List Nat)) (i : Nat), i + ws.length ≤ 15 → ixW l ws i = nI j → l.length = (ws.getD (j - i) []).length ∧ i ≤ j
  | [], i, _, h => absurd h.symm (nI_ne1 (by omega))
  | w :: ws, i, hi, h => by
    rw [List.length_cons] at hi
    rw [ixW] at h
    by_cases q : l = w.map nI
    · rw [if_pos q] at h
      have e : i = j := nI_inj (by omega) (by omega) h
      subst e
      rw [Nat.sub_self, q]
      exact ⟨by simp, Nat.le_refl _⟩
    · rw [if_neg q] at h
      obtain ⟨a1, a2⟩ := ix_key hj ws (i + 1) (by omega) h
      refine ⟨?_, by omega⟩
      obtain ⟨z, hz⟩ : ∃ z, j - i = z + 1 := ⟨j - i - 1, by omega⟩
      rw [hz, a1, show j - (i + 1) = z by omega]; rfl
theorem ix_len {l : List Int32} {j : Nat} (h : ixW l WDS 0 = nI j) (hj : j < 15) : l.length = (WDS.getD j []).length := by
  have := (ix_key hj WDS 0 (by decide) h).1
  rwa [Nat.sub_zero] at this
theorem wd_inc {t : Tx} {n m k : Nat} {D : DD} (h : At t n m k D) {j : Nat} (hj : j < 15) (q : wdAt (kK t n) (vV t n) (nI j) k = true) : tkN t n k + (WDS.getD j []).length ≤ tkN t n (k + 1) := by
  have hk := wd_lt h q
  unfold wdAt at q
  simp only [Bool.and_eq_true, decide_eq_true_eq] at q
  have e := q.2
  rw [v_word q.1] at e
  have := ix_len e hj
  rw [ltL_len] at this
  have := tk_lt (h.1.lt hk)
  omega
theorem vl_all : ∀ j, j < 15 → ∀ mi : Bool, vlOk mi (nI j - 8) = true → 8 ≤ j ∧ nI j - 8 = nI (j - 8) ∧ (mi = true → j - 8 < 4 ∨ j - 8 = 6) ∧ (mi = false → j - 8 < 6) := by decide +kernel
theorem vl_m1 : ∀ mi : Bool, vlOk mi (-1 - 8) = false := by decide
theorem vl_ok {t : Tx} {n k : Nat} {mi : Bool} (h : kK t n k = 1) (q : vlOk mi (vV t n k - 8) = true) : ∃ r, r < 7 ∧ vV t n k - 8 = nI r ∧ dpV mi r := by
  rcases v_word15 h with e | ⟨j, j1, e⟩
  · rw [e, vl_m1] at q; cases q
  · rw [e] at q ⊢
    obtain ⟨a1, a2, a3, a4⟩ := vl_all j j1 mi q
    refine ⟨j - 8, by omega, a2, ?_⟩
    unfold dpV
    cases mi with
    | true => rw [if_pos rfl]; exact a3 rfl
    | false => rw [if_neg Bool.false_ne_true]; exact a4 rfl
