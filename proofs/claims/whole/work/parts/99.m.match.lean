/-! ===== couples: ways, what they cost ===== -/
theorem sum_congr {f g : Nat → Nat} : ∀ {n : Nat}, (∀ p, p < n → f p = g p) → sumN f n = sumN g n
  | 0, _ => rfl
  | n + 1, h => by rw [sumN, sumN, sum_congr (fun p hp => h p (by omega)), h n (by omega)]
theorem sum_rm {F : Nat → Bool} {g : Nat → Nat} {p : Nat} (hF : F p = true) : ∀ {n : Nat}, p < n → sumN (fun r => if F r = true then g r else 0) n = g p + sumN (fun r => if (F r && !decide (r = p)) = true then g r else 0) n
  | n + 1, hp => by
    rw [sumN, sumN]
    by_cases h : p = n
    · subst h
      have e : sumN (fun r => if (F r && !decide (r = p)) = true then g r else 0) p = sumN (fun r => if F r = true then g r else 0) p := sum_congr (fun r hr => by
        show (if (F r && !decide (r = p)) = true then g r else 0) = if F r = true then g r else 0
        rw [decide_eq_false (show ¬ r = p by omega), Bool.not_false, Bool.and_true])
      rw [e, if_pos hF, decide_eq_true rfl]
      simp
      omega
    · rw [sum_rm hF (show p < n by omega)]
      have : (F n && !decide (n = p)) = F n := by rw [decide_eq_false (fun z => h z.symm), Bool.not_false, Bool.and_true]
      rw [this]; omega
theorem sum_le {f g : Nat → Nat} : ∀ {n : Nat}, (∀ p, p < n → f p ≤ g p) → sumN f n ≤ sumN g n
  | 0, _ => Nat.le_refl 0
  | n + 1, h => by
    rw [sumN, sumN]
    have := sum_le (n := n) (fun p hp => h p (by omega))
    have := h n (by omega)
    omega
theorem sum_eq_of {f g : Nat → Nat} : ∀ {n : Nat}, (∀ p, p < n → f p ≤ g p) → sumN f n = sumN g n → ∀ p, p < n → f p = g p
  | n + 1, h, e, p, hp => by
    rw [sumN, sumN] at e
    have h1 := sum_le (n := n) (fun p hp => h p (by omega))
    have h2 := h n (by omega)
    by_cases hpn : p = n
    · subst hpn; omega
    · exact sum_eq_of (f := f) (g := g) (n := n) (fun p hp => h p (by omega)) (by omega) p (by omega)
section MATCH
variable (n : Nat) (adj : Nat → Nat → Bool) (ds : Nat → Nat → Nat)
def csN (p q : Nat) : Nat := if q = p then 1000 else if p < q then ds p q else 0
def MT (F : Nat → Bool) (m : Nat → Nat) : Prop := (∀ p, m (m p) = p) ∧ (∀ p, F p = false → m p = p) ∧ ∀ p, m p ≠ p → adj p (m p) = true
def coN (F : Nat → Bool) (m : Nat → Nat) : Nat := sumN (fun p => if F p = true then csN ds p (m p) else 0) n
def rmF (F : Nat → Bool) (p q : Nat) : Nat → Bool := fun r => F r && !decide (r = p) && !decide (r = q)
def IsMin (F : Nat → Bool) (v : Nat) : Prop := (∃ m, MT adj F m ∧ coN n ds F m = v) ∧ ∀ m, MT adj F m → v ≤ coN n ds F m
variable {n adj ds}
variable {F : Nat → Bool} {m : Nat → Nat} {p q v : Nat}
theorem MT.inF (h : MT adj F m) (hp : m p ≠ p) : F p = true ∧ F (m p) = true := by
  constructor
  · cases hf : F p
    · exact absurd (h.2.1 p hf) hp
    · rfl
  · cases hf : F (m p)
    · have := h.2.1 _ hf
      rw [h.1 p] at this
      exact absurd this.symm hp
    · rfl
theorem co_congr {m' : Nat → Nat} (h : ∀ r, r < n → F r = true → m r = m' r) : coN n ds F m = coN n ds F m' := sum_congr (fun r hr => by
  show (if F r = true then _ else 0) = (if F r = true then _ else 0)
  by_cases hf : F r = true
  · rw [if_pos hf, if_pos hf, h r hr hf]
  · rw [if_neg hf, if_neg hf])
/-- one is taken out, or two -/
theorem cst_1 (hp : p < n) (hF : F p = true) : coN n ds F m = csN ds p (m p) + coN n ds (rmF F p p) m := by
  unfold coN
  rw [sum_rm (g := fun p => csN ds p (m p)) hF hp]
  congr 1
  refine sum_congr (fun r _ => ?_)
  show (if (F r && !decide (r = p)) = true then _ else 0) = (if (F r && !decide (r = p) && !decide (r = p)) = true then _ else 0)
  rw [Bool.and_assoc, Bool.and_self]
theorem cst_2 (hp : p < n) (hq : q < n) (hpq : p ≠ q) (hF : F p = true) (hF2 : F q = true) : coN n ds F m = csN ds p (m p) + csN ds q (m q) + coN n ds (rmF F p q) m := by
  unfold coN
  rw [sum_rm (g := fun p => csN ds p (m p)) hF hp, sum_rm (F := fun r => F r && !decide (r = p)) (g := fun p => csN ds p (m p)) (p := q) (by
    show (F q && !decide (q = p)) = true
    rw [hF2, decide_eq_false (fun z => hpq z.symm)]; rfl) hq, Nat.add_assoc]
  rfl
def swM (m : Nat → Nat) (p q : Nat) : Nat → Nat := fun r => if r = p then q else if r = q then p else m r
def fxM (m : Nat → Nat) (p q : Nat) : Nat → Nat := fun r => if r = p then p else if r = q then q else m r
theorem MT.rm1 (h : MT adj F m) (hm : m p = p) : MT adj (rmF F p p) m := by
  refine ⟨h.1, fun r hr => ?_, h.2.2⟩
  by_cases hrp : r = p
  · rw [hrp]; exact hm
  · refine h.2.1 r ?_
    unfold rmF at hr
    rw [decide_eq_false hrp] at hr
    simpa using hr
theorem MT.rm2 (h : MT adj F m) (hm : m p = q) (hpq : q ≠ p) : MT adj (rmF F p q) (fxM m p q) := by
  have hq : m q = p := by rw [← hm]; exact h.1 p
  have hne : ∀ r, r ≠ p → r ≠ q → m r ≠ p ∧ m r ≠ q := fun r r1 r2 => by
    constructor
    · intro z
      have := h.1 r
      rw [z, hm] at this
      exact r2 this.symm
    · intro z
      have := h.1 r
      rw [z, hq] at this
      exact r1 this.symm
  refine ⟨fun r => ?_, fun r hr => ?_, fun r hr => ?_⟩
  · by_cases r1 : r = p
    · unfold fxM; rw [if_pos r1, if_pos rfl, r1]
    · by_cases r2 : r = q
      · unfold fxM; rw [if_neg r1, if_pos r2, if_neg hpq, if_pos rfl, r2]
      · have e : fxM m p q r = m r := by unfold fxM; rw [if_neg r1, if_neg r2]
        obtain ⟨a1, a2⟩ := hne r r1 r2
        rw [e]
        unfold fxM
        rw [if_neg a1, if_neg a2]; exact h.1 r
  · unfold fxM
    by_cases r1 : r = p
    · rw [if_pos r1, r1]
    · by_cases r2 : r = q
      · rw [if_neg r1, if_pos r2, r2]
      · rw [if_neg r1, if_neg r2]
        refine h.2.1 r ?_
        unfold rmF at hr
        rw [decide_eq_false r1, decide_eq_false r2] at hr
        simpa using hr
  · have r1 : r ≠ p := fun z => hr (by unfold fxM; rw [if_pos z, z])
    have r2 : r ≠ q := fun z => hr (by unfold fxM; rw [if_neg r1, if_pos z, z])
    have e : fxM m p q r = m r := by unfold fxM; rw [if_neg r1, if_neg r2]
    rw [e] at hr ⊢
    exact h.2.2 r hr
theorem MT.ad1 (h : MT adj (rmF F p p) m) : MT adj F m ∧ m p = p := by
  have hp : m p = p := h.2.1 p (by unfold rmF; rw [decide_eq_true rfl]; simp)
  refine ⟨⟨h.1, fun r hr => h.2.1 r (by unfold rmF; rw [hr]; rfl), h.2.2⟩, hp⟩
theorem MT.ad2 (h : MT adj (rmF F p q) m) (hpq : p ≠ q) (hF : F p = true) (hF2 : F q = true) (ha : adj p q = true) (ha2 : adj q p = true) : MT adj F (swM m p q) := by
  have hp : m p = p := h.2.1 p (by unfold rmF; rw [decide_eq_true rfl]; simp)
  have hq : m q = q := h.2.1 q (by unfold rmF; rw [decide_eq_true rfl]; simp)
  have hne : ∀ r, r ≠ p → r ≠ q → m r ≠ p ∧ m r ≠ q := fun r r1 r2 => by
    constructor
    · intro z
      have := h.1 r
      rw [z, hp] at this
      exact r1 this.symm
    · intro z
      have := h.1 r
      rw [z, hq] at this
      exact r2 this.symm
  refine ⟨fun r => ?_, fun r hr => ?_, fun r hr => ?_⟩
  · by_cases r1 : r = p
    · unfold swM; rw [if_pos r1, if_neg (fun z => hpq z.symm), if_pos rfl, r1]
    · by_cases r2 : r = q
      · unfold swM; rw [if_neg r1, if_pos r2, if_pos rfl, r2]
      · have e : swM m p q r = m r := by unfold swM; rw [if_neg r1, if_neg r2]
        obtain ⟨a1, a2⟩ := hne r r1 r2
        rw [e]
        unfold swM
        rw [if_neg a1, if_neg a2]; exact h.1 r
  · have r1 : r ≠ p := fun z => by rw [z, hF] at hr; cases hr
    have r2 : r ≠ q := fun z => by rw [z, hF2] at hr; cases hr
    unfold swM
    rw [if_neg r1, if_neg r2]
    exact h.2.1 r (by unfold rmF; rw [hr]; rfl)
  · unfold swM at hr ⊢
    by_cases r1 : r = p
    · rw [if_pos r1, r1]; exact ha
    · by_cases r2 : r = q
      · rw [if_neg r1, if_pos r2, r2]; exact ha2
      · rw [if_neg r1, if_neg r2] at hr ⊢
        exact h.2.2 r hr
theorem co_sw (hp : p < n) (hq : q < n) (hpq : p < q) (hF : F p = true) (hF2 : F q = true) : coN n ds F (swM m p q) = ds p q + coN n ds (rmF F p q) m := by
  have e1 : swM m p q p = q := if_pos rfl
  have e2 : swM m p q q = p := by
    show (if q = p then q else if q = q then p else m q) = p
    rw [if_neg (by omega), if_pos rfl]
  rw [cst_2 hp hq (by omega) hF hF2, e1, e2]
  have c1 : csN ds p q = ds p q := by
    unfold csN
    rw [if_neg (by omega), if_pos hpq]
  have c2 : csN ds q p = 0 := by
    unfold csN
    rw [if_neg (by omega), if_neg (by omega)]
  rw [c1, c2, Nat.add_zero]
  congr 1
  refine co_congr (fun r _ hr => ?_)
  have r1 : r ≠ p := fun z => by rw [z] at hr; unfold rmF at hr; rw [decide_eq_true rfl] at hr; simp at hr
  have r2 : r ≠ q := fun z => by rw [z] at hr; unfold rmF at hr; rw [decide_eq_true rfl] at hr; simp at hr
  show (if r = p then q else if r = q then p else m r) = m r
  rw [if_neg r1, if_neg r2]
theorem co_pair (h : MT adj F m) (hb : ∀ r, F r = true → r < n) (hm : m p = q) (hpq : p < q) : coN n ds F m = ds p q + coN n ds (rmF F p q) (fxM m p q) := by
  have hq : m q = p := by rw [← hm]; exact h.1 p
  obtain ⟨f1, f2⟩ := h.inF (p := p) (by omega)
  rw [hm] at f2
  rw [cst_2 (hb p f1) (hb q f2) (by omega) f1 f2, hm, hq]
  have c1 : csN ds p q = ds p q := by
    unfold csN
    rw [if_neg (by omega), if_pos hpq]
  have c2 : csN ds q p = 0 := by
    unfold csN
    rw [if_neg (by omega), if_neg (by omega)]
  rw [c1, c2, Nat.add_zero]
  congr 1
  refine co_congr (fun r _ hr => ?_)
  have r1 : r ≠ p := fun z => by rw [z] at hr; unfold rmF at hr; rw [decide_eq_true rfl] at hr; simp at hr
  have r2 : r ≠ q := fun z => by rw [z] at hr; unfold rmF at hr; rw [decide_eq_true rfl] at hr; simp at hr
  show m r = (if r = p then p else if r = q then q else m r)
  rw [if_neg r1, if_neg r2]
/-- the table, one step: those whom the least one may be with, below k -/
def StI (n : Nat) (adj : Nat → Nat → Bool) (ds : Nat → Nat → Nat) (F : Nat → Bool) (p k v : Nat) : Prop := (∃ m, MT adj F m ∧ coN n ds F m = v) ∧ ∀ m, MT adj F m → m p < k → v ≤ coN n ds F m
theorem st_0 (hb : ∀ r, F r = true → r < n) (hF : F p = true) (hl : ∀ r, r < p → F r = false) (h : IsMin n adj ds (rmF F p p) v) : StI n adj ds F p (p + 1) (1000 + v) := by
  obtain ⟨⟨m, m1, m2⟩, h2⟩ := h
  have c1 : csN ds p p = 1000 := if_pos rfl
  refine ⟨⟨m, m1.ad1.1, ?_⟩, fun m' h' hk => ?_⟩
  · rw [cst_1 (hb p hF) hF, m1.ad1.2, c1, m2]
  · have hm : m' p = p := by
      by_cases hne : m' p = p
      · exact hne
      · have := (h'.inF hne).2
        rw [hl (m' p) (by omega)] at this
        cases this
    rw [cst_1 (hb p hF) hF, hm, c1]
    have := h2 m' (h'.rm1 hm)
    omega
theorem st_no {k : Nat} (h : StI n adj ds F p k v) (hno : F k = false ∨ adj p k = false) (hkp : k ≠ p) : StI n adj ds F p (k + 1) v := by
  refine ⟨h.1, fun m hm hk => h.2 m hm (Nat.lt_of_le_of_ne (by omega) (fun z => ?_))⟩
  have hne : m p ≠ p := by omega
  rcases hno with h1 | h1
  · have := (hm.inF hne).2
    rw [z, h1] at this
    cases this
  · have := hm.2.2 p hne
    rw [z, h1] at this
    cases this
theorem st_yes {w k : Nat} (hb : ∀ r, F r = true → r < n) (hF : F p = true) (hF2 : F k = true) (hpk : p < k) (ha : adj p k = true) (ha2 : adj k p = true) (h : StI n adj ds F p k v) (hw : IsMin n adj ds (rmF F p k) w) : StI n adj ds F p (k + 1) (if ds p k + w < v then ds p k + w else v) := by
  obtain ⟨⟨m, m1, m2⟩, h2⟩ := hw
  refine ⟨?_, fun m' h' hk => ?_⟩
  · by_cases hlt : ds p k + w < v
    · rw [if_pos hlt]
      exact ⟨swM m p k, m1.ad2 (by omega) hF hF2 ha ha2, by rw [co_sw (hb p hF) (hb k hF2) hpk hF hF2, m2]⟩
    · rw [if_neg hlt]; exact h.1
  · by_cases hmk : m' p = k
    · rw [co_pair h' hb hmk hpk]
      have := h2 _ (h'.rm2 hmk (by omega))
      split <;> omega
    · have := h.2 m' h' (by omega)
      split <;> omega
theorem st_end (hb : ∀ r, F r = true → r < n) (hF : F p = true) (h : StI n adj ds F p n v) : IsMin n adj ds F v := by
  refine ⟨h.1, fun m hm => h.2 m hm ?_⟩
  by_cases hne : m p = p
  · rw [hne]; exact hb p hF
  · exact hb _ (hm.inF hne).2
theorem min_0 (hF : ∀ r, F r = false) : IsMin n adj ds F 0 := by
  have e : ∀ m, coN n ds F m = 0 := fun m => by
    unfold coN
    have : ∀ k, sumN (fun p => if F p = true then csN ds p (m p) else 0) k = 0 := by
      intro k
      induction k with
      | zero => rfl
      | succ k ih => rw [sumN, ih, hF k]; rfl
    exact this n
  exact ⟨⟨fun r => r, ⟨fun _ => rfl, fun _ _ => rfl, fun _ h => absurd rfl h⟩, e _⟩, fun m _ => by rw [e]; exact Nat.le_refl 0⟩
theorem min_uq {w : Nat} (h1 : IsMin n adj ds F v) (h2 : IsMin n adj ds F w) : v = w := by
  obtain ⟨m, m1, m2⟩ := h1.1
  obtain ⟨m', k1, k2⟩ := h2.1
  have := h1.2 m' k1
  have := h2.2 m m1
  omega
/-- a best way that is the first -/
def rkN (p q : Nat) : Nat := if q = p then 100 else q
def Best (n : Nat) (adj : Nat → Nat → Bool) (ds : Nat → Nat → Nat) (F : Nat → Bool) (b : Nat → Nat) : Prop := MT adj F b ∧ (∀ m, MT adj F m → coN n ds F b ≤ coN n ds F m) ∧ ∀ m, MT adj F m → coN n ds F m = coN n ds F b → ∀ p, (∀ r, r < p → m r = b r) → ¬ rkN p (m p) < rkN p (b p)
/-- the least one's choice, and what is left -/
theorem Best.step {b : Nat → Nat} (h : Best n adj ds F b) (hb : ∀ r, F r = true → r < n) (hF : F p = true) (hl : ∀ r, r < p → F r = false) (hn : n ≤ 100) (hsym : ∀ a b, adj a b = adj b a) : (b p = p → Best n adj ds (rmF F p p) b ∧ ∀ q w, p < q → F q = true → adj p q = true → IsMin n adj ds (rmF F p q) w → ds p q + w ≠ coN n ds F b) ∧ (b p ≠ p → p < b p ∧ F (b p) = true ∧ adj p (b p) = true ∧ Best n adj ds (rmF F p (b p)) (fxM b p (b p)) ∧ (∀ w, IsMin n adj ds (rmF F p (b p)) w → ds p (b p) + w = coN n ds F b) ∧ ∀ q w, p < q → q < b p → F q = true → adj p q = true → IsMin n adj ds (rmF F p q) w → ds p q + w ≠ coN n ds F b) := by
  obtain ⟨h1, h2, h3⟩ := h
  -- none that the least one would be with is better
  have key : ∀ q w, p < q → F q = true → adj p q = true → IsMin n adj ds (rmF F p q) w → ds p q + w = coN n ds F b → ¬ rkN p q < rkN p (b p) := by
    intro q w hq f ha hw e
    obtain ⟨⟨m, m1, m2⟩, -⟩ := hw
    have := h3 (swM m p q) (m1.ad2 (by omega) hF f ha (by rw [hsym]; exact ha)) (by rw [co_sw (hb p hF) (hb q f) hq hF f, m2, e]) p (fun r hr => by
      have hr1 : b r = r := h1.2.1 r (hl r hr)
      have : m r = r := m1.2.1 r (by unfold rmF; rw [hl r hr]; rfl)
      show (if r = p then q else if r = q then p else m r) = b r
      rw [if_neg (by omega), if_neg (by omega), hr1, this])
    have e1 : swM m p q p = q := if_pos rfl
    rw [e1] at this
    exact this
  have c1 : csN ds p p = 1000 := if_pos rfl
  refine ⟨fun hbp => ⟨⟨h1.rm1 hbp, fun m hm => ?_, fun m hm e r hr => ?_⟩, fun q w hq f ha hw e => ?_⟩, fun hbp => ?_⟩
  · have := h2 m hm.ad1.1
    rw [cst_1 (hb p hF) hF, cst_1 (m := m) (hb p hF) hF, hbp, hm.ad1.2] at this
    omega
  · refine h3 m hm.ad1.1 ?_ r hr
    rw [cst_1 (hb p hF) hF, cst_1 (m := b) (hb p hF) hF, hbp, hm.ad1.2, e]
  · have hqn := hb q f
    refine key q w hq f ha hw e ?_
    unfold rkN
    rw [if_neg (by omega), if_pos hbp]; omega
  · obtain ⟨f1, f2⟩ := h1.inF hbp
    have hlt : p < b p := Nat.lt_of_not_le (fun z => by
      have : b p < p := by omega
      rw [hl _ this] at f2
      cases f2)
    have ha := h1.2.2 p hbp
    have hco := co_pair (ds := ds) h1 hb rfl hlt
    refine ⟨hlt, f2, ha, ⟨h1.rm2 rfl hbp, fun m hm => ?_, fun m hm e r hr => ?_⟩, fun w hw => ?_, fun q w hq hq2 f ha2 hw e => ?_⟩
    · have := h2 (swM m p (b p)) (hm.ad2 (by omega) hF f2 ha (by rw [hsym]; exact ha))
      rw [co_sw (hb p hF) (hb _ f2) hlt hF f2, hco] at this
      omega
    · have hm2 := hm.ad2 (by omega) hF f2 ha (by rw [hsym]; exact ha)
      have hmp : m p = p := hm.2.1 p (by unfold rmF; rw [decide_eq_true rfl]; simp)
      have hmq : m (b p) = b p := hm.2.1 (b p) (by unfold rmF; rw [decide_eq_true rfl]; simp)
      have eco : coN n ds F (swM m p (b p)) = coN n ds F b := by
        rw [co_sw (hb p hF) (hb _ f2) hlt hF f2, hco, e]
      have hbb : b (b p) = p := h1.1 p
      by_cases r1 : r = p
      · rw [r1, hmp]
        have : fxM b p (b p) p = p := if_pos rfl
        rw [this]; exact Nat.lt_irrefl _
      · by_cases r2 : r = b p
        · rw [r2, hmq]
          have : fxM b p (b p) (b p) = b p := by
            show (if b p = p then p else if b p = b p then b p else b (b p)) = b p
            rw [if_neg hbp, if_pos rfl]
          rw [this]; exact Nat.lt_irrefl _
        · have e1 : swM m p (b p) r = m r := by
            show (if r = p then b p else if r = b p then p else m r) = m r
            rw [if_neg r1, if_neg r2]
          have e2 : fxM b p (b p) r = b r := by
            show (if r = p then p else if r = b p then b p else b r) = b r
            rw [if_neg r1, if_neg r2]
          have := h3 _ hm2 eco r (fun s hs => by
            by_cases s1 : s = p
            · rw [s1]
              exact if_pos rfl
            · by_cases s2 : s = b p
              · rw [s2, hbb]
                show (if b p = p then b p else if b p = b p then p else m (b p)) = p
                rw [if_neg hbp, if_pos rfl]
              · have := hr s hs
                have e3 : fxM b p (b p) s = b s := by
                  show (if s = p then p else if s = b p then b p else b s) = b s
                  rw [if_neg s1, if_neg s2]
                rw [e3] at this
                show (if s = p then b p else if s = b p then p else m s) = b s
                rw [if_neg s1, if_neg s2, this])
          rw [e1] at this
          rw [e2]; exact this
    · obtain ⟨⟨m, m1, m2⟩, hw2⟩ := hw
      have a1 := hw2 _ (h1.rm2 rfl hbp)
      have a2 := h2 (swM m p (b p)) (m1.ad2 (by omega) hF f2 ha (by rw [hsym]; exact ha))
      rw [co_sw (hb p hF) (hb _ f2) hlt hF f2, m2] at a2
      omega
    · refine key q w hq f ha2 hw e ?_
      unfold rkN
      rw [if_neg (by omega), if_neg hbp]; exact hq2
end MATCH
