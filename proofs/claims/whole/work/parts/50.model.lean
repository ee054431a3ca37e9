/-! ===== the chapel as mathematics: c holds what is held of people (as the class lays it out: spots, ages, moved, total, away, barred, sunday) ===== -/
abbrev Cc : Type := Nat → Int32
abbrev RuF : Type := (Nat → Int32) → Int32
/-- people, seats, arrives, sulks, minds -/
abbrev Ru : Type := Nat × Nat × Option RuF × Option RuF × Option RuF
def Ru0 (ρ : Ru) : Prop := ρ.1 ≤ 12 ∧ 1 ≤ ρ.2.1 ∧ ρ.2.1 ≤ 12
def pewV (s : Int32) : Int32 := if s < 0 then 12 else s / 12
def seatV (s : Int32) : Int32 := if s < 0 then 12 else s - s / 12 * 12
def vA (c : Cc) (p : Nat) : Nat → Int32 := fun k => if k = 0 then c (12 + p) else if k = 1 then pewV (c p) else if k = 2 then seatV (c p) else if k = 3 then c (24 + p) else if k = 4 then c (48 + p) else if k = 5 then c 72 else 0
def vM (c : Cc) (o : Nat) (th : Int32) : Nat → Int32 := fun k => if k = 0 then c (12 + o) else if k = 1 then pewV (c o) else if k = 2 then seatV (c o) else if k = 3 then c (24 + o) else if k = 6 then th else 0
def cntN (P : Nat → Bool) : Nat → Nat
  | 0 => 0
  | n + 1 => cntN P n + (if P n = true then 1 else 0)
def findN (P : Nat → Bool) : Nat → Nat → Option Nat
  | 0, _ => none
  | r + 1, p => if P p = true then some p else findN P r (p + 1)
def inW (c : Cc) (w p : Nat) : Bool := decide (0 ≤ c p) && decide (c p / 12 = nI w)
def sizeN (ρ : Ru) (c : Cc) (w : Nat) : Nat := cntN (inW c w) ρ.1
def whoN (ρ : Ru) (c : Cc) (s : Nat) : Nat := (findN (fun p => decide (c p = nI s)) ρ.1 0).getD ρ.1
def sulksF (ρ : Ru) (c : Cc) (p : Nat) : Bool := match ρ.2.2.2.1 with | none => false | some F => decide (0 < F (vA c p))
def arrF (ρ : Ru) (c : Cc) (p : Nat) : Int32 := match ρ.2.2.1 with | none => nI p | some F => F (vA c p)
def mindsF (ρ : Ru) (c : Cc) (o : Nat) (th : Int32) : Bool := match ρ.2.2.2.2 with | none => decide (th < c (12 + o)) | some F => decide (0 < F (vM c o th))
def comesF (ρ : Ru) (c : Cc) (rain : Bool) (p : Nat) : Bool := !(sulksF ρ c p) && !(rain && decide (15 ≤ c (12 + p))) && decide (c (60 + p) = 0)
/-- a line: how many, who; one is put in by arrival -/
def posN (g : Nat → Int32) (a : Nat → Nat) (v : Int32) : Nat → Nat
  | 0 => 0
  | m + 1 => if v < g (a m) then posN g a v m else m + 1
def insN (a : Nat → Nat) (k p : Nat) : Nat → Nat := fun i => if i < k then a i else if i = k then p else a (i - 1)
def lineN (ρ : Ru) (c : Cc) (rain : Bool) : Nat → Nat × (Nat → Nat)
  | 0 => (0, fun _ => 0)
  | k + 1 => if comesF ρ c rain k = true then ((lineN ρ c rain k).1 + 1, insN (lineN ρ c rain k).2 (posN (arrF ρ c) (lineN ρ c rain k).2 (arrF ρ c k) (lineN ρ c rain k).1) k) else lineN ρ c rain k
/-- the first seat from x on (of r seats) whose sitter minds -/
def vicN (ρ : Ru) (c : Cc) (w : Nat) (th : Int32) : Nat → Nat → Option Nat
  | 0, _ => none
  | r + 1, x => if mindsF ρ c (whoN ρ c (12 * w + x)) th = true then some x else vicN ρ c w th r (x + 1)
def outN (c : Cc) (p o : Nat) : Cc := upd (upd (upd (upd c p (c o)) o (-1)) (24 + o) (c (24 + o) + 1)) (36 + o) (c (36 + o) + 1)
/-- one sits down, from pew w on: what is held then, who was put out by whom, the pew of the last -/
def sitN (ρ : Ru) : Nat → Cc → Nat → Nat → Cc × List (Nat × Nat) × Nat
  | 0, c, _, w => (c, [], w)
  | f + 1, c, p, w => match vicN ρ c w (c (12 + p)) (sizeN ρ c w) 0 with
    | some x => ((sitN ρ f (outN c p (whoN ρ c (12 * w + x))) (whoN ρ c (12 * w + x)) (w + 1)).1, (whoN ρ c (12 * w + x), p) :: (sitN ρ f (outN c p (whoN ρ c (12 * w + x))) (whoN ρ c (12 * w + x)) (w + 1)).2.1, (sitN ρ f (outN c p (whoN ρ c (12 * w + x))) (whoN ρ c (12 * w + x)) (w + 1)).2.2)
    | none => if sizeN ρ c w < ρ.2.1 then (upd c p (nI (12 * w + sizeN ρ c w)), [], w) else sitN ρ f c p (w + 1)
def resN (c : Cc) : Cc := fun i => if i < 12 then -1 else if 24 ≤ i ∧ i < 36 then 0 else c i
def sitsN (ρ : Ru) (c : Cc) (a : Nat → Nat) : Nat → Cc
  | 0 => c
  | k + 1 => (sitN ρ 12 (sitsN ρ c a k) (a k) 0).1
def endN (ρ : Ru) (c : Cc) : Cc := fun i => if 48 ≤ i ∧ i < 48 + ρ.1 then (if c (i - 48) = -1 then c i + 1 else 0) else if 60 ≤ i ∧ i < 60 + ρ.1 then (if 0 < c i then c i - 1 else c i) else if i = 72 then c 72 + 1 else c i
def servN (ρ : Ru) (c : Cc) (L : Nat × (Nat → Nat)) : Cc := endN ρ (sitsN ρ (resN c) L.2 L.1)
def sunN (ρ : Ru) (rain : Bool) (c : Cc) : Cc := servN ρ c (lineN ρ c rain ρ.1)
/-! ===== seatings that are sound ===== -/
def Ok (ρ : Ru) (c : Cc) : Prop :=
  (∀ p, p < ρ.1 → c p = -1 ∨ ∃ w x, w < 12 ∧ x < sizeN ρ c w ∧ c p = nI (12 * w + x)) ∧
  (∀ w x, w < 12 → x < sizeN ρ c w → ∃ p, p < ρ.1 ∧ c p = nI (12 * w + x)) ∧
  (∀ p q, p < ρ.1 → q < ρ.1 → c p = c q → c p ≠ -1 → p = q) ∧
  (∀ w, w < 12 → sizeN ρ c w ≤ 12) ∧ (∀ w, w + 1 < 12 → sizeN ρ c w = 0 → sizeN ρ c (w + 1) = 0)
theorem n144 : ∀ s, s < 144 → nI s / 12 = nI (s / 12) ∧ nI s - nI s / 12 * 12 = nI (s % 12) ∧ 0 ≤ nI s ∧ nI s ≠ -1 ∧ ¬ nI s < 0 := by decide +kernel
theorem nI_inj {a b : Nat} (ha : a < 2 ^ 31) (hb : b < 2 ^ 31) (h : nI a = nI b) : a = b := (nI_eq ha hb).mp h
theorem nI_ne1 {a : Nat} (ha : a < 2 ^ 31) : nI a ≠ -1 := by
  intro h
  have h1 : (nI a).toInt = (a : Int) := nI_toInt ha
  rw [h] at h1
  have h2 : (-1 : Int32).toInt = -1 := by decide
  omega
theorem inW_s {c : Cc} {w p s : Nat} (hs : s < 144) (hw : w < 2 ^ 31) (h : c p = nI s) : inW c w p = decide (s / 12 = w) := by
  obtain ⟨h1, -, h3, -⟩ := n144 s hs
  unfold inW
  rw [h, decide_eq_true h3, Bool.true_and, h1]
  by_cases q : s / 12 = w
  · rw [q]; simp
  · rw [decide_eq_false q, decide_eq_false (fun z => q (nI_inj (by omega) hw z))]
theorem inW_no {c : Cc} {w p : Nat} (h : c p = -1) : inW c w p = false := by
  unfold inW
  rw [h]
  rfl
theorem cnt_congr {P Q : Nat → Bool} : ∀ {n : Nat}, (∀ p, p < n → P p = Q p) → cntN P n = cntN Q n
  | 0, _ => rfl
  | n + 1, h => by
    rw [cntN, cntN, cnt_congr (fun p hp => h p (by omega)), h n (by omega)]
theorem cnt_ch {P Q : Nat → Bool} {p : Nat} (h : ∀ q, q ≠ p → Q q = P q) : ∀ {n : Nat}, p < n → cntN Q n + (if P p = true then 1 else 0) = cntN P n + (if Q p = true then 1 else 0)
  | n + 1, hp => by
    rw [cntN, cntN]
    by_cases hn : p = n
    · subst hn
      have := cnt_congr (P := Q) (Q := P) (n := p) (fun q hq => h q (by omega))
      omega
    · have ih := cnt_ch h (n := n) (by omega)
      rw [h n (fun z => hn z.symm)]
      omega
theorem cnt_le (P : Nat → Bool) : ∀ n, cntN P n ≤ n
  | 0 => Nat.le_refl 0
  | n + 1 => by
    have := cnt_le P n
    rw [cntN]
    split <;> omega
theorem cnt_pos {P : Nat → Bool} : ∀ {n p : Nat}, p < n → P p = true → 0 < cntN P n
  | n + 1, p, hp, h => by
    rw [cntN]
    by_cases hn : p = n
    · subst hn; rw [if_pos h]; omega
    · have := cnt_pos (n := n) (by omega) h
      omega
theorem find_some {P : Nat → Bool} {q : Nat} (hq : P q = true) : ∀ {r p : Nat}, p ≤ q → q < p + r → (∀ j, p ≤ j → j < q → P j = false) → findN P r p = some q
  | 0, p, h1, h2, _ => by omega
  | r + 1, p, h1, h2, h3 => by
    rw [findN]
    by_cases hp : p = q
    · subst hp; rw [if_pos hq]
    · rw [if_neg (by rw [h3 p (Nat.le_refl p) (by omega)]; exact Bool.false_ne_true)]
      exact find_some hq (by omega) (by omega) (fun j h4 h5 => h3 j (by omega) h5)
theorem find_none {P : Nat → Bool} : ∀ {r p : Nat}, (∀ j, p ≤ j → j < p + r → P j = false) → findN P r p = none
  | 0, _, _ => rfl
  | r + 1, p, h => by
    rw [findN, if_neg (by rw [h p (Nat.le_refl p) (by omega)]; exact Bool.false_ne_true)]
    exact find_none (fun j h1 h2 => h j (by omega) (by omega))
section OK
variable {ρ : Ru} {c c' : Cc}
theorem size_congr (h : ∀ p, p < ρ.1 → c p = c' p) (w : Nat) : sizeN ρ c w = sizeN ρ c' w := cnt_congr (fun p hp => by unfold inW; rw [h p hp])
theorem Ok.congr (hO : Ok ρ c) (h : ∀ p, p < ρ.1 → c p = c' p) : Ok ρ c' := by
  have hs := size_congr h
  obtain ⟨h1, h2, h3, h4, h5⟩ := hO
  refine ⟨fun p hp => ?_, fun w x hw hx => ?_, fun p q hp hq => ?_, fun w hw => ?_, fun w => ?_⟩
  · rw [← h p hp]
    rcases h1 p hp with q | ⟨w, x, g1, g2, g3⟩
    · exact Or.inl q
    · exact Or.inr ⟨w, x, g1, by rw [← hs]; exact g2, g3⟩
  · rw [← hs] at hx
    obtain ⟨p, g1, g2⟩ := h2 w x hw hx
    exact ⟨p, g1, by rw [← h p g1]; exact g2⟩
  · rw [← h p hp, ← h q hq]; exact h3 p q hp hq
  · rw [← hs]; exact h4 w hw
  · rw [← hs, ← hs]; exact h5 w
theorem Ok.lt (hO : Ok ρ c) {w x : Nat} (hw : w < 12) (hx : x < sizeN ρ c w) : 12 * w + x < 144 := by
  have := hO.2.2.2.1 w hw
  omega
/-- who sits in a seat -/
theorem who_at (hO : Ok ρ c) {p s : Nat} (hp : p < ρ.1) (hs : s < 144) (h : c p = nI s) : whoN ρ c s = p := by
  unfold whoN
  rw [find_some (q := p) (by simp [h]) (Nat.zero_le _) (by omega) (fun j _ hj => ?_)]
  · rfl
  · refine decide_eq_false (fun z => ?_)
    have := hO.2.2.1 j p (by omega) hp (z.trans h.symm) (by rw [z]; exact (n144 s hs).2.2.2.1)
    omega
theorem who_ex (hO : Ok ρ c) {w x : Nat} (hw : w < 12) (hx : x < sizeN ρ c w) : whoN ρ c (12 * w + x) < ρ.1 ∧ c (whoN ρ c (12 * w + x)) = nI (12 * w + x) := by
  obtain ⟨p, h1, h2⟩ := hO.2.1 w x hw hx
  rw [who_at hO h1 (hO.lt hw hx) h2]
  exact ⟨h1, h2⟩
theorem outN_spot {p o q : Nat} (hq : q < 12) (ho : o < 12) : outN c p o q = if q = o then -1 else if q = p then c o else c q := by
  unfold outN upd
  rw [if_neg (by omega), if_neg (by omega)]
theorem outN_age {p o q : Nat} (hq : q < 12) (ho : o < 12) (hp : p < 12) : outN c p o (12 + q) = c (12 + q) := by
  unfold outN upd
  rw [if_neg (by omega), if_neg (by omega), if_neg (by omega), if_neg (by omega)]
theorem size_out (hn : ρ.1 ≤ 12) {p o s : Nat} (hp : p < ρ.1) (ho : o < ρ.1) (hpo : p ≠ o) (h1 : c p = -1) (hs : s < 144) (h2 : c o = nI s) (w : Nat) (hw : w < 2 ^ 31) : sizeN ρ (outN c p o) w = sizeN ρ c w := by
  have e1 : sizeN ρ (outN c p o) w = sizeN ρ (upd (upd c p (c o)) o (-1)) w := size_congr (fun q hq => by
    rw [outN_spot (by omega) (by omega)]
    unfold upd
    rfl) w
  rw [e1]
  have a1 := cnt_ch (P := inW c w) (Q := inW (upd c p (c o)) w) (p := p) (fun q hq => by unfold inW upd; rw [if_neg hq]) hp
  have a2 := cnt_ch (P := inW (upd c p (c o)) w) (Q := inW (upd (upd c p (c o)) o (-1)) w) (p := o) (fun q hq => by
    unfold inW
    have : upd (upd c p (c o)) o (-1) q = upd c p (c o) q := by
      show (if q = o then _ else _) = _
      rw [if_neg hq]
    rw [this]) ho
  have b1 : inW c w p = false := inW_no h1
  have b2 : inW (upd c p (c o)) w p = decide (s / 12 = w) := inW_s hs hw (by
    show (if p = p then c o else c p) = nI s
    rw [if_pos rfl, h2])
  have b3 : inW (upd c p (c o)) w o = decide (s / 12 = w) := inW_s hs hw (by
    show (if o = p then c o else c o) = nI s
    rw [if_neg (fun z => hpo z.symm), h2])
  have b4 : inW (upd (upd c p (c o)) o (-1)) w o = false := inW_no (by
    show (if o = o then (-1 : Int32) else _) = -1
    rw [if_pos rfl])
  rw [b1, b2] at a1
  rw [b3, b4] at a2
  unfold sizeN
  simp only [Bool.false_eq_true, if_false, Nat.add_zero] at a1 a2
  omega
theorem ok_out (hn : ρ.1 ≤ 12) (hO : Ok ρ c) {p o s : Nat} (hp : p < ρ.1) (ho : o < ρ.1) (hpo : p ≠ o) (h1 : c p = -1) (hs : s < 144) (h2 : c o = nI s) : Ok ρ (outN c p o) := by
  have hz : ∀ w, w < 2 ^ 31 → sizeN ρ (outN c p o) w = sizeN ρ c w := size_out hn hp ho hpo h1 hs h2
  have hsp : ∀ q, q < ρ.1 → outN c p o q = if q = o then -1 else if q = p then c o else c q := fun q hq => outN_spot (by omega) (by omega)
  have hno : ∀ {a : Nat}, a < 144 → nI a ≠ -1 := fun h => (n144 _ h).2.2.2.1
  obtain ⟨g1, g2, g3, g4, g5⟩ := id hO
  refine ⟨fun q hq => ?_, fun w x hw hx => ?_, fun q r hq hr e hne => ?_, fun w hw => ?_, fun w hw h0 => ?_⟩
  · rw [hsp q hq]
    by_cases q1 : q = o
    · rw [if_pos q1]; exact Or.inl rfl
    · rw [if_neg q1]
      have key : ∀ r, r < ρ.1 → c r = -1 ∨ ∃ w x, w < 12 ∧ x < sizeN ρ (outN c p o) w ∧ c r = nI (12 * w + x) := by
        intro r hr
        rcases g1 r hr with z | ⟨w, x, z1, z2, z3⟩
        · exact Or.inl z
        · exact Or.inr ⟨w, x, z1, by rw [hz w (by omega)]; exact z2, z3⟩
      by_cases q2 : q = p
      · rw [if_pos q2]; exact key o ho
      · rw [if_neg q2]; exact key q hq
  · rw [hz w (by omega)] at hx
    obtain ⟨q, z1, z2⟩ := g2 w x hw hx
    have hl := hO.lt hw hx
    by_cases q1 : q = o
    · refine ⟨p, hp, ?_⟩
      rw [hsp p hp, if_neg hpo, if_pos rfl, ← q1, z2]
    · refine ⟨q, z1, ?_⟩
      have q2 : q ≠ p := by
        intro z
        rw [z, h1] at z2
        exact hno hl z2.symm
      rw [hsp q z1, if_neg q1, if_neg q2, z2]
  · rw [hsp q hq, hsp r hr] at e
    rw [hsp q hq] at hne
    by_cases q1 : q = o
    · rw [if_pos q1] at hne; exact absurd rfl hne
    · rw [if_neg q1] at e hne
      by_cases r1 : r = o
      · rw [if_pos r1] at e; exact absurd e hne
      · rw [if_neg r1] at e
        by_cases q2 : q = p
        · rw [if_pos q2] at e hne
          by_cases r2 : r = p
          · rw [q2, r2]
          · rw [if_neg r2] at e
            exact absurd (g3 o r ho hr e hne).symm r1
        · rw [if_neg q2] at e hne
          by_cases r2 : r = p
          · rw [if_pos r2] at e
            exact absurd (g3 q o hq ho e hne) q1
          · rw [if_neg r2] at e
            exact g3 q r hq hr e hne
  · rw [hz w (by omega)]; exact g4 w hw
  · rw [hz w (by omega)] at h0
    rw [hz (w + 1) (by omega)]
    exact g5 w hw h0
theorem size_end (hn : ρ.1 ≤ 12) {p s : Nat} (hp : p < ρ.1) (h1 : c p = -1) (hs : s < 144) (w : Nat) (hw : w < 2 ^ 31) : sizeN ρ (upd c p (nI s)) w = sizeN ρ c w + (if s / 12 = w then 1 else 0) := by
  have a1 := cnt_ch (P := inW c w) (Q := inW (upd c p (nI s)) w) (p := p) (fun q hq => by unfold inW upd; rw [if_neg hq]) hp
  have b1 : inW c w p = false := inW_no h1
  have b2 : inW (upd c p (nI s)) w p = decide (s / 12 = w) := inW_s hs hw (by
    show (if p = p then nI s else c p) = nI s
    rw [if_pos rfl])
  rw [b1, b2] at a1
  unfold sizeN
  simp only [Bool.false_eq_true, if_false, Nat.add_zero, decide_eq_true_eq] at a1
  exact a1
theorem ok_end (hn : ρ.1 ≤ 12) (hO : Ok ρ c) {p w : Nat} (hp : p < ρ.1) (h1 : c p = -1) (hw : w < 12) (hz : sizeN ρ c w < 12) (hb : ∀ v, v < w → sizeN ρ c v ≠ 0) : Ok ρ (upd c p (nI (12 * w + sizeN ρ c w))) := by
  have hs : 12 * w + sizeN ρ c w < 144 := by omega
  have hd : (12 * w + sizeN ρ c w) / 12 = w := by omega
  have he : ∀ v, v < 12 → sizeN ρ (upd c p (nI (12 * w + sizeN ρ c w))) v = sizeN ρ c v + (if w = v then 1 else 0) := fun v hv => by
    rw [size_end hn hp h1 hs v (by omega), hd]
  have hsp : ∀ q, upd c p (nI (12 * w + sizeN ρ c w)) q = if q = p then nI (12 * w + sizeN ρ c w) else c q := fun q => rfl
  obtain ⟨g1, g2, g3, g4, g5⟩ := id hO
  have hfr : ∀ q, q < ρ.1 → c q ≠ nI (12 * w + sizeN ρ c w) := by
    intro q hq z
    rcases g1 q hq with h | ⟨v, x, z1, z2, z3⟩
    · rw [z] at h; exact (n144 _ hs).2.2.2.1 h
    · have h9 := hO.lt z1 z2
      have := nI_inj (by omega) (by omega) (z3.symm.trans z)
      have h8 := g4 v z1
      have : v = w := by omega
      subst this
      omega
  refine ⟨fun q hq => ?_, fun v x hv hx => ?_, fun q r hq hr e hne => ?_, fun v hv => ?_, fun v hv h0 => ?_⟩
  · rw [hsp]
    by_cases q1 : q = p
    · rw [if_pos q1]
      exact Or.inr ⟨w, sizeN ρ c w, hw, by rw [he w hw, if_pos rfl]; omega, rfl⟩
    · rw [if_neg q1]
      rcases g1 q hq with z | ⟨v, x, z1, z2, z3⟩
      · exact Or.inl z
      · exact Or.inr ⟨v, x, z1, by rw [he v z1]; omega, z3⟩
  · rw [he v hv] at hx
    by_cases hx2 : x < sizeN ρ c v
    · obtain ⟨q, z1, z2⟩ := g2 v x hv hx2
      refine ⟨q, z1, ?_⟩
      rw [hsp, if_neg, z2]
      intro z
      rw [z, h1] at z2
      exact (n144 _ (hO.lt hv hx2)).2.2.2.1 z2.symm
    · by_cases hwv : w = v
      · rw [if_pos hwv] at hx
        refine ⟨p, hp, ?_⟩
        have : x = sizeN ρ c v := by omega
        rw [hsp, if_pos rfl, this, hwv]
      · rw [if_neg hwv] at hx; omega
  · rw [hsp, hsp] at e
    rw [hsp] at hne
    by_cases q1 : q = p
    · by_cases r1 : r = p
      · rw [q1, r1]
      · rw [if_pos q1, if_neg r1] at e
        exact absurd e.symm (hfr r hr)
    · rw [if_neg q1] at e hne
      by_cases r1 : r = p
      · rw [if_pos r1] at e
        exact absurd e (hfr q hq)
      · rw [if_neg r1] at e
        exact g3 q r hq hr e hne
  · rw [he v hv]
    have := g4 v hv
    split
    · next h => subst h; omega
    · omega
  · rw [he v (by omega)] at h0
    rw [he (v + 1) hv]
    have a1 : sizeN ρ c v = 0 := by omega
    have a2 := g5 v hv a1
    by_cases h : w = v + 1
    · exact absurd a1 (hb v (by omega))
    · rw [if_neg h]; omega
end OK
/-! ===== there is an empty pew ===== -/
def sumN (f : Nat → Nat) : Nat → Nat
  | 0 => 0
  | n + 1 => sumN f n + f n
theorem sum_add (f g : Nat → Nat) : ∀ n, sumN (fun w => f w + g w) n = sumN f n + sumN g n
  | 0 => rfl
  | n + 1 => by
    rw [sumN, sumN, sumN, sum_add f g n]
    omega
theorem sum_ge {f : Nat → Nat} : ∀ {n : Nat}, (∀ w, w < n → 1 ≤ f w) → n ≤ sumN f n
  | 0, _ => Nat.le_refl 0
  | n + 1, h => by
    rw [sumN]
    have h1 := sum_ge (n := n) (fun w hw => h w (by omega))
    have h2 := h n (by omega)
    omega
theorem one_pew (c : Cc) (q : Nat) : ∀ K, K ≤ 12 → sumN (fun w => if inW c w q = true then 1 else 0) K ≤ (if c q = -1 then 0 else 1) ∧ (∀ w, K ≤ w → w < 12 → inW c w q = true → sumN (fun w => if inW c w q = true then 1 else 0) K = 0)
  | 0, _ => ⟨by show 0 ≤ _; exact Nat.zero_le _, fun _ _ _ _ => rfl⟩
  | K + 1, h => by
    obtain ⟨h1, h2⟩ := one_pew c q K (by omega)
    rw [sumN]
    by_cases hK : inW c K q = true
    · have h3 := h2 K (Nat.le_refl K) (by omega) hK
      rw [if_pos hK, h3]
      have hne : c q ≠ -1 := by
        intro z
        rw [inW_no z] at hK
        cases hK
      rw [if_neg hne]
      refine ⟨Nat.le_refl _, fun w hw hw2 hi => ?_⟩
      exfalso
      unfold inW at hK hi
      rw [Bool.and_eq_true] at hK hi
      have e1 := of_decide_eq_true hK.2
      have e2 := of_decide_eq_true hi.2
      have := nI_inj (by omega) (by omega) (e1.symm.trans e2)
      omega
    · rw [if_neg hK]
      exact ⟨h1, fun w hw hw2 hi => h2 w (by omega) hw2 hi⟩
theorem tot_le (c : Cc) : ∀ n, sumN (fun w => cntN (inW c w) n) 12 ≤ cntN (fun q => decide (¬ c q = -1)) n
  | 0 => by
    show sumN (fun _ => 0) 12 ≤ 0
    exact Nat.le_refl 0
  | n + 1 => by
    have e : sumN (fun w => cntN (inW c w) (n + 1)) 12 = sumN (fun w => cntN (inW c w) n) 12 + sumN (fun w => if inW c w n = true then 1 else 0) 12 := sum_add _ _ 12
    have h1 := tot_le c n
    have h2 := (one_pew c n 12 (Nat.le_refl 12)).1
    rw [e, cntN]
    by_cases h : c n = -1
    · rw [if_pos h] at h2
      have : decide (¬ c n = -1) = false := by simp [h]
      rw [this]
      simp only [Bool.false_eq_true, if_false, Nat.add_zero]
      omega
    · rw [if_neg h] at h2
      have : decide (¬ c n = -1) = true := by simp [h]
      rw [this]
      simp only [if_true]
      omega
theorem cnt_lt {P : Nat → Bool} {p : Nat} (h : P p = false) : ∀ {n : Nat}, p < n → cntN P n < n
  | n + 1, hp => by
    rw [cntN]
    by_cases hn : p = n
    · subst hn
      have := cnt_le P p
      rw [h]
      simp only [Bool.false_eq_true, if_false, Nat.add_zero]
      omega
    · have := cnt_lt h (n := n) (by omega)
      split <;> omega
theorem empty_pew {ρ : Ru} {c : Cc} (hn : ρ.1 ≤ 12) {p : Nat} (hp : p < ρ.1) (h : c p = -1) : ∃ w, w < 12 ∧ sizeN ρ c w = 0 := by
  apply Classical.byContradiction
  intro hc
  have h1 : ∀ w, w < 12 → 1 ≤ sizeN ρ c w := fun w hw => by
    apply Classical.byContradiction
    intro h2
    exact hc ⟨w, hw, by omega⟩
  have h2 : 12 ≤ sumN (fun w => cntN (inW c w) ρ.1) 12 := sum_ge h1
  have h3 := tot_le c ρ.1
  have h4 := cnt_lt (P := fun q => decide (¬ c q = -1)) (p := p) (by simp [h]) hp
  omega
