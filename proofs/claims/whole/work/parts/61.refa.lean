/-! ===== the reference: its row of numbers from b on, its rules ===== -/
def pewO (s : Int32) : Int32 := if s < 0 then -1 else s / 12
def seatO (s : Int32) : Int32 := if s < 0 then -1 else s - s / 12 * 12
/-- the row from b on holds c; of q the seat may be any -/
def RowS (b : Nat) (ρ : Ru) (c : Cc) (q : Nat) (r : Nat → Int32) : Prop := r b = c 72 ∧ ∀ p, p < ρ.1 → r (b + 1 + p) = c (12 + p) ∧ r (b + 13 + p) = pewO (c p) ∧ (p ≠ q → r (b + 25 + p) = seatO (c p)) ∧ r (b + 37 + p) = c (24 + p) ∧ r (b + 49 + p) = c (36 + p) ∧ r (b + 61 + p) = c (48 + p) ∧ r (b + 73 + p) = c (60 + p)
def RowM (b : Nat) (ρ : Ru) (c : Cc) (r : Nat → Int32) : Prop := RowS b ρ c 12 r
/-- told in the class's order -/
def tvN (t : Nat → Int32) : Nat → Int32 := fun k => if k = 0 then t 2 else if k = 1 then t 3 else if k = 2 then t 4 else if k = 3 then t 5 else if k = 4 then t 0 else if k = 5 then t 1 else t k
def GiveM (k : Nat) (F : RuF) (D : DD) : Prop := ∀ (X : XS) (d u : Nat) (J : JJ) (D1 : DD), D1 71 = D 71 →
  Wp (EvM X (d + 1) 213 [.ref 70, .int (D 70 k)] (hS u D1 J)) (RI u J (fun x D2 => x = F (tvN (D1 81)) ∧ ∀ q, q ≠ 82 → D2 q = D1 q))
def rulM (k : Nat) (o : Option RuF) (D : DD) : Prop := match o with
  | none => D 70 k = -1
  | some F => D 70 k ≠ -1 ∧ GiveM k F D
def RulesM (ρ : Ru) (D : DD) : Prop := D 70 1 = nI ρ.1 ∧ D 70 2 = nI ρ.2.1 ∧ rulM 3 ρ.2.2.1 D ∧ rulM 4 ρ.2.2.2.1 D ∧ rulM 5 ρ.2.2.2.2 D
theorem RulesM.mv {ρ : Ru} {D D' : DD} (h : RulesM ρ D) (h0 : ∀ k, 1 ≤ k → k ≤ 5 → D' 70 k = D 70 k) (h1 : D' 71 = D 71) : RulesM ρ D' := by
  obtain ⟨a1, a2, a3, a4, a5⟩ := h
  have key : ∀ k o, 1 ≤ k → k ≤ 5 → rulM k o D → rulM k o D' := by
    intro k o k1 k2 hk
    cases o with
    | none => show D' 70 k = -1; rw [h0 k k1 k2]; exact hk
    | some F => exact ⟨by rw [h0 k k1 k2]; exact hk.1, fun X d u J D1 g => by rw [h0 k k1 k2]; exact hk.2 X d u J D1 (g.trans h1)⟩
  exact ⟨by rw [h0 1 (by omega) (by omega)]; exact a1, by rw [h0 2 (by omega) (by omega)]; exact a2, key _ _ (by omega) (by omega) a3, key _ _ (by omega) (by omega) a4, key _ _ (by omega) (by omega) a5⟩
/-- what the reference's own work may change: the row from b on, counts of those put out, the order, scratch -/
def FrM (b : Nat) (D D' : DD) : Prop := (∀ q, q ≠ 70 → q ≠ 78 → q < 80 ∨ 84 < q → D' q = D q) ∧ (∀ i, i < b ∨ b + 85 ≤ i → D' 78 i = D 78 i) ∧ ∀ k, k ≠ 40 → k ≠ 41 → k ≠ 42 → k ≠ 46 → D' 70 k = D 70 k
theorem FrM.rf (b : Nat) (D : DD) : FrM b D D := ⟨fun _ _ _ _ => rfl, fun _ _ => rfl, fun _ _ _ _ _ => rfl⟩
theorem FrM.tr {b : Nat} {A B C : DD} (h1 : FrM b A B) (h2 : FrM b B C) : FrM b A C := ⟨fun q a b c => (h2.1 q a b c).trans (h1.1 q a b c), fun i a => (h2.2.1 i a).trans (h1.2.1 i a), fun k a b c e => (h2.2.2 k a b c e).trans (h1.2.2 k a b c e)⟩
theorem RulesM.fr {ρ : Ru} {b : Nat} {D D' : DD} (h : RulesM ρ D) (hf : FrM b D D') : RulesM ρ D' := h.mv (fun k _ _ => hf.2.2 k (by omega) (by omega) (by omega) (by omega)) (hf.1 71 (by omega) (by omega) (by omega))
theorem FrM.ud1 {b q k : Nat} {v : Int32} {D : DD} (h1 : 80 ≤ q) (h2 : q ≤ 84) : FrM b D (ud D q k v) := ⟨fun a _ _ _ => ud_q (by omega), fun i _ => by rw [ud_q (by omega)], fun k _ _ _ _ => by rw [ud_q (by omega)]⟩
theorem FrM.ud7 {b k : Nat} {v : Int32} {D : DD} (h : k = 40 ∨ k = 41 ∨ k = 42 ∨ k = 46) : FrM b D (ud D 70 k v) := ⟨fun a h1 _ _ => ud_q h1, fun i _ => by rw [ud_q (by omega)], fun j _ _ _ _ => ud_k (by omega)⟩
theorem FrM.ud8 {b k : Nat} {v : Int32} {D : DD} (h1 : b ≤ k) (h2 : k < b + 85) : FrM b D (ud D 78 k v) := ⟨fun a _ h _ => ud_q h, fun i _ => ud_k (by omega), fun j _ _ _ _ => by rw [ud_q (by omega)]⟩
def isB (b : Nat) : Prop := b = 0 ∨ b = 85
theorem isB_le {b : Nat} (h : isB b) : b ≤ 85 := by unfold isB at h; omega
theorem pewO_w {c : Cc} {p w : Nat} (hw : w < 2 ^ 31) : pewO (c p) = nI w ↔ inW c w p = true := by
  unfold pewO inW
  by_cases h : c p < 0
  · rw [if_pos h]
    constructor
    · intro z; exact absurd z.symm (nI_ne1 hw)
    · intro z
      rw [Bool.and_eq_true] at z
      exact absurd h (Int32.not_lt.mpr (of_decide_eq_true z.1))
  · rw [if_neg h, decide_eq_true (Int32.not_lt.mp h), Bool.true_and, decide_eq_true_eq]
theorem pewO_s {s : Nat} (hs : s < 144) : pewO (nI s) = nI (s / 12) ∧ seatO (nI s) = nI (s % 12) := by
  obtain ⟨h1, h2, -, -, h5⟩ := n144 s hs
  unfold pewO seatO
  rw [if_neg h5, if_neg h5, h1]
  rw [h1] at h2
  exact ⟨rfl, h2⟩
theorem pewO_1 : pewO (-1) = -1 ∧ seatO (-1) = -1 := by decide
section REFA
variable {X : XS} {d u b : Nat} {D : DD} {J : JJ} {ρ : Ru} {c : Cc}
theorem ix3 (b k p : Nat) : nI b + (OfNat.ofNat k : Int32) + nI p = nI (b + (OfNat.ofNat k : Nat) + p) := by
  rw [lk, nI_add]
theorem s_inPew {w q : Nat} (hb : isB b) (hn : ρ.1 ≤ 12) (hC : D 70 1 = nI ρ.1) (hr : RowS b ρ c q (D 78)) (hw : w < 12) : EvM X d 214 [.ref 70, .int (nI b), .int (nI w)] (hS u D J) = some (.inl (some (.int (orP (inW c w) ρ.1))), hS u D J) := by
  have hbl := isB_le hb
  refine wp_eqI ?_
  refine wp_eq (e214_0 _ _) ?_
  refine wp_loop (R := fun k (_ : Unit) => Ev X d 214 (4, [.ref 70, .int (nI b), .int (nI w), .int (orP (inW c w) k), .int (nI k)], [], hS u D J)) (fun _ _ => True) ρ.1 ?_ ?_ 0 () (Nat.zero_le _) trivial
  · intro k _ hk _ ih
    refine wp_eq (e214_4 _ _ _ _) ?_
    rw [hC]
    refine wp_f (nI_ge hk (by omega)) ?_
    rw [ix3, nI_clamp (by omega), (hr.2 k hk).2.1]
    refine oG (by omega) (by decide) ?_
    refine wp_if (fun h => ?_) (fun h => ?_)
    · have e : orP (inW c w) k ||| 0 = orP (inW c w) (k + 1) := by
        rw [orP, if_neg (fun z => h ((pewO_w (by omega)).mpr z))]
      rw [e, nI_1]
      exact ih () trivial
    · have e : orP (inW c w) k ||| (1 : Int32) <<< (nI k &&& 31) = orP (inW c w) (k + 1) := by
        rw [orP, if_pos ((pewO_w (by omega)).mp (Classical.not_not.mp h))]; rfl
      rw [e, nI_1]
      exact ih () trivial
  · intro _ _
    refine wp_eq (e214_4 _ _ _ _) ?_
    rw [hC]
    exact wp_t (nI_le (Nat.le_refl _) (by omega)) (wp_rI ⟨rfl, rfl⟩)
theorem s_size {w q : Nat} (hb : isB b) (hn : ρ.1 ≤ 12) (hC : D 70 1 = nI ρ.1) (hr : RowS b ρ c q (D 78)) (hw : w < 12) : EvM X (d + 1) 215 [.ref 70, .int (nI b), .int (nI w)] (hS u D J) = some (.inl (some (.int (nI (sizeN ρ c w)))), hS u D J) := by
  refine wp_eqI ?_
  refine wp_eq (e215_0 _ _) ?_
  refine wp_iE (s_inPew hb hn hC hr hw) ?_
  refine wp_eq (e215_4 _ _ _) ?_
  refine wp_iE (s_bitsP hn) ?_
  exact wp_eq (e215_5 _ _ _) (wp_rI ⟨rfl, rfl⟩)
/-- where one would find who sits in a seat: -1, if nobody -/
def whoA (o : Option Nat) : Int32 := match o with | none => -1 | some p => nI p
theorem s_whoAt {w x q : Nat} (hb : isB b) (hn : ρ.1 ≤ 12) (hC : D 70 1 = nI ρ.1) (hr : RowS b ρ c q (D 78)) (hq : q < ρ.1 → c q = -1) (hv : ∀ p, p < ρ.1 → c p = -1 ∨ ∃ s, s < 144 ∧ c p = nI s) (hw : w < 12) (hx : x < 12) : EvM X d 216 [.ref 70, .int (nI b), .int (nI w), .int (nI x)] (hS u D J) = some (.inl (some (.int (whoA (findN (fun p => decide (c p = nI (12 * w + x))) ρ.1 0)))), hS u D J) := by
  have hbl := isB_le hb
  refine wp_eqI ?_
  refine wp_eq (e216_0 _ _ _) ?_
  have main : ∀ (r k : Nat), k + r = ρ.1 → Wp (Ev X d 216 (2, [.ref 70, .int (nI b), .int (nI w), .int (nI x), .int (nI k)], [], hS u D J)) (RI u J (fun y D' => y = whoA (findN (fun p => decide (c p = nI (12 * w + x))) r k) ∧ D' = D)) := by
    intro r
    induction r with
    | zero =>
      intro k hk
      refine wp_eq (e216_2 _ _ _ _) ?_
      rw [hC]
      exact wp_t (nI_le (by omega) (by omega)) (wp_rI ⟨rfl, rfl⟩)
    | succ r ih =>
      intro k hk
      have hkn : k < ρ.1 := by omega
      obtain ⟨-, r1, r2, -⟩ := hr.2 k hkn
      have next : ¬ c k = nI (12 * w + x) → Wp (Ev X d 216 (2, [.ref 70, .int (nI b), .int (nI w), .int (nI x), .int (nI k + 1)], [], hS u D J)) (RI u J (fun y D' => y = whoA (findN (fun p => decide (c p = nI (12 * w + x))) (r + 1) k) ∧ D' = D)) := by
        intro h
        rw [findN, decide_eq_false h, nI_1]
        exact ih (k + 1) (by omega)
      refine wp_eq (e216_2 _ _ _ _) ?_
      rw [hC]
      refine wp_f (nI_ge hkn (by omega)) ?_
      rw [ix3, nI_clamp (by omega), r1]
      refine oG (by omega) (by decide) ?_
      have hsx := pewO_s (s := 12 * w + x) (by omega)
      rw [show (12 * w + x) / 12 = w by omega, show (12 * w + x) % 12 = x by omega] at hsx
      refine wp_if (fun h => ?_) (fun h => ?_)
      · refine next (fun z => h ?_)
        rw [z]; exact hsx.1
      · have h := Classical.not_not.mp h
        have hkq : k ≠ q := by
          intro z
          rw [z, hq (by omega), pewO_1.1] at h
          exact nI_ne1 (by omega) h.symm
        rw [ix3, nI_clamp (by omega), r2 hkq]
        refine oG (by omega) (by decide) ?_
        refine wp_if (fun h2 => ?_) (fun h2 => ?_)
        · refine next (fun z => h2 ?_)
          rw [z]; exact hsx.2
        · have h2 := Classical.not_not.mp h2
          have e : c k = nI (12 * w + x) := by
            rcases hv k hkn with z | ⟨s, z1, z2⟩
            · rw [z, pewO_1.1] at h
              exact absurd h.symm (nI_ne1 (by omega))
            · rw [z2] at h h2 ⊢
              obtain ⟨a1, a2⟩ := pewO_s z1
              rw [a1] at h
              rw [a2] at h2
              have b1 := nI_inj (by omega) (by omega) h
              have b2 := nI_inj (by omega) (by omega) h2
              rw [show s = 12 * w + x by omega]
          refine wp_rI ⟨?_, rfl⟩
          rw [findN, decide_eq_true e]; rfl
  exact main ρ.1 0 (by omega)
theorem Ok.v (hO : Ok ρ c) : ∀ p, p < ρ.1 → c p = -1 ∨ ∃ s, s < 144 ∧ c p = nI s := by
  intro p hp
  rcases hO.1 p hp with h | ⟨w, x, h1, h2, h3⟩
  · exact Or.inl h
  · exact Or.inr ⟨_, hO.lt h1 h2, h3⟩
theorem find_who (hO : Ok ρ c) {w x : Nat} (hw : w < 12) (hx : x < sizeN ρ c w) : findN (fun p => decide (c p = nI (12 * w + x))) ρ.1 0 = some (whoN ρ c (12 * w + x)) := by
  obtain ⟨h1, h2⟩ := who_ex hO hw hx
  refine find_some (by simp [h2]) (Nat.zero_le _) (by omega) (fun j _ hj => decide_eq_false (fun z => ?_))
  have := hO.2.2.1 j _ (by omega) h1 (z.trans h2.symm) (by rw [z]; exact (n144 _ (hO.lt hw hx)).2.2.2.1)
  omega
theorem s_who1 {w x q : Nat} (hb : isB b) (hn : ρ.1 ≤ 12) (hC : D 70 1 = nI ρ.1) (hr : RowS b ρ c q (D 78)) (hq : q < ρ.1 → c q = -1) (hO : Ok ρ c) (hw : w < 12) (hx : x < sizeN ρ c w) : EvM X d 216 [.ref 70, .int (nI b), .int (nI w), .int (nI x)] (hS u D J) = some (.inl (some (.int (nI (whoN ρ c (12 * w + x))))), hS u D J) := by
  rw [s_whoAt hb hn hC hr hq hO.v hw (by have := hO.2.2.2.1 w hw; omega), find_who hO hw hx]; rfl
/-- whether one who sits minds one who comes -/
theorem s_minds {p o q : Nat} (hb : isB b) (hR : RuOk ρ) (hC : RulesM ρ D) (hr : RowS b ρ c q (D 78)) (hp : p < ρ.1) (ho : o < ρ.1) (hpq : p ≠ q) (hs : ∃ s, s < 144 ∧ c p = nI s) : Wp (EvM X (d + 2) 219 [.ref 70, .int (nI b), .int (nI p), .int (nI o)] (hS u D J)) (RI u J (fun y D' => y = bI32 (mindsF ρ c p (c (12 + o))) ∧ ∀ q, q ≠ 81 → q ≠ 82 → D' q = D q)) := by
  have hbl := isB_le hb
  have hn := hR.1.1
  obtain ⟨p1, p2, p3, p4, -⟩ := hr.2 p hp
  obtain ⟨o1, -⟩ := hr.2 o ho
  have hm := hC.2.2.2.2
  refine wp_eq (e219_0 _ _ _) ?_
  cases hrr : ρ.2.2.2.2 with
  | none =>
    rw [hrr] at hm
    have hm : D 70 5 = -1 := hm
    refine wp_f (fun z => z hm) ?_
    rw [ix3, ix3, nI_clamp (by omega), nI_clamp (by omega), p1, o1]
    refine oG (by omega) (by decide) (oG (by omega) (by decide) ?_)
    have em : mindsF ρ c p (c (12 + o)) = decide (c (12 + o) < c (12 + p)) := by unfold mindsF; rw [hrr]
    refine wp_if (fun h => ?_) (fun h => ?_)
    · refine wp_eq (e219_23 _ _ _) (wp_rI ⟨?_, fun _ _ _ => rfl⟩)
      rw [em, decide_eq_false (Int32.not_lt.mpr h)]; rfl
    · refine wp_rI ⟨?_, fun _ _ _ => rfl⟩
      rw [em, decide_eq_true (Int32.not_le.mp h)]; rfl
  | some F =>
    rw [hrr] at hm
    obtain ⟨hm1, hg⟩ := hm
    refine wp_t hm1 ?_
    refine wp_eq (e219_25 _ _ _) ?_
    rw [ix3, nI_clamp (by omega), p1]
    refine oG (by omega) (by decide) ?_
    refine wp_eq (e219_37 _ _ _) ?_
    rw [ix3, nI_clamp (by omega), ud_q (show 78 ≠ 81 by decide), o1]
    refine oG (by omega) (by decide) ?_
    refine wp_eq (e219_49 _ _ _) ?_
    rw [ix3, nI_clamp (by omega), ud_q (show 78 ≠ 81 by decide), ud_q (show 78 ≠ 81 by decide), p2]
    refine oG (by omega) (by decide) ?_
    refine wp_eq (e219_61 _ _ _) ?_
    rw [ix3, nI_clamp (by omega), ud_q (show 78 ≠ 81 by decide), ud_q (show 78 ≠ 81 by decide), ud_q (show 78 ≠ 81 by decide), p3 hpq]
    refine oG (by omega) (by decide) ?_
    refine wp_eq (e219_73 _ _ _) ?_
    rw [ix3, nI_clamp (by omega), ud_q (show 78 ≠ 81 by decide), ud_q (show 78 ≠ 81 by decide), ud_q (show 78 ≠ 81 by decide), ud_q (show 78 ≠ 81 by decide), p4]
    refine oG (by omega) (by decide) ?_
    refine wp_eq (e219_85 _ _ _) ?_
    generalize hE : ud (ud (ud (ud (ud D 81 2 (c (12 + p))) 81 6 (c (12 + o))) 81 3 (pewO (c p))) 81 4 (seatO (c p))) 81 5 (c (24 + p)) = E
    have eq : ∀ q, q ≠ 81 → E q = D q := fun q hq => by rw [← hE, ud_q hq, ud_q hq, ud_q hq, ud_q hq, ud_q hq]
    rw [eq 70 (by decide)]
    refine wp_cI (hg X d u J E (eq 71 (by decide))) (fun y D3 h3 => ?_)
    obtain ⟨y3, f3⟩ := h3
    have em : mindsF ρ c p (c (12 + o)) = decide (0 < y) := by
      unfold mindsF
      rw [hrr, y3]
      dsimp only
      have : F (vM c p (c (12 + o))) = F (tvN (E 81)) := hR.2.2 F hrr _ _ (fun i hi => by
        obtain ⟨s, s1, s2⟩ := hs
        have hn5 := (n144 s s1).2.2.2.2
        have e1 : pewV (c p) = pewO (c p) := by unfold pewV pewO; rw [s2, if_neg hn5, if_neg hn5]
        have e2 : seatV (c p) = seatO (c p) := by unfold seatV seatO; rw [s2, if_neg hn5, if_neg hn5]
        rcases (show i = 0 ∨ i = 1 ∨ i = 2 ∨ i = 3 ∨ i = 6 by omega) with rfl | rfl | rfl | rfl | rfl <;> rw [← hE] <;> simp [vM, tvN, ud, e1, e2])
      rw [this]
    refine wp_eq (e219_89 _ _ _ _) ?_
    refine wp_if (fun h => ?_) (fun h => ?_)
    · refine wp_eq (e219_92 _ _ _) (wp_rI ⟨?_, fun q a1 a2 => (f3 q a2).trans (eq q a1)⟩)
      rw [em, decide_eq_false (Int32.not_lt.mpr h)]; rfl
    · refine wp_rI ⟨?_, fun q a1 a2 => (f3 q a2).trans (eq q a1)⟩
      rw [em, decide_eq_true (Int32.not_le.mp h)]; rfl
/-- the answer of victim -/
def vicA (ρ : Ru) (c : Cc) (w : Nat) (o : Option Nat) : Int32 := match o with | none => -1 | some x => nI (whoN ρ c (12 * w + x))
theorem s_victim {w p : Nat} (hb : isB b) (hR : RuOk ρ) (hC : RulesM ρ D) (hr : RowS b ρ c p (D 78)) (hO : Ok ρ c) (hp : p < ρ.1) (h1 : c p = -1) (hw : w < 12) : Wp (EvM X (d + 3) 220 [.ref 70, .int (nI b), .int (nI w), .int (nI p)] (hS u D J)) (RI u J (fun y D' => y = vicA ρ c w (vicN ρ c w (c (12 + p)) (sizeN ρ c w) 0) ∧ ∀ q, q ≠ 81 → q ≠ 82 → D' q = D q)) := by
  have hn := hR.1.1
  have hz := hO.2.2.2.1 w hw
  refine wp_eq (e220_0 _ _ _) ?_
  refine wp_iE (s_size (d := d + 1) hb hn hC.1 hr hw) ?_
  refine wp_eq (e220_4 _ _ _ _) ?_
  have main : ∀ (r x : Nat) (D1 : DD), x + r = sizeN ρ c w → (∀ q, q ≠ 81 → q ≠ 82 → D1 q = D q) → Wp (Ev X (d + 3) 220 (7, [.ref 70, .int (nI b), .int (nI w), .int (nI p), .int (nI (sizeN ρ c w)), .int (nI x)], [], hS u D1 J)) (RI u J (fun y D' => y = vicA ρ c w (vicN ρ c w (c (12 + p)) r x) ∧ ∀ q, q ≠ 81 → q ≠ 82 → D' q = D q)) := by
    intro r
    induction r with
    | zero =>
      intro x D1 hx hf
      refine wp_eq (e220_7 _ _ _ _ _) ?_
      exact wp_t (nI_le (by omega) (by omega)) (wp_rI ⟨rfl, hf⟩)
    | succ r ih =>
      intro x D1 hx hf
      have hxs : x < sizeN ρ c w := by omega
      obtain ⟨w1, w2⟩ := who_ex hO hw hxs
      have hl := hO.lt hw hxs
      have e70 : D1 70 = D 70 := hf 70 (by decide) (by decide)
      have e78 : D1 78 = D 78 := hf 78 (by decide) (by decide)
      have hC1 : RulesM ρ D1 := hC.mv (fun k _ _ => by rw [e70]) (hf 71 (by decide) (by decide))
      have hr1 : RowS b ρ c p (D1 78) := by rw [e78]; exact hr
      have hne : whoN ρ c (12 * w + x) ≠ p := by
        intro z
        rw [z, h1] at w2
        exact (n144 _ hl).2.2.2.1 w2.symm
      refine wp_eq (e220_7 _ _ _ _ _) ?_
      refine wp_f (nI_ge hxs (by omega)) ?_
      refine wp_iE (s_who1 hb hn hC1.1 hr1 (fun _ => h1) hO hw hxs) ?_
      refine wp_eq (e220_17 _ _ _ _ _ _ _) ?_
      refine wp_cI (s_minds (d := d) hb hR hC1 hr1 w1 hp hne ⟨_, hl, w2⟩) (fun y D2 h2 => ?_)
      obtain ⟨y2, f2⟩ := h2
      have hf2 : ∀ q, q ≠ 81 → q ≠ 82 → D2 q = D q := fun q a1 a2 => (f2 q a1 a2).trans (hf q a1 a2)
      have ev : vicN ρ c w (c (12 + p)) (r + 1) x = if mindsF ρ c (whoN ρ c (12 * w + x)) (c (12 + p)) = true then some x else vicN ρ c w (c (12 + p)) r (x + 1) := rfl
      refine wp_eq (e220_19 _ _ _ _ _ _) ?_
      rw [y2, ev]
      cases hm : mindsF ρ c (whoN ρ c (12 * w + x)) (c (12 + p)) with
      | false =>
        refine wp_t rfl ?_
        rw [nI_1]
        exact ih (x + 1) D2 (by omega) hf2
      | true =>
        refine wp_f (by decide) ?_
        have e78' : D2 78 = D 78 := hf2 78 (by decide) (by decide)
        have e70' : D2 70 = D 70 := hf2 70 (by decide) (by decide)
        refine wp_iE (s_who1 hb hn (by rw [e70']; exact hC.1) (by rw [e78']; exact hr) (fun _ => h1) hO hw hxs) ?_
        exact wp_eq (e220_25 _ _ _ _ _ _) (wp_rI ⟨rfl, hf2⟩)
  exact main (sizeN ρ c w) 0 D (by omega) (fun _ _ _ => rfl)
end REFA
