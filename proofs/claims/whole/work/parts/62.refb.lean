/-! ===== the reference: one sits down ===== -/
theorem upd_at (f : Nat → Int32) (k : Nat) (v : Int32) : upd f k v k = v := if_pos rfl
theorem upd_ne {f : Nat → Int32} {k i : Nat} {v : Int32} (h : i ≠ k) : upd f k v i = f i := if_neg h
def pcN (o p : Nat) : List (Nat × Nat) → Nat
  | [] => 0
  | e :: l => (if e.1 = o ∧ e.2 = p then 1 else 0) + pcN o p l
theorem row_end {b : Nat} {ρ : Ru} {c : Cc} {r : Nat → Int32} {q w s : Nat} (hn : ρ.1 ≤ 12) (hr : RowS b ρ c q r) (hq : q < ρ.1) (hw : w < 12) (hs : s < 12) : RowM b ρ (upd c q (nI (12 * w + s))) (upd (upd r (b + 13 + q) (nI w)) (b + 25 + q) (nI s)) := by
  obtain ⟨e1, e2⟩ := pewO_s (s := 12 * w + s) (by omega)
  rw [show (12 * w + s) / 12 = w by omega] at e1
  rw [show (12 * w + s) % 12 = s by omega] at e2
  refine ⟨by rw [upd_ne (by omega), upd_ne (by omega), upd_ne (by omega)]; exact hr.1, fun p hp => ?_⟩
  obtain ⟨h1, h2, h3, h4, h5, h6, h7⟩ := hr.2 p hp
  refine ⟨?_, ?_, fun _ => ?_, ?_, ?_, ?_, ?_⟩
  · rw [upd_ne (by omega), upd_ne (by omega), upd_ne (by omega)]; exact h1
  · rw [upd_ne (by omega)]
    by_cases hpq : p = q
    · subst hpq
      rw [upd_at, upd_at]; exact e1.symm
    · rw [upd_ne (by omega), upd_ne hpq]; exact h2
  · by_cases hpq : p = q
    · subst hpq
      rw [upd_at, upd_at]; exact e2.symm
    · rw [upd_ne (by omega), upd_ne (by omega), upd_ne hpq]; exact h3 hpq
  · rw [upd_ne (by omega), upd_ne (by omega), upd_ne (by omega)]; exact h4
  · rw [upd_ne (by omega), upd_ne (by omega), upd_ne (by omega)]; exact h5
  · rw [upd_ne (by omega), upd_ne (by omega), upd_ne (by omega)]; exact h6
  · rw [upd_ne (by omega), upd_ne (by omega), upd_ne (by omega)]; exact h7
theorem row_out {b : Nat} {ρ : Ru} {c : Cc} {r : Nat → Int32} {q o w s : Nat} (hn : ρ.1 ≤ 12) (hr : RowS b ρ c q r) (hq : q < ρ.1) (ho : o < ρ.1) (hqo : q ≠ o) (hw : w < 12) (hs : s < 12) (hc : c o = nI (12 * w + s)) :
    RowS b ρ (outN c q o) o (upd (upd (upd (upd (upd r (b + 13 + q) (nI w)) (b + 25 + q) (nI s)) (b + 13 + o) (-1)) (b + 37 + o) (r (b + 37 + o) + 1)) (b + 49 + o) (r (b + 49 + o) + 1)) := by
  obtain ⟨e1, e2⟩ := pewO_s (s := 12 * w + s) (by omega)
  rw [show (12 * w + s) / 12 = w by omega] at e1
  rw [show (12 * w + s) % 12 = s by omega] at e2
  refine ⟨?_, fun p hp => ?_⟩
  · rw [upd_ne (by omega), upd_ne (by omega), upd_ne (by omega), upd_ne (by omega), upd_ne (by omega), outN_far (by omega) (by omega) (by omega)]; exact hr.1
  · obtain ⟨h1, h2, h3, h4, h5, h6, h7⟩ := hr.2 p hp
    have hsp : outN c q o p = if p = o then -1 else if p = q then c o else c p := outN_spot (by omega) (by omega)
    obtain ⟨m1, m2⟩ := outN_mv (c := c) (p := q) (o := o) (q := p) (by omega) (by omega) (by omega)
    obtain ⟨-, -, -, g4, g5, -⟩ := hr.2 o ho
    refine ⟨?_, ?_, fun hpo => ?_, ?_, ?_, ?_, ?_⟩
    · rw [upd_ne (by omega), upd_ne (by omega), upd_ne (by omega), upd_ne (by omega), upd_ne (by omega), outN_far (by omega) (by omega) (by omega)]; exact h1
    · rw [upd_ne (by omega), upd_ne (by omega), hsp]
      by_cases hpo : p = o
      · subst hpo
        rw [upd_at, if_pos rfl]; exact pewO_1.1.symm
      · rw [upd_ne (by omega), upd_ne (by omega), if_neg hpo]
        by_cases hpq : p = q
        · subst hpq
          rw [upd_at, if_pos rfl, hc]; exact e1.symm
        · rw [upd_ne (by omega), if_neg hpq]; exact h2
    · rw [upd_ne (by omega), upd_ne (by omega), upd_ne (by omega), hsp, if_neg hpo]
      by_cases hpq : p = q
      · subst hpq
        rw [upd_at, if_pos rfl, hc]; exact e2.symm
      · rw [upd_ne (by omega), upd_ne (by omega), if_neg hpq]; exact h3 hpq
    · rw [upd_ne (by omega), m1]
      by_cases hpo : p = o
      · subst hpo
        rw [upd_at, if_pos rfl, h4]; rfl
      · rw [upd_ne (by omega), upd_ne (by omega), upd_ne (by omega), upd_ne (by omega), if_neg (fun z => hpo z.symm), h4, nI_0, Int32.add_zero]
    · rw [m2]
      by_cases hpo : p = o
      · subst hpo
        rw [upd_at, if_pos rfl, h5]; rfl
      · rw [upd_ne (by omega), upd_ne (by omega), upd_ne (by omega), upd_ne (by omega), upd_ne (by omega), if_neg (fun z => hpo z.symm), h5, nI_0, Int32.add_zero]
    · rw [upd_ne (by omega), upd_ne (by omega), upd_ne (by omega), upd_ne (by omega), upd_ne (by omega), outN_far (by omega) (by omega) (by omega)]; exact h6
    · rw [upd_ne (by omega), upd_ne (by omega), upd_ne (by omega), upd_ne (by omega), upd_ne (by omega), outN_far (by omega) (by omega) (by omega)]; exact h7
def SitM (b : Nat) (ρ : Ru) (D1 : DD) (r : Cc × List (Nat × Nat) × Nat) (D' : DD) : Prop :=
  RowM b ρ r.1 (D' 78) ∧ D' 70 40 = D1 70 40 + nI r.2.1.length ∧ D' 70 41 = orB (r.2.1.map fun e => e.1) (D1 70 41) ∧ D' 70 42 = nI r.2.2 ∧ (∀ o p, o < 12 → p < 12 → D' 80 (12 * o + p) = D1 80 (12 * o + p) + nI (pcN o p r.2.1)) ∧ D' 70 46 = D1 70 46 ∧ D' 83 = D1 83 ∧ D' 84 = D1 84 ∧ FrM b D1 D'
section REFB
variable {X : XS} {d u b : Nat} {D : DD} {J : JJ} {ρ : Ru} {c : Cc}
theorem s_sitsW (hb : isB b) (hR : RuOk ρ) : ∀ (f : Nat) (cc : Cc) (q w : Nat) (x2 : Int32) (D1 : DD), f + w = 12 → Ok ρ cc → q < ρ.1 → cc q = -1 → (∃ v, w ≤ v ∧ v < 12 ∧ sizeN ρ cc v = 0) → (∀ v, v < w → sizeN ρ cc v ≠ 0) → RulesM ρ D1 → RowS b ρ cc q (D1 78) →
    Wp (Ev X (d + 4) 221 (10, [.ref 70, .int (nI b), .int x2, .int (nI q), .int (nI w), .null, .null], [], hS u D1 J)) (RV u J (SitM b ρ D1 (sitN ρ f cc q w))) := by
  have hbl := isB_le hb
  obtain ⟨hn, hs1, hs2⟩ := hR.1
  intro f
  induction f with
  | zero => intro cc q w x2 D1 hf _ _ _ ⟨v, h1, h2, _⟩; omega
  | succ f ih =>
    intro cc q w x2 D1 hf hO hq h1 ⟨v, v1, v2, v3⟩ hbf hC hr
    have hw : w < 12 := by omega
    have hz := hO.2.2.2.1 w hw
    refine wp_eq (e221_10 _ _ _ _) ?_
    refine wp_f (nI_ne1 (by omega)) ?_
    refine wp_cI (s_victim (d := d) hb hR hC hr hO hq h1 hw) (fun y D2 h2 => ?_)
    obtain ⟨hy, f2⟩ := h2
    have e70 : D2 70 = D1 70 := f2 70 (by decide) (by decide)
    have e78 : D2 78 = D1 78 := f2 78 (by decide) (by decide)
    have e80 : D2 80 = D1 80 := f2 80 (by decide) (by decide)
    have e83 : D2 83 = D1 83 := f2 83 (by decide) (by decide)
    have e84 : D2 84 = D1 84 := f2 84 (by decide) (by decide)
    have hC2 : RulesM ρ D2 := hC.mv (fun k _ _ => by rw [e70]) (f2 71 (by decide) (by decide))
    have hr2 : RowS b ρ cc q (D2 78) := by rw [e78]; exact hr
    have hf2 : FrM b D1 D2 := ⟨fun a _ _ h => by
      by_cases ha : a = 81 ∨ a = 82
      · omega
      · exact f2 a (by omega) (by omega), fun i _ => by rw [e78], fun k _ _ _ _ => by rw [e70]⟩
    refine wp_eq (e221_18 _ _ _ _ _) ?_
    rw [sitN]
    cases hv : vicN ρ cc w (cc (12 + q)) (sizeN ρ cc w) 0 with
    | none =>
      rw [hv] at hy
      have hy : y = -1 := hy
      subst hy
      dsimp only
      refine wp_f (fun z => z rfl) ?_
      refine wp_iE (s_size (d := d + 2) hb hn hC2.1 hr2 hw) ?_
      refine wp_eq (e221_26 _ _ _ _ _ _) ?_
      refine wp_eq (e221_36 _ _ _ _ _ _) ?_
      refine wp_f (fun z => z rfl) ?_
      rw [hC2.2.1]
      refine wp_if (fun h => ?_) (fun h => ?_)
      · have h : sizeN ρ cc w < ρ.2.1 := (nI_ltI (by omega) (by omega)).mp h
        rw [if_pos h]
        refine wp_eq (e221_45 _ _ _ _ _ _) ?_
        rw [ix3, nI_clamp (by omega)]
        refine oG (by omega) (by decide) ?_
        refine wp_eq (e221_54 _ _ _ _ _ _) ?_
        rw [ix3, nI_clamp (by omega)]
        refine oG (by omega) (by decide) ?_
        refine wp_eq (e221_63 _ _ _ _ _ _) ?_
        refine wp_eq (e221_66 _ _ _ _ _ _) ?_
        refine wp_t rfl ?_
        refine wp_eq (e221_128 _ _ _ _ _ _) ?_
        refine wp_weak (ls := [.ref 70, .int (nI b), .int x2, .int (-1), .int (nI w + 1), .null, .null]) (by simp [lle, lng]) ?_
        refine wp_eq (e221_10 (d := d + 3) _ _ _ _) ?_
        refine wp_t rfl ?_
        refine wp_eq (e221_132 _ _ _ _) (wp_rV ⟨?_, ?_, ?_, ?_, fun o p _ _ => ?_, ?_, ?_, ?_, ?_⟩)
        · rw [ud_q (by decide), ud_row, ud_row]
          exact row_end hn hr2 hq hw (by omega)
        · rw [ud_k (by decide), ud_q (by decide), ud_q (by decide), e70]
          show _ = _ + nI 0
          rw [nI_0, Int32.add_zero]
        · rw [ud_k (by decide), ud_q (by decide), ud_q (by decide), e70]; rfl
        · rw [ud_at]
        · rw [ud_q (by decide), ud_q (by decide), ud_q (by decide), e80]
          show _ = _ + nI 0
          rw [nI_0, Int32.add_zero]
        · rw [ud_k (by decide), ud_q (by decide), ud_q (by decide), e70]
        · rw [ud_q (by decide), ud_q (by decide), ud_q (by decide), e83]
        · rw [ud_q (by decide), ud_q (by decide), ud_q (by decide), e84]
        · exact hf2.tr ((FrM.ud8 (by omega) (by omega)).tr ((FrM.ud8 (by omega) (by omega)).tr (FrM.ud7 (by omega))))
      · have h : ρ.2.1 ≤ sizeN ρ cc w := Nat.not_lt.mp (fun z => h (nI_lt z (by omega)))
        rw [if_neg (by omega)]
        refine wp_weak (ls := [.ref 70, .int (nI b), .int x2, .int (nI q), .int (nI w + 1), .null, .null]) (by simp [lle, lng]) ?_
        rw [nI_1]
        have hne : v ≠ w := by
          intro z
          rw [z] at v3
          omega
        refine wp_mono (ih cc q (w + 1) x2 D2 (by omega) hO hq h1 ⟨v, by omega, v2, v3⟩ (fun t ht => ?_) hC2 hr2) (fun r hr => ?_)
        · by_cases ht2 : t = w
          · rw [ht2]; omega
          · exact hbf t (by omega)
        · obtain ⟨D', e1, a1, a2, a3, a4, a5, a6, a7, a8, a9⟩ := hr
          rw [e70] at a2 a3 a6
          rw [e80] at a5
          exact ⟨D', e1, a1, a2, a3, a4, a5, a6, a7.trans e83, a8.trans e84, hf2.tr a9⟩
    | some x =>
      rw [hv] at hy
      have hx : x < sizeN ρ cc w := by have := vic_lt hv; omega
      have hl := hO.lt hw hx
      obtain ⟨o1, o2⟩ := who_ex hO hw hx
      have hy : y = nI (whoN ρ cc (12 * w + x)) := hy
      dsimp only
      generalize whoN ρ cc (12 * w + x) = o at o1 o2 hy ⊢
      subst hy
      have hpo : q ≠ o := by
        intro z
        rw [← z, h1] at o2
        exact (n144 _ hl).2.2.2.1 o2.symm
      have hx12 : x < 12 := by omega
      refine wp_t (nI_ne1 (by omega)) ?_
      refine wp_eq (e221_27 _ _ _ _ _) ?_
      have hseat : D2 78 (b + 25 + o) = nI x := by
        rw [(hr2.2 o o1).2.2.1 (fun z => hpo z.symm), o2, (pewO_s hl).2, show (12 * w + x) % 12 = x by omega]
      rw [ix3, nI_clamp (by omega), hseat]
      refine oG (by omega) (by decide) ?_
      refine wp_eq (e221_36 _ _ _ _ _ _) ?_
      refine wp_t (nI_ne1 (by omega)) ?_
      refine wp_eq (e221_45 _ _ _ _ _ _) ?_
      rw [ix3, nI_clamp (by omega)]
      refine oG (by omega) (by decide) ?_
      refine wp_eq (e221_54 _ _ _ _ _ _) ?_
      rw [ix3, nI_clamp (by omega)]
      refine oG (by omega) (by decide) ?_
      refine wp_eq (e221_63 _ _ _ _ _ _) ?_
      refine wp_eq (e221_66 _ _ _ _ _ _) ?_
      refine wp_f (nI_ne1 (by omega)) ?_
      rw [ix3, nI_clamp (by omega)]
      refine oG (by omega) (by decide) ?_
      refine wp_eq (e221_78 _ _ _ _ _ _) ?_
      rw [ix3, nI_clamp (by omega)]
      refine oG (by omega) (by decide) (oG (by omega) (by decide) ?_)
      refine wp_eq (e221_90 _ _ _ _ _ _) ?_
      rw [ix3, nI_clamp (by omega)]
      refine oG (by omega) (by decide) (oG (by omega) (by decide) ?_)
      refine wp_eq (e221_102 _ _ _ _ _ _) ?_
      have e12 : (12 : Int32) * nI o + nI q = nI (12 * o + q) := by
        rw [show (12 : Int32) = nI 12 from rfl, nI_mul, nI_add]
      rw [e12, nI_clamp (by omega)]
      refine oG (by omega) (by decide) (oG (by omega) (by decide) ?_)
      refine wp_eq (e221_114 _ _ _ _ _ _) ?_
      refine wp_eq (e221_120 _ _ _ _ _ _) ?_
      refine wp_eq (e221_128 _ _ _ _ _ _) ?_
      refine wp_weak (ls := [.ref 70, .int (nI b), .int x2, .int (nI o), .int (nI w + 1), .null, .null]) (by simp [lle, lng]) ?_
      rw [nI_1]
      -- the heap now
      generalize hA : ud (ud (ud D2 78 (b + 13 + q) (nI w)) 78 (b + 25 + q) (nI x)) 70 42 (nI w) = A
      have hA7 : ∀ k, k ≠ 42 → A 70 k = D1 70 k := fun k hk => by rw [← hA, ud_k hk, ud_q (by decide), ud_q (by decide), e70]
      have hA8 : A 78 = upd (upd (D1 78) (b + 13 + q) (nI w)) (b + 25 + q) (nI x) := by rw [← hA, ud_q (by decide), ud_row, ud_row, e78]
      have hAq : ∀ a, a ≠ 70 → a ≠ 78 → A a = D2 a := fun a h1 h2 => by rw [← hA, ud_q h1, ud_q h2, ud_q h2]
      have hAf : FrM b D1 A := by rw [← hA]; exact hf2.tr ((FrM.ud8 (by omega) (by omega)).tr ((FrM.ud8 (by omega) (by omega)).tr (FrM.ud7 (by omega))))
      clear hA
      generalize hB : ud A 78 (b + 13 + o) (-1) = B
      generalize hE : ud B 78 (b + 37 + o) (B 78 (b + 37 + o) + 1) = E
      generalize hF : ud E 78 (b + 49 + o) (E 78 (b + 49 + o) + 1) = F
      generalize hG : ud F 80 (12 * o + q) (F 80 (12 * o + q) + 1) = G
      generalize hH : ud G 70 40 (G 70 40 + 1) = H
      generalize hK : ud H 70 41 (H 70 41 ||| (1 : Int32) <<< (nI o &&& 31)) = K
      have F78 : F 78 = upd (upd (upd (upd (upd (D1 78) (b + 13 + q) (nI w)) (b + 25 + q) (nI x)) (b + 13 + o) (-1)) (b + 37 + o) (D1 78 (b + 37 + o) + 1)) (b + 49 + o) (D1 78 (b + 49 + o) + 1) := by
        have B78 : B 78 = upd (A 78) (b + 13 + o) (-1) := by rw [← hB, ud_row]
        have E78 : E 78 = upd (B 78) (b + 37 + o) (D1 78 (b + 37 + o) + 1) := by
          rw [← hE, ud_row]
          have : B 78 (b + 37 + o) = D1 78 (b + 37 + o) := by
            rw [B78, upd_ne (by omega), hA8, upd_ne (by omega), upd_ne (by omega)]
          rw [this]
        have e9 : E 78 (b + 49 + o) = D1 78 (b + 49 + o) := by
          rw [E78, upd_ne (by omega), B78, upd_ne (by omega), hA8, upd_ne (by omega), upd_ne (by omega)]
        rw [← hF, ud_row, e9, E78, B78, hA8]
      have Fq : ∀ a, a ≠ 78 → F a = A a := fun a h => by rw [← hF, ud_q h, ← hE, ud_q h, ← hB, ud_q h]
      have K78 : K 78 = F 78 := by rw [← hK, ud_q (by decide), ← hH, ud_q (by decide), ← hG, ud_q (by decide)]
      have K70 : ∀ k, k ≠ 40 → k ≠ 41 → k ≠ 42 → K 70 k = D1 70 k := fun k h1 h2 h3 => by rw [← hK, ud_k h2, ← hH, ud_k h1, ← hG, ud_q (by decide), Fq 70 (by decide), hA7 k h3]
      have K40 : K 70 40 = D1 70 40 + 1 := by rw [← hK, ud_k (by decide), ← hH, ud_at, ← hG, ud_q (by decide), Fq 70 (by decide), hA7 40 (by decide)]
      have K41 : K 70 41 = D1 70 41 ||| bitN o := by rw [← hK, ud_at, ← hH, ud_k (by decide), ← hG, ud_q (by decide), Fq 70 (by decide), hA7 41 (by decide)]; rfl
      have K80 : K 80 = upd (D1 80) (12 * o + q) (D1 80 (12 * o + q) + 1) := by
        rw [← hK, ud_q (by decide), ← hH, ud_q (by decide), ← hG, ud_row, Fq 80 (by decide), hAq 80 (by decide) (by decide), e80]
      have Kq : ∀ a, a ≠ 70 → a ≠ 78 → a ≠ 80 → K a = D2 a := fun a h1 h2 h3 => by rw [← hK, ud_q h1, ← hH, ud_q h1, ← hG, ud_q h3, Fq a h2, hAq a h1 h2]
      have Kf : FrM b D1 K := by
        rw [← hK, ← hH, ← hG, ← hF, ← hE, ← hB]
        exact hAf.tr ((FrM.ud8 (by omega) (by omega)).tr ((FrM.ud8 (by omega) (by omega)).tr ((FrM.ud8 (by omega) (by omega)).tr ((FrM.ud1 (by omega) (by omega)).tr ((FrM.ud7 (by omega)).tr (FrM.ud7 (by omega)))))))
      clear hK hH hG hF hE hB
      have hO' := ok_out hn hO hq o1 hpo h1 hl o2
      have hzz : ∀ v, v < 12 → sizeN ρ (outN cc q o) v = sizeN ρ cc v := fun v hv => size_out hn hq o1 hpo h1 hl o2 v (by omega)
      have hrK : RowS b ρ (outN cc q o) o (K 78) := by
        rw [K78, F78]
        exact row_out hn hr hq o1 hpo hw hx12 o2
      have hne : v ≠ w := by
        intro z
        rw [z] at v3
        omega
      refine wp_mono (ih (outN cc q o) o (w + 1) x2 K (by omega) hO' o1 (by rw [outN_spot (by omega) (by omega), if_pos rfl]) ⟨v, by omega, v2, by rw [hzz v v2]; exact v3⟩ (fun t ht => ?_) (hC.fr Kf) hrK) (fun r hr => ?_)
      · rw [hzz t (by omega)]
        by_cases ht2 : t = w
        · rw [ht2]; omega
        · exact hbf t (by omega)
      · obtain ⟨D', e1, a1, a2, a3, a4, a5, a6, a7, a8, a9⟩ := hr
        refine ⟨D', e1, a1, ?_, ?_, a4, fun o' p' ho' hp' => ?_, ?_, ?_, ?_, Kf.tr a9⟩
        · rw [a2, K40, Int32.add_assoc]
          show _ = D1 70 40 + nI (_ + 1)
          rw [← nI_1, Int32.add_comm 1]
        · rw [a3, K41]; rfl
        · rw [a5 o' p' ho' hp', K80]
          show _ = _ + nI ((if o = o' ∧ q = p' then 1 else 0) + pcN o' p' _)
          by_cases hh : o = o' ∧ q = p'
          · obtain ⟨rfl, rfl⟩ := hh
            rw [upd_at, if_pos ⟨rfl, rfl⟩, Int32.add_assoc, ← nI_add]; rfl
          · rw [upd_ne (by omega), if_neg hh, Nat.zero_add]
        · rw [a6, K70 46 (by decide) (by decide) (by decide)]
        · rw [a7, Kq 83 (by decide) (by decide) (by decide), e83]
        · rw [a8, Kq 84 (by decide) (by decide) (by decide), e84]
theorem s_sits {p : Nat} (hb : isB b) (hR : RuOk ρ) (hC : RulesM ρ D) (hr : RowS b ρ c p (D 78)) (hO : Ok ρ c) (hp : p < ρ.1) (h1 : c p = -1) : Wp (EvM X (d + 4) 221 [.ref 70, .int (nI b), .int (nI p)] (hS u D J)) (RV u J (SitM b ρ (ud (ud D 70 40 0) 70 41 0) (sitN ρ 12 c p 0))) := by
  obtain ⟨w, w1, w2⟩ := empty_pew hR.1.1 hp h1
  refine wp_eq (e221_0 _ _) ?_
  refine wp_eq (e221_7 _ _ _ _) ?_
  refine s_sitsW hb hR 12 c p 0 (nI p) _ rfl hO hp h1 ⟨w, Nat.zero_le w, w1, w2⟩ (fun v hv => absurd hv (Nat.not_lt_zero v)) (hC.fr (b := b) ((FrM.ud7 (by omega)).tr (FrM.ud7 (by omega)))) ?_
  rw [ud_q (by decide), ud_q (by decide)]; exact hr
end REFB
