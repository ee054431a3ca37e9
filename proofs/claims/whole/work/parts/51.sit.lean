/-! ===== one sits down: what holds then ===== -/
def lcN (q : Nat) : List (Nat × Nat) → Nat
  | [] => 0
  | e :: l => (if e.1 = q then 1 else 0) + lcN q l
theorem vic_lt {ρ : Ru} {c : Cc} {w : Nat} {th : Int32} : ∀ {r x y : Nat}, vicN ρ c w th r x = some y → x ≤ y ∧ y < x + r
  | 0, _, _, h => by cases h
  | r + 1, x, y, h => by
    rw [vicN] at h
    split at h
    · cases h; omega
    · have := vic_lt h
      omega
def SitR (ρ : Ru) (c : Cc) (p w : Nat) (r : Cc × List (Nat × Nat) × Nat) : Prop :=
  Ok ρ r.1 ∧ (∀ q, q < ρ.1 → (r.1 q = -1 ↔ c q = -1 ∧ q ≠ p)) ∧ r.2.2 < 12 ∧
  (∀ i, (12 ≤ i ∧ i < 24) ∨ 48 ≤ i → r.1 i = c i) ∧ (∀ q, ρ.1 ≤ q → q < 12 → r.1 q = c q) ∧
  (∀ q, q < 12 → r.1 (24 + q) = c (24 + q) + nI (lcN q r.2.1) ∧ r.1 (36 + q) = c (36 + q) + nI (lcN q r.2.1)) ∧
  (∀ e ∈ r.2.1, e.1 < ρ.1 ∧ e.2 < ρ.1 ∧ ∃ v x, w ≤ v ∧ v < 12 ∧ x < 12 ∧ c e.1 = nI (12 * v + x)) ∧ (r.2.1.map fun e => e.1).Nodup
theorem outN_far {c : Cc} {p o i : Nat} (hp : p < 12) (ho : o < 12) (h : (12 ≤ i ∧ i < 24) ∨ 48 ≤ i) : outN c p o i = c i := by
  unfold outN upd
  rw [if_neg (by omega), if_neg (by omega), if_neg (by omega), if_neg (by omega)]
theorem outN_mv {c : Cc} {p o q : Nat} (hp : p < 12) (ho : o < 12) (hq : q < 12) : outN c p o (24 + q) = c (24 + q) + nI (if o = q then 1 else 0) ∧ outN c p o (36 + q) = c (36 + q) + nI (if o = q then 1 else 0) := by
  unfold outN upd
  by_cases h : o = q
  · subst h
    rw [if_pos rfl, if_neg (by omega), if_pos rfl, if_pos rfl]
    exact ⟨rfl, rfl⟩
  · rw [if_neg h, if_neg (by omega), if_neg (by omega), if_neg (by omega), if_neg (by omega), if_neg (by omega), if_neg (by omega), if_neg (by omega), if_neg (by omega)]
    have e : ∀ z : Int32, z = z + nI 0 := fun z => by rw [nI_0, Int32.add_zero]
    exact ⟨e _, e _⟩
theorem sit_ok {ρ : Ru} (hR : Ru0 ρ) : ∀ (f : Nat) (c : Cc) (p w : Nat), f + w = 12 → Ok ρ c → p < ρ.1 → c p = -1 → (∃ v, w ≤ v ∧ v < 12 ∧ sizeN ρ c v = 0) → (∀ v, v < w → sizeN ρ c v ≠ 0) → SitR ρ c p w (sitN ρ f c p w) := by
  obtain ⟨hn, hs1, hs2⟩ := hR
  intro f
  induction f with
  | zero => intro c p w hf _ _ _ ⟨v, h1, h2, _⟩; omega
  | succ f ih =>
    intro c p w hf hO hp h1 ⟨v, v1, v2, v3⟩ hb
    rw [sitN]
    cases hv : vicN ρ c w (c (12 + p)) (sizeN ρ c w) 0 with
    | some x =>
      dsimp only
      have hx : x < sizeN ρ c w := by have := vic_lt hv; omega
      obtain ⟨o1, o2⟩ := who_ex hO (show w < 12 by omega) hx
      generalize ho : whoN ρ c (12 * w + x) = o at o1 o2 ⊢
      have hl := hO.lt (show w < 12 by omega) hx
      have hpo : p ≠ o := by
        intro z
        rw [← z, h1] at o2
        exact (n144 _ hl).2.2.2.1 o2.symm
      have hO' := ok_out hn hO hp o1 hpo h1 hl o2
      have hz : ∀ v, v < 12 → sizeN ρ (outN c p o) v = sizeN ρ c v := fun v hv => size_out hn hp o1 hpo h1 hl o2 v (by omega)
      have hsp : ∀ q, q < 12 → outN c p o q = if q = o then -1 else if q = p then c o else c q := fun q hq => outN_spot hq (by omega)
      have hw : v ≠ w := by
        intro z
        rw [z] at v3
        omega
      have R := ih (outN c p o) o (w + 1) (by omega) hO' o1 (by rw [hsp o (by omega), if_pos rfl]) ⟨v, by omega, v2, by rw [hz v v2]; exact v3⟩ (fun u hu => by
        rw [hz u (by omega)]
        by_cases hu2 : u = w
        · rw [hu2]; omega
        · exact hb u (by omega))
      generalize sitN ρ f (outN c p o) o (w + 1) = r at R ⊢
      obtain ⟨r1, r2, r3, r4, r5, r6, r7, r8⟩ := R
      have hco : c o ≠ -1 := by rw [o2]; exact (n144 _ hl).2.2.2.1
      have pw1 : ∀ e ∈ r.2.1, e.1 ≠ o ∧ ∃ v x, w + 1 ≤ v ∧ v < 12 ∧ x < 12 ∧ c e.1 = nI (12 * v + x) := by
        intro e he
        obtain ⟨e1, e2, u, y, y1, y2, y3, y4⟩ := r7 e he
        rw [hsp e.1 (by omega)] at y4
        by_cases q1 : e.1 = o
        · rw [if_pos q1] at y4
          exact absurd y4.symm (n144 _ (by omega)).2.2.2.1
        · rw [if_neg q1] at y4
          by_cases q2 : e.1 = p
          · rw [if_pos q2, o2] at y4
            have := nI_inj (by omega) (by omega) y4
            have h9 := hO.2.2.2.1 w (by omega)
            omega
          · rw [if_neg q2] at y4
            exact ⟨q1, u, y, y1, y2, y3, y4⟩
      refine ⟨r1, fun q hq => ?_, r3, fun i hi => ?_, fun q hq hq2 => ?_, fun q hq => ?_, fun e he => ?_, ?_⟩
      · rw [r2 q hq, hsp q (by omega)]
        by_cases q1 : q = o
        · rw [q1]
          simp only [ne_eq, not_true_eq_false, and_false, false_iff, not_and]
          exact fun z => absurd z hco
        · rw [if_neg q1]
          by_cases q2 : q = p
          · rw [if_pos q2]
            simp only [q2, ne_eq, not_true_eq_false, and_false, iff_false, not_and]
            exact fun z => absurd z hco
          · rw [if_neg q2]
            simp [q1, q2]
      · rw [r4 i hi]
        exact outN_far (by omega) (by omega) hi
      · rw [r5 q hq hq2, hsp q hq2, if_neg (by omega), if_neg (by omega)]
      · obtain ⟨a1, a2⟩ := r6 q hq
        obtain ⟨b1, b2⟩ := outN_mv (c := c) (p := p) (o := o) (q := q) (by omega) (by omega) hq
        rw [a1, a2, b1, b2, Int32.add_assoc, Int32.add_assoc, nI_add]
        exact ⟨rfl, rfl⟩
      · rcases List.mem_cons.mp he with z | z
        · rw [z]
          exact ⟨o1, hp, w, x, Nat.le_refl w, by omega, by have := hO.2.2.2.1 w (by omega); omega, o2⟩
        · obtain ⟨-, u, y, y1, y2, y3, y4⟩ := pw1 e z
          obtain ⟨e1, e2, -⟩ := r7 e z
          exact ⟨e1, e2, u, y, by omega, y2, y3, y4⟩
      · rw [List.map_cons, List.nodup_cons]
        refine ⟨fun hm => ?_, r8⟩
        obtain ⟨e, he, h9⟩ := List.mem_map.mp hm
        exact (pw1 e he).1 h9
    | none =>
      dsimp only
      by_cases hfull : sizeN ρ c w < ρ.2.1
      · rw [if_pos hfull]
        have hw : w < 12 := by omega
        have hO' := ok_end hn hO hp h1 hw (by omega) hb
        have hsl : 12 * w + sizeN ρ c w < 144 := by omega
        refine ⟨hO', fun q hq => ?_, hw, fun i hi => ?_, fun q hq hq2 => ?_, fun q hq => ?_, fun e he => absurd he List.not_mem_nil, List.nodup_nil⟩
        · show (if q = p then nI (12 * w + sizeN ρ c w) else c q) = -1 ↔ _
          by_cases q1 : q = p
          · rw [if_pos q1]
            simp only [q1, ne_eq, not_true_eq_false, and_false, iff_false]
            exact (n144 _ hsl).2.2.2.1
          · rw [if_neg q1]
            simp [q1]
        · show (if i = p then _ else c i) = c i
          rw [if_neg (by omega)]
        · show (if q = p then _ else c q) = c q
          rw [if_neg (by omega)]
        · have e : ∀ z : Int32, z = z + nI 0 := fun z => by rw [nI_0, Int32.add_zero]
          refine ⟨?_, ?_⟩
          · show (if 24 + q = p then _ else c (24 + q)) = c (24 + q) + nI 0
            rw [if_neg (by omega)]; exact e _
          · show (if 36 + q = p then _ else c (36 + q)) = c (36 + q) + nI 0
            rw [if_neg (by omega)]; exact e _
      · rw [if_neg hfull]
        have hw : v ≠ w := by
          intro z
          rw [z] at v3
          omega
        have R := ih c p (w + 1) (by omega) hO hp h1 ⟨v, by omega, v2, v3⟩ (fun u hu => by
          by_cases hu2 : u = w
          · rw [hu2]; omega
          · exact hb u (by omega))
        obtain ⟨r1, r2, r3, r4, r5, r6, r7, r8⟩ := R
        refine ⟨r1, r2, r3, r4, r5, r6, fun e he => ?_, r8⟩
        obtain ⟨e1, e2, u, y, y1, y2, y3, y4⟩ := r7 e he
        exact ⟨e1, e2, u, y, by omega, y2, y3, y4⟩
theorem sit_ok0 {ρ : Ru} (hR : Ru0 ρ) {c : Cc} {p : Nat} (hO : Ok ρ c) (hp : p < ρ.1) (h1 : c p = -1) : SitR ρ c p 0 (sitN ρ 12 c p 0) := by
  obtain ⟨w, w1, w2⟩ := empty_pew hR.1 hp h1
  exact sit_ok hR 12 c p 0 rfl hO hp h1 ⟨w, Nat.zero_le w, w1, w2⟩ (fun v hv => absurd hv (Nat.not_lt_zero v))
