/-! ===== restore, see, forget ===== -/
section SEEN
variable {X : XS} {d u : Nat} {D : DD} {J : JJ} {σ : Sg} {ρ : Ru} {c : Cc}
def resS (σ : Sg) (m : Im) : Sg := (σ.1, σ.2.1, m.1, m.2.1, m.2.2, some m)
theorem p_restore (hσ : SgOk σ) : PairI σ (fun u J D => EvM X (d + 50) 163 [.ref 0] (hS u D J)) (fun u J D => EvM X (d + 50) 294 [.ref 70] (hS u D J)) nI xN := by
  have hn := hσ.2.1.1.1
  cases him : σ.2.2.2.2.2 with
  | none =>
    refine ⟨.inl 0, σ, hσ, fun u J D hC => ?_, fun u J D hM => ?_, by first | exact trivial | exact rfl | exact Or.inl rfl | exact Or.inr rfl⟩
    · have h := hC.2.2.2.2.2.2.2.1
      rw [him] at h
      have h : D 55 0 = 0 := h
      exact wp_eq e163_0 (wp_f (fun z => z h) (wp_cr hC (fun _ _ => rfl)))
    · have h := hM.2.2.2.2.2.1
      rw [him] at h
      have h : D 70 56 = 0 := h
      refine wp_eq e294_0 (wp_f (fun z => z (by rw [ud_k (by decide)]; exact h)) ?_)
      exact wp_mr (hM.th hn) (ud_at D 70 0 0) (fun q hq => ud_q (by omega))
  | some m =>
    obtain ⟨hgm, hga, hgs⟩ := hσ.2.2.2.2.2.1 m him
    refine ⟨.inl 1, resS σ m, ⟨hσ.1, hσ.2.1, hgm, hga, hgs, fun m' hm' => ?_, hσ.2.2.2.2.2.2⟩, fun u J D hC => ?_, fun u J D hM => ?_, by first | exact trivial | exact rfl | exact Or.inl rfl | exact Or.inr rfl⟩
    · cases hm'
      exact ⟨hgm, hga, hgs⟩
    · obtain ⟨a1, a2, a3, a4, a5, a6, a7, a8, a9, a10, a11⟩ := hC
      rw [him] at a8
      obtain ⟨m1, m2, m3, m4⟩ := a8
      refine wp_eq e163_0 ?_
      refine wp_t (by rw [m1]; decide) ?_
      have hq0 : ∀ q, q ≠ 26 → ucp D 56 0 26 0 73 q = D q := fun q h => ucp_q h
      have e26 : ucp D 56 0 26 0 73 26 = m.1 := by
        funext i
        by_cases hi : i < 73
        · have := ucp_in (D := D) (s := 56) (sp := 0) (q := 26) (dp := 0) (n := 73) hi
          rw [Nat.zero_add] at this
          rw [this, m2]
        · have h26 : D 26 = σ.2.2.1 := a3.1
          rw [ucp_out (by omega), h26, hσ.2.2.1.2.1 i (by omega), hgm.2.1 i (by omega)]
      refine wp_cV (s_seat (d := d + 48) (P := 25) (Or.inl rfl) hn (by rw [hq0 3 (by decide)]; exact a2.1) e26 hgm.1) (fun D1 g => ?_)
      obtain ⟨g1, g2⟩ := g
      have hq1 : ∀ q, q < 26 ∨ 28 < q → D1 q = D q := fun q h => by rw [g2 q (by omega) (by omega), hq0 q (by omega)]
      refine wp_eq e163_19 ?_
      refine wp_cV (c_acopy (A := 46) (B := 57) (Or.inl rfl) (Or.inr rfl) (by decide) (m3.mv (hq1 57 (by omega)) (hq1 58 (by omega)))) (fun D2 k => ?_)
      obtain ⟨k1, k2⟩ := k
      refine wp_eq e163_25 ?_
      refine wp_cV (c_scopy (S := 48) (T := 59) (Or.inl rfl) (Or.inr rfl) (by decide) hgs.1 (m4.mv (by rw [k2 59 (by decide) (by decide), hq1 59 (by omega)]) (by rw [k2 60 (by decide) (by decide), hq1 60 (by omega)]) (by rw [k2 61 (by decide) (by decide), hq1 61 (by omega)]) (by rw [k2 62 (by decide) (by decide), hq1 62 (by omega)]))) (fun D3 n => ?_)
      obtain ⟨n1, n2⟩ := n
      refine wp_eq e163_31 ?_
      refine wp_vE (h := hS u (ud (ud D3 37 0 (-1)) 52 0 0) J) e103_0 ?_
      refine wp_eq e163_33 ?_
      have hq : ∀ q, q < 26 ∨ 28 < q → q < 46 ∨ 52 ≤ q → q ≠ 37 → q ≠ 52 → ud (ud D3 37 0 (-1)) 52 0 0 q = D q := fun q h1 h2 h3 h4 => by rw [ud_q h4, ud_q h3, n2 q (by omega), k2 q (by omega) (by omega), hq1 q h1]
      have hp : ∀ q, q < 46 ∨ 51 < q → q ≠ 37 → q ≠ 52 → ud (ud D3 37 0 (-1)) 52 0 0 q = D1 q := fun q h1 h2 h3 => by rw [ud_q h3, ud_q h2, n2 q (by omega), k2 q (by omega) (by omega)]
      refine wp_cr ⟨a1.mv (hq 0 (by omega) (by omega) (by omega) (by omega)) (hq 1 (by omega) (by omega) (by omega) (by omega)) (hq 2 (by omega) (by omega) (by omega) (by omega)), a2.mv (hq 3 (by omega) (by omega) (by omega) (by omega)) (fun q _ _ => hq q (by omega) (by omega) (by omega) (by omega)) (fun i _ _ => by rw [hq 5 (by omega) (by omega) (by omega) (by omega)]), g1.mv (hp 26 (by omega) (by omega) (by omega)) (hp 27 (by omega) (by omega) (by omega)) (hp 28 (by omega) (by omega) (by omega)), Or.inl (by rw [ud_q (by decide), ud_at]), k1.mv (by rw [ud_q (by decide), ud_q (by decide), n2 46 (by omega)]) (by rw [ud_q (by decide), ud_q (by decide), n2 47 (by omega)]), n1.mv (by rw [ud_q (by decide), ud_q (by decide)]) (by rw [ud_q (by decide), ud_q (by decide)]) (by rw [ud_q (by decide), ud_q (by decide)]) (by rw [ud_q (by decide), ud_q (by decide)]), Or.inl (by rw [ud_at]), ⟨by rw [hq 55 (by omega) (by omega) (by omega) (by omega)]; exact m1, by rw [hq 56 (by omega) (by omega) (by omega) (by omega)]; exact m2, m3.mv (hq 57 (by omega) (by omega) (by omega) (by omega)) (hq 58 (by omega) (by omega) (by omega) (by omega)), m4.mv (hq 59 (by omega) (by omega) (by omega) (by omega)) (hq 60 (by omega) (by omega) (by omega) (by omega)) (hq 61 (by omega) (by omega) (by omega) (by omega)) (hq 62 (by omega) (by omega) (by omega) (by omega))⟩, by rw [hq 32 (by omega) (by omega) (by omega) (by omega)]; exact a9, by rw [hq 39 (by omega) (by omega) (by omega) (by omega)]; exact a10, by rw [hq 56 (by omega) (by omega) (by omega) (by omega)]; exact a11⟩ (fun q h => hq q (by omega) (by omega) (by omega) (by omega))
    · obtain ⟨a1, a2, a3, a4, a5, a6, a7⟩ := hM
      rw [him] at a6
      obtain ⟨m1, m2, m3, m4, m5, m6⟩ := a6
      refine wp_eq e294_0 ?_
      refine wp_t (by rw [ud_k (by decide), m1]; decide) ?_
      generalize hE : ud (ud (ud D 70 0 0) 70 36 (ud D 70 0 0 70 57)) 70 51 (ud (ud D 70 0 0) 70 36 (ud D 70 0 0 70 57) 70 58) = E
      have Eq : ∀ q, q ≠ 70 → E q = D q := fun q h => by rw [← hE, ud_q h, ud_q h, ud_q h]
      have E51 : E 70 51 = nI m.2.2.length := by rw [← hE, ud_at, ud_k (by decide), ud_k (by decide)]; exact m3
      have E36 : E 70 36 = nI m.2.1.length := by rw [← hE, ud_k (by decide), ud_at, ud_k (by decide)]; exact m2
      have E0 : E 70 0 = 0 := by rw [← hE, ud_k (by decide), ud_k (by decide), ud_at]
      have Ek : ∀ k, k ≠ 0 → k ≠ 36 → k ≠ 51 → E 70 k = D 70 k := fun k h1 h2 h3 => by rw [← hE, ud_k h3, ud_k h2, ud_k h1]
      clear hE
      refine wp_loop (R := fun i (D1 : DD) => Ev X (d + 50) 294 (18, [.ref 70, .int (nI i)], [], hS u D1 J)) (fun i (D1 : DD) => (∀ j, j < i → D1 78 j = D 92 j) ∧ ∀ q, q ≠ 78 → D1 q = E q) 85 ?_ ?_ 0 E (by decide) ⟨fun j hj => absurd hj (Nat.not_lt_zero j), fun _ _ => rfl⟩
      · intro i D1 hi ⟨i1, i2⟩ ih
        refine wp_eq (e294_18 _) ?_
        refine wp_f (nI_ge (b := 85) hi (by decide)) ?_
        refine oG hi (by decide) (oG (by omega) (by decide) ?_)
        rw [nI_1, nI_clamp (by omega), i2 92 (by decide), Eq 92 (by decide)]
        refine ih _ ⟨fun j hj => ?_, fun q hq => by rw [ud_q hq]; exact i2 q hq⟩
        by_cases hji : j = i
        · rw [hji, ud_at]
        · rw [ud_k hji]; exact i1 j (by omega)
      · intro D1 ⟨i1, i2⟩
        refine wp_eq (e294_18 _) ?_
        refine wp_t (nI_le (a := 85) (Nat.le_refl _) (by decide)) ?_
        refine wp_cV m_copyd (fun D2 g => ?_)
        obtain ⟨g1, g2⟩ := g
        refine wp_eq (e294_37 _) ?_
        refine wp_cV m_copye (fun D3 k => ?_)
        obtain ⟨k1, k2⟩ := k
        have hq : ∀ q, q ≠ 70 → q ≠ 78 → q ≠ 79 → q ≠ 89 → D3 q = D q := fun q h1 h2 h3 h4 => by rw [k2 q h4, g2 q h3, i2 q h2, Eq q h1]
        have h70 : D3 70 = E 70 := by rw [k2 70 (by decide), g2 70 (by decide), i2 70 (by decide)]
        have e7 : ∀ k, k ≠ 0 → k ≠ 36 → k ≠ 51 → D3 70 k = D 70 k := fun k h1 h2 h3 => by rw [h70]; exact Ek k h1 h2 h3
        refine wp_eq (e294_43 _) (wp_mr ⟨a1.mv (e7 8 (by decide) (by decide) (by decide)) (e7 10 (by decide) (by decide) (by decide)) (hq 72 (by decide) (by decide) (by decide) (by decide)) (hq 73 (by decide) (by decide) (by decide) (by decide)), a2.mv (fun k k1 k2 => e7 k (by omega) (by omega) (by omega)) (hq 71 (by decide) (by decide) (by decide) (by decide)), ?_, ⟨by rw [h70]; exact E36, ?_⟩, ⟨by rw [h70]; exact E51, ?_⟩, ⟨by rw [e7 56 (by decide) (by decide) (by decide)]; exact m1, by rw [e7 57 (by decide) (by decide) (by decide)]; exact m2, by rw [e7 58 (by decide) (by decide) (by decide)]; exact m3, by rw [hq 92 (by decide) (by decide) (by decide) (by decide)]; exact m4, by rw [hq 93 (by decide) (by decide) (by decide) (by decide)]; exact m5, by rw [hq 94 (by decide) (by decide) (by decide) (by decide)]; exact m6⟩, by rw [e7 43 (by decide) (by decide) (by decide)]; exact a7⟩ (by rw [h70, E0]; rfl) (fun q h => hq q (by omega) (by omega) (by omega) (by omega)))
        · rw [k2 78 (by decide), g2 78 (by decide)]
          exact m4.copy hn (fun i hi => by rw [Nat.zero_add]; exact i1 i hi)
        · rw [k2 79 (by decide)]
          exact m5.cp hn hga.1 (fun i hi => by rw [g1 i hi, i2 93 (by decide), Eq 93 (by decide)])
        · exact m6.cp hgs.1 (fun i hi => by rw [k1 i hi, g2 94 (by decide), i2 94 (by decide), Eq 94 (by decide)])
def seeS (σ : Sg) (l : List Sn) : Sg := (σ.1, σ.2.1, σ.2.2.1, σ.2.2.2.1, l, σ.2.2.2.2.2)
theorem CI.see {D' : DD} {l : List Sn} (hC : CI σ D) (hS' : SeenC 48 l D') (h52 : D' 52 0 = 0) (hq : ∀ q, q < 70 → q < 48 ∨ 52 < q → D' q = D q) : CI (seeS σ l) D' := by
  obtain ⟨a1, a2, a3, a4, a5, a6, a7, a8, a9, a10, a11⟩ := hC
  have e : ∀ q, q < 48 ∨ 52 < q → q < 70 → D' q = D q := fun q h1 h2 => hq q h2 h1
  exact ⟨a1.mv (e 0 (by omega) (by omega)) (e 1 (by omega) (by omega)) (e 2 (by omega) (by omega)), a2.mv (e 3 (by omega) (by omega)) (fun q _ _ => e q (by omega) (by omega)) (fun i _ _ => by rw [e 5 (by omega) (by omega)]), a3.mv (e 26 (by omega) (by omega)) (e 27 (by omega) (by omega)) (e 28 (by omega) (by omega)), a4.mv (fun q _ _ => e q (by omega) (by omega)), a5.mv (e 46 (by omega) (by omega)) (e 47 (by omega) (by omega)), hS', Or.inl h52, a8.mv (fun q _ _ => e q (by omega) (by omega)), by rw [e 32 (by omega) (by omega)]; exact a9, by rw [e 39 (by omega) (by omega)]; exact a10, by rw [e 56 (by omega) (by omega)]; exact a11⟩
theorem MI.see {D' : DD} {l : List Sn} (hM : MI σ D) (h51 : D' 70 51 = nI l.length) (hl : SeesM l (D' 89)) (h0 : ∀ k, k ≠ 0 → k ≠ 51 → D' 70 k = D 70 k) (hq : ∀ q, q ≠ 70 → q ≠ 89 → D' q = D q) : MI (seeS σ l) D' := by
  obtain ⟨a1, a2, a3, a4, a5, a6, a7⟩ := hM
  exact ⟨a1.mv (h0 8 (by decide) (by decide)) (h0 10 (by decide) (by decide)) (hq 72 (by decide) (by decide)) (hq 73 (by decide) (by decide)), a2.mv (fun k k1 k2 => h0 k (by omega) (by omega)) (hq 71 (by decide) (by decide)), by rw [hq 78 (by decide) (by decide)]; exact a3, by rw [h0 36 (by decide) (by decide), hq 79 (by decide) (by decide)]; exact a4, ⟨h51, hl⟩, a6.mv (fun k k1 k2 => h0 k (by omega) (by omega)) (fun q _ _ => hq q (by omega) (by omega)), by rw [h0 43 (by decide) (by decide)]; exact a7⟩
theorem p_forget (hσ : SgOk σ) : PairV σ (fun u J D => EvM X (d + 50) 138 [.ref 0] (hS u D J)) (fun u J D => EvM X (d + 50) 281 [.ref 70] (hS u D J)) := by
  refine ⟨seeS σ [], ⟨hσ.1, hσ.2.1, hσ.2.2.1, hσ.2.2.2.1, ⟨Nat.zero_le _, fun e he => absurd he List.not_mem_nil⟩, hσ.2.2.2.2.2⟩, fun u J D hC => ?_, fun u J D hM => ?_⟩
  · refine wp_eq e138_0 ⟨_, rfl, _, rfl, hC.see ⟨?_, fun j hj => absurd hj (Nat.not_lt_zero j)⟩ (by rw [ud_at]) (fun q h1 h2 => by rw [ud_q (by omega), ud_q (by omega)]), fun q h => by rw [ud_q (by omega), ud_q (by omega)]⟩
    rw [ud_q (by decide), ud_at]; exact nI_0.symm
  · refine wp_eq e281_0 ⟨_, rfl, _, rfl, hM.see ?_ (fun j hj => absurd hj (Nat.not_lt_zero j)) (fun k k1 k2 => by rw [ud_k k2, ud_k k1]) (fun q h1 h2 => by rw [ud_q h1, ud_q h1]), fun q h => by rw [ud_q (by omega), ud_q (by omega)]⟩
    rw [ud_at]; exact nI_0.symm
theorem snoc_lt {l : List Sn} {e : Sn} {j : Nat} (h : j < l.length) : (l ++ [e]).getD j (0, 0, 0) = l.getD j (0, 0, 0) := by simp only [List.getD, List.getElem?_append_left h]
theorem snoc_len {l : List Sn} {e : Sn} : (l ++ [e]).getD l.length (0, 0, 0) = e := by simp [List.getD]
theorem c_note {l : List Sn} {p n w : Nat} (h : SeenC 48 l D) (hl : l.length < 8) : Wp (EvM X d 95 [.ref 48, .int (nI p), .int (nI n), .int (nI w)] (hS u D J)) (RV u J (fun D' => SeenC 48 (l ++ [(p, n, w)]) D' ∧ ∀ q, q < 48 ∨ 51 < q → D' q = D q)) := by
  obtain ⟨h0, h3⟩ := h
  refine wp_eq (e95_0 (S := 48) (Or.inl rfl) _ _ _) ?_
  rw [h0]
  refine wp_f (nI_ge (b := 8) hl (by decide)) ?_
  refine oG hl (by decide) ?_
  rw [nI_clamp (by omega), ud_q (show 48 ≠ 48 + 1 by decide), h0]
  refine oG hl (by decide) ?_
  rw [nI_clamp (by omega), ud_q (show 48 ≠ 48 + 2 by decide), ud_q (show 48 ≠ 48 + 1 by decide), h0]
  refine oG hl (by decide) ?_
  rw [nI_clamp (by omega), ud_q (show 48 ≠ 48 + 3 by decide), ud_q (show 48 ≠ 48 + 2 by decide), ud_q (show 48 ≠ 48 + 1 by decide), h0, nI_1]
  refine wp_rV ⟨⟨by rw [ud_at]; simp, fun j hj => ?_⟩, fun q hq => by rw [ud_q (by omega), ud_q (by omega), ud_q (by omega), ud_q (by omega)]⟩
  have hj : j < l.length + 1 := by simpa using hj
  by_cases hjl : j = l.length
  · subst hjl
    rw [snoc_len]
    refine ⟨?_, ?_, ?_⟩
    · rw [ud_q (by decide), ud_q (by decide), ud_q (by decide), ud_at]
    · rw [ud_q (by decide), ud_q (by decide), ud_at]
    · rw [ud_q (by decide), ud_at]
  · rw [snoc_lt (by omega)]
    obtain ⟨a1, a2, a3⟩ := h3 j (by omega)
    refine ⟨?_, ?_, ?_⟩
    · rw [ud_q (by decide), ud_q (by decide), ud_q (by decide), ud_k hjl]; exact a1
    · rw [ud_q (by decide), ud_q (by decide), ud_k hjl, ud_q (by decide)]; exact a2
    · rw [ud_q (by decide), ud_k hjl, ud_q (by decide), ud_q (by decide)]; exact a3
theorem p_see {x y z : Int32} (hσ : SgOk σ) : PairI σ (fun u J D => EvM X (d + 50) 137 [.ref 0, .int x, .int y, .int z] (hS u D J)) (fun u J D => EvM X (d + 50) 280 [.ref 70, .int x, .int y, .int z] (hS u D J)) nI xA := by
  have hn := hσ.2.1.1.1
  have hl8 := hσ.2.2.2.2.1.1
  by_cases hp : isPe σ.2.1.1 x
  · by_cases hx : σ.2.2.2.2.1.length < 8 ∧ (¬ y < 0 ∧ ¬ 20 < y) ∧ (¬ z < 0 ∧ ¬ 11 < z)
    · obtain ⟨h8, ⟨y1, y2⟩, z1, z2⟩ := hx
      obtain ⟨p, p1, rfl⟩ := id hp
      obtain ⟨n, -, n2, n3, rfl⟩ := nI_x (a := 0) (b := 20) (by decide) y1 y2
      obtain ⟨w, -, w2, w3, rfl⟩ := nI_x (a := 0) (b := 11) (by decide) z1 z2
      refine ⟨.inl (nI (σ.2.2.2.2.1.length + 1)), seeS σ (σ.2.2.2.2.1 ++ [(p, n, w)]), ⟨hσ.1, hσ.2.1, hσ.2.2.1, hσ.2.2.2.1, ⟨by show (σ.2.2.2.2.1 ++ [(p, n, w)]).length ≤ 8; simp; omega, fun e he => ?_⟩, hσ.2.2.2.2.2⟩, fun u J D hC => ?_, fun u J D hM => ?_, by first | exact trivial | exact rfl | exact Or.inl rfl | exact Or.inr rfl⟩
      · rcases List.mem_append.mp he with h | h
        · exact hσ.2.2.2.2.1.2 e h
        · rw [List.mem_singleton.mp h]
          exact ⟨p1, n2, by show w < 12; omega⟩
      · refine wp_eq (e137_0 _ _ _) ?_
        rcases c_pers (X := X) (d := d + 49) (u := u) (J := J) (x := nI p) (show σ.2.1.1 < 2 ^ 31 by omega) hC.2.1.1 with ⟨_, g2⟩ | ⟨g1, _⟩
        · refine wp_vE g2 ?_
          refine wp_eq (e137_3 _ _ _) ?_
          rw [hC.2.2.2.2.2.1.1]
          refine wp_f (nI_ge (b := 8) h8 (by decide)) (wp_f y1 (wp_f y2 (wp_f z1 (wp_t (nI_lt (b := 12) (by omega) (by decide)) ?_))))
          refine wp_cV (c_note hC.2.2.2.2.2.1 h8) (fun D1 g => ?_)
          obtain ⟨g1, g3⟩ := g
          refine wp_eq (e137_28 _ _ _) ?_
          rw [ud_q (by decide), g1.1]
          have : (σ.2.2.2.2.1 ++ [(p, n, w)]).length = σ.2.2.2.2.1.length + 1 := by simp
          rw [this]
          exact wp_cr (hC.see (g1.mv (ud_q (by decide)) (ud_q (by decide)) (ud_q (by decide)) (ud_q (by decide))) (by rw [ud_at]) (fun q h1 h2 => by rw [ud_q (by omega)]; exact g3 q (by omega))) (fun q h => by rw [ud_q (by omega)]; exact g3 q (by omega))
        · exact absurd hp g1
      · have hM0 := hM.th (v := 0) hn
        obtain ⟨r1, -⟩ := m_pers (X := X) (d := d + 48) (u := u) (J := J) (x := nI p) (D := ud D 70 0 0) (show σ.2.1.1 < 2 ^ 31 by omega) hM0.2.1.1 (ud_at D 70 0 0)
        have h51 : ud D 70 0 0 70 51 = nI σ.2.2.2.2.1.length := hM0.2.2.2.2.1.1
        refine wp_eq (e280_0 _ _ _) (wp_eq (e280_3 _ _ _) ?_)
        refine wp_iE (r1 hp) ?_
        refine wp_eq (e280_6 _ _ _ _) (wp_t (by decide) ?_)
        refine wp_eq (e280_9 _ _ _) ?_
        rw [h51]
        refine wp_f (fun q => by have := nI_inj (b := 8) (by omega) (by decide) q; omega) ?_
        refine wp_iE m_within ?_
        rw [if_pos ⟨y1, y2⟩]
        refine wp_eq (e280_17 _ _ _ _) (wp_f (by decide) ?_)
        refine wp_iE m_within ?_
        rw [if_pos ⟨z1, z2⟩]
        refine wp_eq (e280_22 _ _ _ _) (wp_t (by decide) ?_)
        have e3 : (3 : Int32) * nI σ.2.2.2.2.1.length = nI (3 * σ.2.2.2.2.1.length) := by rw [show (3 : Int32) = nI 3 from rfl, nI_mul]
        refine wp_eq (e280_27 _ _ _) ?_
        rw [h51, e3, nI_clamp (by omega)]
        refine oG (by omega) (by decide) ?_
        refine wp_eq (e280_35 _ _ _) ?_
        rw [ud_q (show 70 ≠ 89 by decide), h51, e3, lk, nI_clamp (by omega)]
        refine oG (by omega) (by decide) ?_
        refine wp_eq (e280_45 _ _ _) ?_
        rw [ud_q (show 70 ≠ 89 by decide), ud_q (show 70 ≠ 89 by decide), h51, e3, lk, nI_clamp (by omega)]
        refine oG (by omega) (by decide) ?_
        refine wp_eq (e280_55 _ _ _) ?_
        rw [ud_q (show 70 ≠ 89 by decide), ud_q (show 70 ≠ 89 by decide), ud_q (show 70 ≠ 89 by decide), h51, nI_1]
        refine wp_eq (e280_61 _ _ _) ?_
        rw [ud_at]
        have hlen : (σ.2.2.2.2.1 ++ [(p, n, w)]).length = σ.2.2.2.2.1.length + 1 := by simp
        refine wp_mr (hM0.see (by rw [ud_at, hlen]) (fun j hj => ?_) (fun k _ k2 => by rw [ud_k k2, ud_q (by decide), ud_q (by decide), ud_q (by decide)]) (fun q h1 h2 => by rw [ud_q h1, ud_q h2, ud_q h2, ud_q h2])) (by rw [ud_k (by decide), ud_q (by decide), ud_q (by decide), ud_q (by decide), ud_at]; rfl) (fun q h => by rw [ud_q (by omega), ud_q (by omega), ud_q (by omega), ud_q (by omega), ud_q (by omega)])
        have hj : j < σ.2.2.2.2.1.length + 1 := by rw [hlen] at hj; exact hj
        rw [ud_q (by decide)]
        by_cases hjl : j = σ.2.2.2.2.1.length
        · subst hjl
          rw [snoc_len]
          exact ⟨by rw [ud_k (by omega), ud_k (by omega), ud_at], by rw [ud_k (by omega), ud_at], by rw [ud_at]⟩
        · rw [snoc_lt (by omega)]
          obtain ⟨a1, a2, a3⟩ := hM0.2.2.2.2.1.2 j (by omega)
          exact ⟨by rw [ud_k (by omega), ud_k (by omega), ud_k (by omega)]; exact a1, by rw [ud_k (by omega), ud_k (by omega), ud_k (by omega)]; exact a2, by rw [ud_k (by omega), ud_k (by omega), ud_k (by omega)]; exact a3⟩
    · refine ⟨.inl (-1), rfS σ 2, hσ, fun u J D hC => ?_, fun u J D hM => ?_, by first | exact trivial | exact rfl | exact Or.inl rfl | exact Or.inr rfl⟩
      · have no : Wp (bI (EvM X (d + 49) 112 [.ref 0, .int 2] (hS u D J)) (fun y' h => Ev X (d + 49 + 1) 137 (21, [.ref 0, .int x, .int y, .int z], [.int y'], h)) (fun e h => some (.inr e, h))) (CR (rfS σ 2) D u J (.inl (-1))) := by
          refine wp_iE (c_refuse (k := 2) (by decide)) ?_
          exact wp_eq (e137_21 _ _ _ _) (wp_cr (hC.rf (by decide)) (fun q hq => ud_q (by omega)))
        refine wp_eq (e137_0 _ _ _) ?_
        rcases c_pers (X := X) (d := d + 49) (u := u) (J := J) (x := x) (show σ.2.1.1 < 2 ^ 31 by omega) hC.2.1.1 with ⟨_, g2⟩ | ⟨g1, _⟩
        · refine wp_vE g2 ?_
          refine wp_eq (e137_3 _ _ _) ?_
          refine wp_if (fun _ => no) (fun h1 => wp_if (fun _ => no) (fun h2 => wp_if (fun _ => no) (fun h3 => wp_if (fun _ => no) (fun h4 => wp_if (fun h5 => ?_) (fun _ => no)))))
          exfalso
          refine hx ⟨?_, ⟨h2, h3⟩, h4, fun q => ?_⟩
          · rw [hC.2.2.2.2.2.1.1] at h1
            exact Nat.not_le.mp (fun q => h1 (nI_le (a := 8) q (by omega)))
          · obtain ⟨j, j1, rfl⟩ := nI_of h4
            have := (nI_ltI (b := 12) j1 (by decide)).mp h5
            have := (nI_ltI (a := 11) (by decide) j1).mp q
            omega
        · exact absurd hp g1
      · have hM0 := hM.th (v := 0) hn
        obtain ⟨r1, -⟩ := m_pers (X := X) (d := d + 48) (u := u) (J := J) (x := x) (D := ud D 70 0 0) (show σ.2.1.1 < 2 ^ 31 by omega) hM0.2.1.1 (ud_at D 70 0 0)
        have h51 : ud D 70 0 0 70 51 = nI σ.2.2.2.2.1.length := hM0.2.2.2.2.1.1
        have no : Wp (Ev X (d + 50) 280 (23, [.ref 70, .int x, .int y, .int z], [], hS u (ud D 70 0 0) J)) (MR (rfS σ 2) D u J (-1) 0) := by
          refine wp_eq (e280_23 (d := d + 49) _ _ _) ?_
          refine wp_iE (m_refuses (k := 2) (by decide)) ?_
          exact wp_eq (e280_26 _ _ _ _) (wp_mr (hM0.rf (by decide) hn) (by rw [ud_q (by decide), ud_at]) (fun q hq => by rw [ud_q (by omega), ud_q (by omega)]))
        refine wp_eq (e280_0 _ _ _) (wp_eq (e280_3 _ _ _) ?_)
        refine wp_iE (r1 hp) ?_
        refine wp_eq (e280_6 _ _ _ _) (wp_t (by decide) ?_)
        refine wp_eq (e280_9 _ _ _) ?_
        rw [h51]
        refine wp_if (fun _ => no) (fun h1 => ?_)
        have h8 : σ.2.2.2.2.1.length < 8 := by
          have : σ.2.2.2.2.1.length ≠ 8 := fun q => h1 (by rw [q]; rfl)
          omega
        refine wp_iE m_within ?_
        refine wp_eq (e280_17 _ _ _ _) ?_
        by_cases hy : ¬ y < 0 ∧ ¬ 20 < y
        · rw [if_pos hy]
          refine wp_f (by decide) ?_
          refine wp_iE m_within ?_
          refine wp_eq (e280_22 _ _ _ _) ?_
          by_cases hz : ¬ z < 0 ∧ ¬ 11 < z
          · exact absurd ⟨h8, hy, hz⟩ hx
          · rw [if_neg hz]
            exact wp_f (fun q => q rfl) no
        · rw [if_neg hy]
          exact wp_t rfl no
  · refine ⟨.inr 1, σ, hσ, fun u J D hC => ?_, fun u J D hM => ?_, by first | exact trivial | exact rfl | exact Or.inl rfl | exact Or.inr rfl⟩
    · refine wp_eq (e137_0 _ _ _) ?_
      rcases c_pers (X := X) (d := d + 49) (u := u) (J := J) (x := x) (show σ.2.1.1 < 2 ^ 31 by omega) hC.2.1.1 with ⟨g1, _⟩ | ⟨_, g2⟩
      · exact absurd g1 hp
      · exact wp_vT g2 (wp_ct hC (fun _ _ => rfl))
    · have hM0 := hM.th (v := 0) hn
      obtain ⟨-, r2⟩ := m_pers (X := X) (d := d + 48) (u := u) (J := J) (x := x) (D := ud D 70 0 0) (show σ.2.1.1 < 2 ^ 31 by omega) hM0.2.1.1 (ud_at D 70 0 0)
      refine wp_eq (e280_0 _ _ _) (wp_eq (e280_3 _ _ _) ?_)
      refine wp_iE (r2 hp) ?_
      refine wp_eq (e280_6 _ _ _ _) (wp_f (fun q => q rfl) ?_)
      exact wp_mr (hM0.th hn) (ud_at _ 70 0 1) (fun q hq => by rw [ud_q (by omega), ud_q (by omega)])
end SEEN
