/-! ===== asNow, later ===== -/
def allN (P : Nat → Bool) : Nat → Bool
  | 0 => true
  | n + 1 => allN P n && P n
theorem all_F {P : Nat → Bool} {k : Nat} (h : allN P k = false) : ∀ {m : Nat}, k ≤ m → allN P m = false
  | 0, hm => by
    have : k = 0 := by omega
    subst this; exact h
  | m + 1, hm => by
    by_cases hk : k = m + 1
    · rw [← hk]; exact h
    · rw [allN, all_F h (show k ≤ m by omega)]; rfl
theorem all_cut {P : Nat → Bool} {m : Nat} : ∀ {n : Nat}, m ≤ n → (∀ p, m ≤ p → p < n → P p = true) → allN P n = allN P m
  | 0, h, _ => by
    have : m = 0 := by omega
    subst this; rfl
  | n + 1, h, hP => by
    by_cases hm : m = n + 1
    · rw [hm]
    · rw [allN, all_cut (show m ≤ n by omega) (fun p h1 h2 => hP p h1 (by omega)), hP n (by omega) (by omega), Bool.and_true]
def asP (ρ : Ru) (c : Cc) (k p : Nat) : Bool := decide (sunK ρ c k p = c p)
theorem spot_eq {a b : Int32} (ha : a = -1 ∨ ∃ s, s < 144 ∧ a = nI s) (hb : b = -1 ∨ ∃ s, s < 144 ∧ b = nI s) : a = b ↔ pewO a = pewO b ∧ seatO a = seatO b := by
  refine ⟨fun h => by rw [h]; exact ⟨rfl, rfl⟩, fun ⟨h1, h2⟩ => ?_⟩
  rcases ha with rfl | ⟨s, s1, rfl⟩
  · rcases hb with rfl | ⟨t, t1, rfl⟩
    · rfl
    · rw [pewO_1.1, (pewO_s t1).1] at h1
      exact absurd h1.symm (nI_ne1 (by omega))
  · rcases hb with rfl | ⟨t, t1, rfl⟩
    · rw [pewO_1.1, (pewO_s s1).1] at h1
      exact absurd h1 (nI_ne1 (by omega))
    · rw [(pewO_s s1).1, (pewO_s t1).1] at h1
      rw [(pewO_s s1).2, (pewO_s t1).2] at h2
      have e1 := nI_inj (by omega) (by omega) h1
      have e2 := nI_inj (by omega) (by omega) h2
      rw [show s = t by omega]
section ASN
variable {X : XS} {d u : Nat} {D D1 : DD} {J : JJ} {σ : Sg} {ρ : Ru} {c : Cc} {K : Nat}
theorem c_asNow {k : Nat} (hF : FutK ρ c K D) (hk : k ≤ K) : EvM X d 19 [.ref 37, .int (nI k)] (hS u D J) = some (.inl (some (.int (bI32 (allN (asP ρ c k) 12)))), hS u D J) := by
  have hK := hF.1
  refine wp_eqI ?_
  refine wp_eq (e19_0 _) ?_
  refine wp_loop (R := fun p (_ : Unit) => Ev X d 19 (2, [.ref 37, .int (nI k), .int (nI p)], [], hS u D J)) (fun p _ => allN (asP ρ c k) p = true) 12 ?_ ?_ 0 () (by decide) rfl
  · intro p _ hp hI ih
    refine wp_eq (e19_2 _ _) (wp_f (nI_ge (b := 12) hp (by decide)) ?_)
    have e0 : D 44 p = c p := by
      have := (hF.2.2.1 0 (Nat.zero_le _) p hp).1
      rw [Nat.mul_zero, Nat.zero_add] at this
      exact this
    rw [lw, nI_clamp (by omega), nI_clamp (by omega), (hF.2.2.1 k hk p hp).1, e0]
    refine oG (by omega) (by decide) (oG (by omega) (by decide) (wp_if (fun h => ?_) (fun h => ?_)))
    · rw [nI_1]
      refine ih () ?_
      rw [allN, hI]; unfold asP; rw [decide_eq_true h]; rfl
    · refine wp_rI ⟨?_, rfl⟩
      have : allN (asP ρ c k) (p + 1) = false := by
        rw [allN, hI]; unfold asP; rw [decide_eq_false h]; rfl
      rw [all_F this hp]; rfl
  · intro _ hI
    refine wp_eq (e19_2 _ _) (wp_t (nI_le (a := 12) (Nat.le_refl _) (by decide)) (wp_rI ⟨?_, rfl⟩))
    rw [hI]; rfl
theorem p_asNow (hσ : SgOk σ) : PairI σ (fun u J D => EvM X (d + 50) 128 [.ref 0] (hS u D J)) (fun u J D => EvM X (d + 50) 257 [.ref 70] (hS u D J)) nI xN := by
  have hn := hσ.2.1.1.1
  have hg := Good.sunK hσ.2.1.1 hσ.2.2.1
  refine ⟨.inl (whoA (findN (fun k => allN (asP σ.2.1 σ.2.2.1 k) σ.2.1.1) 200 1)), σ, hσ, fun u J D hC => ?_, fun u J D hM => ?_, by first | exact trivial | exact rfl | exact Or.inl rfl | exact Or.inr rfl⟩
  · refine wp_eq e128_0 ?_
    have main : ∀ (r k : Nat) (D1 : DD), k + r = 201 → CI σ D1 → FrF D D1 → Wp (Ev X (d + 50) 128 (2, [.ref 0, .int (nI k)], [], hS u D1 J)) (CR σ D u J (.inl (whoA (findN (fun k => allN (asP σ.2.1 σ.2.2.1 k) σ.2.1.1) r k)))) := by
      intro r
      induction r with
      | zero =>
        intro k D1 hk hC1 hf
        exact wp_eq (e128_2 _) (wp_t (nI_lt (a := 200) (by omega) (by omega)) (wp_cr hC1 (fun q hq => hf.1 q (by omega) (by omega))))
      | succ r ih =>
        intro k D1 hk hC1 hf
        refine wp_eq (e128_2 _) (wp_f (Int32.not_lt.mpr (nI_le (b := 200) (by omega) (by decide))) ?_)
        refine wp_cV (c_reach (d := d + 44) hσ hC1 (show k ≤ 200 by omega)) (fun D2 h2 => ?_)
        obtain ⟨hC2, ⟨K, hK, hF⟩, hf2⟩ := h2
        refine wp_eq (e128_9 _) ?_
        refine wp_iE (c_asNow hF hK) ?_
        refine wp_eq (e128_13 _ _) ?_
        have ec : allN (asP σ.2.1 σ.2.2.1 k) 12 = allN (asP σ.2.1 σ.2.2.1 k) σ.2.1.1 := all_cut hn (fun p h1 h2 => by
          unfold asP
          rw [((hg k).2.2.1 p h1 h2).1, (hσ.2.2.1.2.2.1 p h1 h2).1]
          exact decide_eq_true rfl)
        rw [ec, findN]
        cases hb : allN (asP σ.2.1 σ.2.2.1 k) σ.2.1.1 with
        | false =>
          rw [if_neg (by decide), nI_1]
          exact wp_t rfl (ih (k + 1) D2 (by omega) hC2 (hf.tr hf2))
        | true =>
          rw [if_pos rfl]
          exact wp_f (by decide) (wp_cr hC2 (fun q hq => (hf.tr hf2).1 q (by omega) (by omega)))
    exact main 200 1 D rfl hC ⟨fun _ _ _ => rfl, fun _ _ _ => rfl⟩
  · have hM0 := hM.th (v := 0) hn
    have hr := hM0.2.2.1
    refine wp_eq e257_0 ?_
    refine wp_eq e257_3 ?_
    refine wp_cV (m_try0 hn hr) (fun D1 h1 => ?_)
    refine wp_eq e257_5 ?_
    have main : ∀ (r k : Nat) (D1 : DD), k + 1 + r = 201 → GoM σ.2.1 σ.2.2.1 k (ud D 70 0 0) D1 → Wp (Ev X (d + 50) 257 (7, [.ref 70, .int (nI (k + 1)), .null, .null], [], hS u D1 J)) (MR σ D u J (whoA (findN (fun k => allN (asP σ.2.1 σ.2.2.1 k) σ.2.1.1) r (k + 1))) 0) := by
      intro r
      induction r with
      | zero =>
        intro k D1 hk h1
        exact wp_eq (e257_7 _) (wp_t (nI_lt (a := 200) (by omega) (by omega)) (wp_eq (e257_61 _) (h1.fin hM0 hn)))
      | succ r ih =>
        intro k D1 hk h1
        refine wp_eq (e257_7 _) (wp_f (Int32.not_lt.mpr (nI_le (b := 200) (by omega) (by decide))) ?_)
        refine wp_cV (m_step (d := d + 43) hσ.2.1 hσ.2.2.1 hM0.2.1 hM0.2.2.2.2.2.2 h1) (fun D2 h2 => ?_)
        have hM2 := h2.mi hM0 hn
        have e1 : D2 70 1 = nI σ.2.1.1 := hM2.2.1.1
        refine wp_eq (e257_13 _) ?_
        refine wp_loop (R := fun p (_ : Unit) => Ev X (d + 50) 257 (17, [.ref 70, .int (nI (k + 1)), .int (bI32 (allN (asP σ.2.1 σ.2.2.1 (k + 1)) p)), .int (nI p)], [], hS u D2 J)) (fun _ _ => True) σ.2.1.1 ?_ ?_ 0 () (Nat.zero_le _) trivial
        · intro p _ hp _ ih2
          have ih2 := ih2 () trivial
          refine wp_eq (e257_17 _ _ _) ?_
          rw [e1]
          refine wp_f (nI_ge hp (by omega)) ?_
          have fl : allN (asP σ.2.1 σ.2.2.1 (k + 1)) (p + 1) = false → Wp (Ev X (d + 50) 257 (51, [.ref 70, .int (nI (k + 1)), .int (bI32 (allN (asP σ.2.1 σ.2.2.1 (k + 1)) p)), .int (nI p)], [], hS u D2 J)) (MR σ D u J (whoA (findN (fun k => allN (asP σ.2.1 σ.2.2.1 k) σ.2.1.1) (r + 1) (k + 1))) 0) := by
            intro hF
            rw [hF] at ih2
            refine wp_eq (e257_51 _ _ _) ?_
            refine wp_eq (e257_53 _ _ _) ?_
            rw [nI_1]; exact ih2
          cases hI : allN (asP σ.2.1 σ.2.2.1 (k + 1)) p with
          | false =>
            rw [hI] at fl
            exact wp_t rfl (fl (all_F hI (by omega)))
          | true =>
            rw [hI] at fl
            refine wp_f (by decide) ?_
            obtain ⟨-, a2, a3, -⟩ := h2.1.s hn hp
            have a2 : D2 78 (98 + p) = pewO (sunK σ.2.1 σ.2.2.1 (k + 1) p) := a2
            have a3 : D2 78 (110 + p) = seatO (sunK σ.2.1 σ.2.2.1 (k + 1) p) := a3
            obtain ⟨-, b2, b3, -⟩ := hM2.2.2.1.s hn hp
            rw [Nat.zero_add] at b2 b3
            have key := spot_eq ((hg (k + 1)).1.v p hp) (hσ.2.2.1.1.v p hp)
            rw [la, la, la, la, nI_clamp (by omega), nI_clamp (by omega), nI_clamp (by omega), nI_clamp (by omega), a2, a3, b2, b3]
            have no : ¬ sunK σ.2.1 σ.2.2.1 (k + 1) p = σ.2.2.1 p → allN (asP σ.2.1 σ.2.2.1 (k + 1)) (p + 1) = false := fun z => by
              rw [allN, hI]; unfold asP; rw [decide_eq_false z]; rfl
            refine oG (by omega) (by decide) (oG (by omega) (by decide) (wp_if (fun h => fl (no (fun z => h (key.mp z).1))) (fun h => oG (by omega) (by decide) (oG (by omega) (by decide) (wp_if (fun h' => fl (no (fun z => h' (key.mp z).2))) (fun h' => ?_))))))
            have eq := key.mpr ⟨Classical.not_not.mp h, Classical.not_not.mp h'⟩
            have hT : allN (asP σ.2.1 σ.2.2.1 (k + 1)) (p + 1) = true := by
              rw [allN, hI]; unfold asP; rw [decide_eq_true eq]; rfl
            rw [hT] at ih2
            refine wp_eq (e257_53 _ _ _) ?_
            rw [nI_1]; exact ih2
        · intro _ _
          refine wp_eq (e257_17 _ _ _) ?_
          rw [e1]
          refine wp_t (nI_le (Nat.le_refl _) (by omega)) ?_
          refine wp_eq (e257_55 _ _ _) ?_
          rw [findN]
          cases hb : allN (asP σ.2.1 σ.2.2.1 (k + 1)) σ.2.1.1 with
          | false =>
            rw [if_neg (by decide)]
            refine wp_t rfl ?_
            refine wp_eq (e257_59 _ _ _) ?_
            refine wp_weak (ls := [.ref 70, .int (nI (k + 1) + 1), .null, .null]) (by simp [lle, lng]) ?_
            rw [nI_1]
            exact ih (k + 1) D2 (by omega) h2
          | true =>
            rw [if_pos rfl]
            exact wp_f (by decide) (h2.fin hM0 hn)
    exact main 200 0 D1 rfl h1
end ASN
