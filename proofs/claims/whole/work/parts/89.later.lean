/-! ===== later ===== -/
/-- who sits last -/
def lsN (ρ : Ru) (c : Cc) : Nat := whoN ρ c (12 * (pwN ρ c 12 0 - 1) + (sizeN ρ c (pwN ρ c 12 0 - 1) - 1))
def lsA (ρ : Ru) (c : Cc) : Int32 := if pwN ρ c 12 0 = 0 then -1 else nI (lsN ρ c)
section LATER
variable {X : XS} {d u : Nat} {D D1 : DD} {J : JJ} {σ : Sg} {ρ : Ru} {c : Cc} {K : Nat}
theorem ls_ok (hO : Ok ρ c) (hz : ¬ pwN ρ c 12 0 = 0) : lsN ρ c < ρ.1 ∧ c (lsN ρ c) = nI (12 * (pwN ρ c 12 0 - 1) + (sizeN ρ c (pwN ρ c 12 0 - 1) - 1)) ∧ 12 * (pwN ρ c 12 0 - 1) + (sizeN ρ c (pwN ρ c 12 0 - 1) - 1) < 144 ∧ pwN ρ c 12 0 - 1 < 12 ∧ sizeN ρ c (pwN ρ c 12 0 - 1) ≠ 0 := by
  obtain ⟨h1, -, h3⟩ := pw_le ρ c 12 0
  have hs := h3 (pwN ρ c 12 0 - 1) (Nat.zero_le _) (by omega)
  obtain ⟨g1, g2⟩ := who_ex hO (show pwN ρ c 12 0 - 1 < 12 by omega) (show sizeN ρ c (pwN ρ c 12 0 - 1) - 1 < _ by omega)
  exact ⟨g1, g2, hO.lt (by omega) (by omega), by omega, hs⟩
theorem ls_max (hO : Ok ρ c) (hz : ¬ pwN ρ c 12 0 = 0) {p s : Nat} (hp : p < ρ.1) (hs : s < 144) (h : c p = nI s) : s ≤ 12 * (pwN ρ c 12 0 - 1) + (sizeN ρ c (pwN ρ c 12 0 - 1) - 1) := by
  rcases hO.1 p hp with g | ⟨w, x, w1, x1, g⟩
  · rw [h] at g; exact absurd g (nI_ne1 (by omega))
  · have hl := hO.lt w1 x1
    have hx := hO.2.2.2.1 w w1
    rw [h] at g
    have e := nI_inj (by omega) (by omega) g
    have hw : ¬ pwN ρ c 12 0 ≤ w := fun z => by have := (pw_iff hO w1).mp z; omega
    by_cases hww : w = pwN ρ c 12 0 - 1
    · rw [← hww]; omega
    · omega
theorem ls_none (hO : Ok ρ c) (hz : pwN ρ c 12 0 = 0) {p : Nat} (hp : p < ρ.1) : c p = -1 := by
  rcases hO.1 p hp with g | ⟨w, x, w1, x1, g⟩
  · exact g
  · have := (pw_iff hO w1).mp (by omega)
    omega
theorem c_last {n : Nat} (hn : ρ.1 ≤ 12) (hG : Good ρ (sunK ρ c n)) (hF : FutK ρ c K D) (hk : n ≤ K) : EvM X d 16 [.ref 37, .int (nI n)] (hS u D J) = some (.inl (some (.int (lsA ρ (sunK ρ c n)))), hS u D J) := by
  have hK := hF.1
  have hO := hG.1
  refine wp_eqI ?_
  refine wp_eq (e16_0 _) ?_
  by_cases hz : pwN ρ (sunK ρ c n) 12 0 = 0
  · have e : lsA ρ (sunK ρ c n) = -1 := if_pos hz
    rw [e]
    refine wp_loop (R := fun p (_ : Unit) => Ev X d 16 (6, [.ref 37, .int (nI n), .int (-1), .int (-1), .int (nI p)], [], hS u D J)) (fun _ _ => True) 12 ?_ ?_ 0 () (by decide) trivial
    · intro p _ hp _ ih
      refine wp_eq (e16_6 _ _ _ _) (wp_f (nI_ge (b := 12) hp (by decide)) ?_)
      have hc : sunK ρ c n p = -1 := by
        by_cases hpn : p < ρ.1
        · exact ls_none hO hz hpn
        · exact (hG.2.2.1 p (by omega) hp).1
      rw [lw, nI_clamp (by omega), (hF.2.2.1 n hk p hp).1, hc, nI_1]
      exact oG (by omega) (by decide) (wp_t (by decide) (ih () trivial))
    · intro _ _
      exact wp_eq (e16_6 _ _ _ _) (wp_t (nI_le (a := 12) (Nat.le_refl _) (by decide)) (wp_rI ⟨rfl, rfl⟩))
  · obtain ⟨l1, l2, l3, -, -⟩ := ls_ok hO hz
    have e : lsA ρ (sunK ρ c n) = nI (lsN ρ (sunK ρ c n)) := if_neg hz
    rw [e]
    refine wp_loop (R := fun p (a : Int32 × Int32) => Ev X d 16 (6, [.ref 37, .int (nI n), .int a.1, .int a.2, .int (nI p)], [], hS u D J)) (fun p a => (p ≤ lsN ρ (sunK ρ c n) → a.1 < sunK ρ c n (lsN ρ (sunK ρ c n))) ∧ (lsN ρ (sunK ρ c n) < p → a.1 = sunK ρ c n (lsN ρ (sunK ρ c n)) ∧ a.2 = nI (lsN ρ (sunK ρ c n)))) 12 ?_ ?_ 0 ((-1 : Int32), (-1 : Int32)) (by decide) ⟨fun _ => ?_, fun z => absurd z (Nat.not_lt_zero _)⟩
    · intro p a hp ⟨i1, i2⟩ ih
      refine wp_eq (e16_6 _ _ _ _) (wp_f (nI_ge (b := 12) hp (by decide)) ?_)
      rw [lw, nI_clamp (by omega), (hF.2.2.1 n hk p hp).1, nI_1]
      have hle : p ≠ lsN ρ (sunK ρ c n) → sunK ρ c n p < sunK ρ c n (lsN ρ (sunK ρ c n)) := by
        intro hne
        by_cases hpn : p < ρ.1
        · rcases hO.v p hpn with g | ⟨s, s1, g⟩
          · rw [g, l2]; exact Int32.lt_of_lt_of_le (by decide) (nI_pos' (by omega))
          · have hm := ls_max hO hz hpn s1 g
            rw [g, l2]
            refine nI_lt ?_ (by omega)
            refine Nat.lt_of_le_of_ne hm (fun z => hne ?_)
            exact hO.2.2.1 p _ hpn l1 (by rw [g, l2, z]) (by rw [g]; exact nI_ne1 (by omega))
        · rw [(hG.2.2.1 p (by omega) hp).1, l2]; exact Int32.lt_of_lt_of_le (by decide) (nI_pos' (by omega))
      refine oG (by omega) (by decide) (wp_if (fun h => ?_) (fun h => oG (by omega) (by decide) ?_))
      · refine ih a ⟨fun z => i1 (by omega), fun z => ?_⟩
        by_cases hpl : p = lsN ρ (sunK ρ c n)
        · exfalso
          have := i1 (by omega)
          rw [← hpl] at this
          exact Int32.not_lt.mpr h this
        · exact i2 (by omega)
      · refine ih (sunK ρ c n p, nI p) ⟨fun z => hle (by omega), fun z => ?_⟩
        by_cases hpl : p = lsN ρ (sunK ρ c n)
        · exact ⟨by rw [← hpl], by rw [← hpl]⟩
        · exfalso
          obtain ⟨j1, -⟩ := i2 (by omega)
          rw [j1] at h
          exact h (Int32.le_of_lt (hle hpl))
    · intro a ⟨_, i2⟩
      obtain ⟨-, j2⟩ := i2 (by omega)
      exact wp_eq (e16_6 _ _ _ _) (wp_t (nI_le (a := 12) (Nat.le_refl _) (by decide)) (wp_rI ⟨j2, rfl⟩))
    · rw [l2]; exact Int32.lt_of_lt_of_le (by decide) (nI_pos' (by omega))
theorem c_pewsAt {n : Nat} (hn : ρ.1 ≤ 12) (hG : Good ρ (sunK ρ c n)) (hF : FutK ρ c K D) (hk : n ≤ K) : EvM X (d + 2) 17 [.ref 37, .int (nI n)] (hS u D J) = some (.inl (some (.int (nI (pwN ρ (sunK ρ c n) 12 0)))), hS u D J) := by
  refine wp_eqI ?_
  refine wp_eq (e17_0 _) ?_
  refine wp_iE (c_last hn hG hF hk) ?_
  refine wp_eq (e17_3 _ _) ?_
  by_cases hz : pwN ρ (sunK ρ c n) 12 0 = 0
  · have e : lsA ρ (sunK ρ c n) = -1 := if_pos hz
    rw [e, hz]
    exact wp_f (by decide) (wp_rI ⟨rfl, rfl⟩)
  · obtain ⟨l1, l2, l3, l4, l5⟩ := ls_ok hG.1 hz
    have e : lsA ρ (sunK ρ c n) = nI (lsN ρ (sunK ρ c n)) := if_neg hz
    rw [e]
    refine wp_t (nI_ne1 (by omega)) ?_
    refine wp_iE (c_pewAt (d := d) hF hk (show lsN ρ (sunK ρ c n) < 12 by omega)) ?_
    refine wp_eq (e17_13 _ _ _) (wp_rI ⟨?_, rfl⟩)
    have h4 := hG.1.2.2.2.1 _ l4
    rw [l2, (pewO_s l3).1, nI_1]
    congr 1; omega
theorem c_bitsAt {n : Nat} (hn : ρ.1 ≤ 12) (hG : Good ρ (sunK ρ c n)) (hF : FutK ρ c K D) (hk : n ≤ K) : EvM X d 15 [.ref 37, .int (nI n)] (hS u D J) = some (.inl (some (.int (orP (sitB (sunK ρ c n)) ρ.1))), hS u D J) := by
  have hK := hF.1
  refine wp_eqI ?_
  refine wp_eq (e15_0 _) ?_
  refine wp_loop (R := fun k (v : Int32) => Ev X d 15 (4, [.ref 37, .int (nI n), .int v, .int (nI k)], [], hS u D J)) (fun k v => v = orP (sitB (sunK ρ c n)) k) 12 ?_ ?_ 0 0 (by decide) rfl
  · intro k v hk' hv ih
    refine wp_eq (e15_4 _ _ _) (wp_f (nI_ge (b := 12) hk' (by decide)) ?_)
    rw [lw, nI_clamp (by omega), (hF.2.2.1 n hk k hk').1, nI_1]
    refine oG (by omega) (by decide) (wp_if (fun h => ?_) (fun h => ?_))
    · refine ih v ?_
      rw [orP, ← hv, if_neg (by unfold sitB; simp [h]), Int32.or_zero]
    · refine ih _ ?_
      rw [orP, ← hv, if_pos (by unfold sitB; simp [h])]; rfl
  · intro v hv
    refine wp_eq (e15_4 _ _ _) (wp_t (nI_le (a := 12) (Nat.le_refl _) (by decide)) (wp_rI ⟨?_, rfl⟩))
    rw [hv]
    exact orP_cut hn (fun p p1 p2 => by unfold sitB; rw [(hG.2.2.1 p p1 p2).1]; rfl)
theorem sm_cut {c : Cc} {k m : Nat} : ∀ {n : Nat}, m ≤ n → (∀ p, m ≤ p → p < n → c (k + p) = 0) → smN c k n = smN c k m
  | 0, h, _ => by
    have : m = 0 := by omega
    subst this; rfl
  | n + 1, h, hP => by
    by_cases hm : m = n + 1
    · rw [hm]
    · have e : smN c k (n + 1) = smN c k n + c (k + n) := rfl
      rw [e, sm_cut (show m ≤ n by omega) (fun p h1 h2 => hP p h1 (by omega)), hP n (by omega) (by omega), Int32.add_zero]
theorem c_movesAt {n : Nat} (hn : ρ.1 ≤ 12) (hG : Good ρ (sunK ρ c n)) (hF : FutK ρ c K D) (hk : n ≤ K) : EvM X d 14 [.ref 37, .int (nI n)] (hS u D J) = some (.inl (some (.int (smN (sunK ρ c n) 24 ρ.1))), hS u D J) := by
  have hK := hF.1
  refine wp_eqI ?_
  refine wp_eq (e14_0 _) ?_
  refine wp_loop (R := fun k (v : Int32) => Ev X d 14 (4, [.ref 37, .int (nI n), .int v, .int (nI k)], [], hS u D J)) (fun k v => v = smN (sunK ρ c n) 24 k) 12 ?_ ?_ 0 0 (by decide) rfl
  · intro k v hk' hv ih
    refine wp_eq (e14_4 _ _ _) (wp_f (nI_ge (b := 12) hk' (by decide)) ?_)
    rw [lw, nI_clamp (by omega), (hF.2.2.1 n hk k hk').2, nI_1]
    exact oG (by omega) (by decide) (ih _ (by rw [hv]; rfl))
  · intro v hv
    refine wp_eq (e14_4 _ _ _) (wp_t (nI_le (a := 12) (Nat.le_refl _) (by decide)) (wp_rI ⟨?_, rfl⟩))
    rw [hv]
    exact sm_cut hn (fun p p1 p2 => (hG.2.2.1 p p1 p2).2.2.1)
def latA (ρ : Ru) (c : Cc) : Nat → Int32
  | 0 => nI (pwN ρ c 12 0)
  | 1 => orP (sitB c) ρ.1
  | 2 => smN c 24 ρ.1
  | _ => lsA ρ c
theorem p_later {x y : Int32} (hσ : SgOk σ) : PairI σ (fun u J D => EvM X (d + 50) 122 [.ref 0, .int x, .int y] (hS u D J)) (fun u J D => EvM X (d + 50) 249 [.ref 70, .int x, .int y] (hS u D J)) nI xC := by
  have hn := hσ.2.1.1.1
  have hg := Good.sunK hσ.2.1.1 hσ.2.2.1
  by_cases iy : ¬ y < 0 ∧ ¬ 3 < y
  · by_cases ix : ¬ x < 0 ∧ ¬ 100 < x
    · obtain ⟨n, -, n2, n3, rfl⟩ := nI_x (a := 0) (b := 100) (by decide) ix.1 ix.2
      obtain ⟨j, -, j2, j3, rfl⟩ := nI_x (a := 0) (b := 3) (by decide) iy.1 iy.2
      refine ⟨.inl (latA σ.2.1 (sunK σ.2.1 σ.2.2.1 n) j), σ, hσ, fun u J D hC => ?_, fun u J D hM => ?_, by first | exact trivial | exact rfl | exact Or.inl rfl | exact Or.inr rfl⟩
      · refine wp_eq (e122_0 _ _) ?_
        rcases c_what (X := X) (d := d + 49) (u := u) (D := D) (J := J) (x := nI j) (k := 3) with ⟨_, g⟩ | ⟨g, _⟩
        · refine wp_vE g ?_
          refine wp_eq (e122_3 _ _) ?_
          rcases c_within (X := X) (d := d + 49) (u := u) (D := D) (J := J) (x := nI n) (a := 0) (b := 100) with ⟨_, g⟩ | ⟨g, _⟩
          · refine wp_vE g ?_
            refine wp_eq (e122_7 _ _) ?_
            refine wp_cV (c_reach (d := d + 44) hσ hC (show n ≤ 200 by omega)) (fun D1 h1 => ?_)
            obtain ⟨hC1, ⟨K, hK, hF⟩, hf⟩ := h1
            have fin : ∀ r, r = latA σ.2.1 (sunK σ.2.1 σ.2.2.1 n) j → Wp (some (.inl (some (.int r)), hS u D1 J)) (CR σ D u J (.inl (latA σ.2.1 (sunK σ.2.1 σ.2.2.1 n) j))) := fun r z => by
              rw [z]; exact wp_cr hC1 (fun q hq => hf.1 q (by omega) (by omega))
            refine wp_eq (e122_11 _ _) ?_
            rcases (show j = 0 ∨ j = 1 ∨ j = 2 ∨ j = 3 by omega) with rfl | rfl | rfl | rfl
            · exact wp_t rfl (wp_iE (c_pewsAt (d := d + 47) hn (hg n) hF hK) (wp_eq (e122_17 _ _ _) (fin _ rfl)))
            · exact wp_f (by decide) (wp_t rfl (wp_iE (c_bitsAt hn (hg n) hF hK) (wp_eq (e122_22 _ _ _) (fin _ rfl))))
            · exact wp_f (by decide) (wp_f (by decide) (wp_t rfl (wp_iE (c_movesAt hn (hg n) hF hK) (wp_eq (e122_27 _ _ _) (fin _ rfl)))))
            · exact wp_f (by decide) (wp_f (by decide) (wp_f (by decide) (wp_iE (c_last hn (hg n) hF hK) (wp_eq (e122_32 _ _ _) (fin _ rfl)))))
          · exact absurd ix g
        · exact absurd iy g
      · have hM0 := hM.th (v := 0) hn
        have h0 := ud_at D 70 0 0
        refine wp_eq (e249_0 _ _) ?_
        refine wp_iE ((m_what (d := d + 48) h0).1 iy) ?_
        refine wp_eq (e249_7 _ _ _) (wp_f (by decide) ?_)
        refine wp_iE ((m_soon (d := d + 48) h0 (by decide)).1 ix) ?_
        refine wp_eq (e249_13 _ _ _) (wp_t (by decide) ?_)
        refine wp_cV (m_goes (d := d + 42) hσ.2.1 hσ.2.2.1 hM0.2.1 hM0.2.2.1 hM0.2.2.2.2.2.2 n3) (fun D1 h1 => ?_)
        have hM1 := h1.mi hM0 hn
        have fin : ∀ r, r = latA σ.2.1 (sunK σ.2.1 σ.2.2.1 n) j → Wp (some (.inl (some (.int r)), hS u D1 J)) (MR σ D u J (latA σ.2.1 (sunK σ.2.1 σ.2.2.1 n) j) 0) := fun r z => by
          rw [z]; exact h1.fin hM0 hn
        refine wp_eq (e249_19 _ _) ?_
        refine wp_iE (m_pews (d := d + 48) (b := 85) (Or.inr rfl) hn hM1.2.1.1 h1.1) ?_
        refine wp_eq (e249_22 _ _ _) ?_
        have hpw := (pw_le σ.2.1 (sunK σ.2.1 σ.2.2.1 n) 12 0).1
        rcases (show j = 0 ∨ j = 1 ∨ j = 2 ∨ j = 3 by omega) with rfl | rfl | rfl | rfl
        · refine wp_f (fun z => z rfl) ?_
          refine wp_eq (e249_60 _ _ _ _) (fin _ ?_)
          rw [Int32.sub_add_cancel]; rfl
        · refine wp_t (by decide) (wp_f (fun z => z rfl) ?_)
          refine wp_iE (m_sitB (b := 85) (Or.inr rfl) hn hM1.2.1.1 h1.1 (hg n).1.v) ?_
          exact wp_eq (e249_37 _ _ _ _) (wp_eq (e249_60 _ _ _ _) (fin _ rfl))
        · refine wp_t (by decide) (wp_t (by decide) (wp_f (fun z => z rfl) ?_))
          refine wp_iE (m_sum (b := 85) (k := 24) (kk := 37) (Or.inr rfl) hn hM1.2.1.1 (fun p hp => (h1.1.s hn hp).2.2.2.1) (by decide)) ?_
          exact wp_eq (e249_45 _ _ _ _) (wp_eq (e249_60 _ _ _ _) (fin _ rfl))
        · refine wp_t (by decide) (wp_t (by decide) (wp_t (by decide) ?_))
          by_cases hz : pwN σ.2.1 (sunK σ.2.1 σ.2.2.1 n) 12 0 = 0
          · rw [hz]
            refine wp_f (by decide) ?_
            exact wp_eq (e249_60 _ _ _ _) (fin _ (if_pos hz).symm)
          · obtain ⟨l1, l2, l3, l4, l5⟩ := ls_ok (hg n).1 hz
            have ep : nI (pwN σ.2.1 (sunK σ.2.1 σ.2.2.1 n) 12 0) - 1 = nI (pwN σ.2.1 (sunK σ.2.1 σ.2.2.1 n) 12 0 - 1) := nI_sub (b := 1) (by omega)
            rw [ep]
            refine wp_t (nI_pos' (by omega)) ?_
            refine wp_iE (s_size (d := d + 48) (b := 85) (Or.inr rfl) hn hM1.2.1.1 h1.1 l4) ?_
            refine wp_eq (e249_57 _ _ _ _ _ _) ?_
            have h4 := (hg n).1.2.2.2.1 _ l4
            have es : nI (sizeN σ.2.1 (sunK σ.2.1 σ.2.2.1 n) (pwN σ.2.1 (sunK σ.2.1 σ.2.2.1 n) 12 0 - 1)) - 1 = nI (sizeN σ.2.1 (sunK σ.2.1 σ.2.2.1 n) (pwN σ.2.1 (sunK σ.2.1 σ.2.2.1 n) 12 0 - 1) - 1) := nI_sub (b := 1) (by omega)
            rw [es]
            refine wp_iE (s_who1 (b := 85) (Or.inr rfl) hn hM1.2.1.1 h1.1 (fun z => by omega) (hg n).1 l4 (by omega)) ?_
            exact wp_eq (e249_60 _ _ _ _) (fin _ (if_neg hz).symm)
    · refine ⟨.inr 2, σ, hσ, fun u J D hC => ?_, fun u J D hM => ?_, by first | exact trivial | exact rfl | exact Or.inl rfl | exact Or.inr rfl⟩
      · refine wp_eq (e122_0 _ _) ?_
        rcases c_what (X := X) (d := d + 49) (u := u) (D := D) (J := J) (x := y) (k := 3) with ⟨_, g⟩ | ⟨g, _⟩
        · refine wp_vE g ?_
          refine wp_eq (e122_3 _ _) ?_
          rcases c_within (X := X) (d := d + 49) (u := u) (D := D) (J := J) (x := x) (a := 0) (b := 100) with ⟨g, _⟩ | ⟨_, g⟩
          · exact absurd g ix
          · exact wp_vT g (wp_ct hC (fun _ _ => rfl))
        · exact absurd iy g
      · have hM0 := hM.th (v := 0) hn
        have h0 := ud_at D 70 0 0
        refine wp_eq (e249_0 _ _) ?_
        refine wp_iE ((m_what (d := d + 48) h0).1 iy) ?_
        refine wp_eq (e249_7 _ _ _) (wp_f (by decide) ?_)
        refine wp_iE ((m_soon (d := d + 48) h0 (by decide)).2 ix) ?_
        refine wp_eq (e249_13 _ _ _) (wp_f (by decide) ?_)
        exact wp_mr (hM0.th hn) (ud_at _ 70 0 2) (fun q hq => by rw [ud_q (by omega), ud_q (by omega)])
  · refine ⟨.inr 1, σ, hσ, fun u J D hC => ?_, fun u J D hM => ?_, by first | exact trivial | exact rfl | exact Or.inl rfl | exact Or.inr rfl⟩
    · refine wp_eq (e122_0 _ _) ?_
      rcases c_what (X := X) (d := d + 49) (u := u) (D := D) (J := J) (x := y) (k := 3) with ⟨g, _⟩ | ⟨_, g⟩
      · exact absurd g iy
      · exact wp_vT g (wp_ct hC (fun _ _ => rfl))
    · have hM0 := hM.th (v := 0) hn
      have h0 := ud_at D 70 0 0
      refine wp_eq (e249_0 _ _) ?_
      refine wp_iE ((m_what (d := d + 48) h0).2 iy) ?_
      refine wp_eq (e249_7 _ _ _) (wp_t rfl ?_)
      exact wp_mr (hM0.th hn) (ud_at _ 70 0 1) (fun q hq => by rw [ud_q (by omega), ud_q (by omega)])
end LATER
