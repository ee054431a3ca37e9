/-! ===== bits are counted: all of an int; the least of them ===== -/
theorem nI_and (a b : Nat) : nI a &&& nI b = nI (a &&& b) := Int32.toBitVec_inj.1 (by
  rw [Int32.toBitVec_and]
  show BitVec.ofNat 32 a &&& BitVec.ofNat 32 b = BitVec.ofNat 32 (a &&& b)
  apply BitVec.eq_of_getLsbD_eq
  intro i hi
  simp [hi])
theorem sh_n {v k : Nat} {ki : Int32} (hv : v < 2 ^ 32) (e1 : ki.toUInt32 &&& Int32.toUInt32 31 = UInt32.ofNat k) (e3 : ((UInt32.ofNat k).toBitVec % 32).toNat = k) : shI (nI v) ki = nI (v / 2 ^ k) := by
  unfold shI
  rw [e1]
  refine Int32.toBitVec_inj.1 ?_
  show (BitVec.ofNat 32 v >>> ((UInt32.ofNat k).toBitVec % 32)) = BitVec.ofNat 32 (v / 2 ^ k)
  apply BitVec.eq_of_toNat_eq
  rw [BitVec.ushiftRight_eq', e3, BitVec.toNat_ushiftRight, BitVec.toNat_ofNat, BitVec.toNat_ofNat, Nat.mod_eq_of_lt hv, Nat.shiftRight_eq_div_pow, Nat.mod_eq_of_lt]
  exact Nat.lt_of_le_of_lt (Nat.div_le_self _ _) hv
theorem and16 (a b : Nat) : a &&& b = ((a % 16) &&& (b % 16)) + 16 * ((a / 16) &&& (b / 16)) := by
  have h1 : (a &&& b) / 16 = a / 16 &&& b / 16 := Nat.and_div_two_pow (n := 4)
  have h2 : (a &&& b) % 16 = (a % 16) &&& (b % 16) := Nat.and_mod_two_pow (n := 4)
  rw [← h1, ← h2]; omega
theorem and256 (a b : Nat) : a &&& b = ((a % 256) &&& (b % 256)) + 256 * ((a / 256) &&& (b / 256)) := by
  have h1 : (a &&& b) / 256 = a / 256 &&& b / 256 := Nat.and_div_two_pow (n := 8)
  have h2 : (a &&& b) % 256 = (a % 256) &&& (b % 256) := Nat.and_mod_two_pow (n := 8)
  rw [← h1, ← h2]; omega
def m5N : Nat → Nat
  | 0 => 0
  | n + 1 => 5 + 16 * m5N n
def m3N : Nat → Nat
  | 0 => 0
  | n + 1 => 3 + 16 * m3N n
def t1N (n v : Nat) : Nat := v - ((v / 2) &&& m5N n)
def t2N (n y : Nat) : Nat := (y &&& m3N n) + ((y / 4) &&& m3N n)
def pc4 (e : Nat) : Nat := e % 2 + e / 2 % 2 + e / 4 % 2 + e / 8 % 2
theorem nib1 : ∀ e, e < 16 → ∀ r, r < 2 → (e / 2 + 8 * r) &&& 5 = e / 2 &&& 5 := by decide +kernel
theorem nib2 : ∀ e, e < 16 → ∀ r, r < 4 → (e / 4 + 4 * r) &&& 3 = e / 4 := by decide +kernel
theorem nib3 : ∀ e, e < 16 → e - (e / 2 &&& 5) < 16 ∧ ((e - (e / 2 &&& 5)) &&& 3) + (e - (e / 2 &&& 5)) / 4 = pc4 e := by decide +kernel
theorem t1_s {n e w : Nat} (he : e < 16) : t1N (n + 1) (e + 16 * w) = (e - (e / 2 &&& 5)) + 16 * t1N n w := by
  unfold t1N
  rw [m5N, and16 ((e + 16 * w) / 2)]
  have a1 : (e + 16 * w) / 2 % 16 = e / 2 + 8 * (w % 2) := by omega
  have a2 : (e + 16 * w) / 2 / 16 = w / 2 := by omega
  have a3 : (5 + 16 * m5N n) % 16 = 5 := by omega
  have a4 : (5 + 16 * m5N n) / 16 = m5N n := by omega
  rw [a1, a2, a3, a4, nib1 e he (w % 2) (by omega)]
  have b1 : (e / 2 &&& 5) ≤ e / 2 := Nat.and_le_left
  have b2 : (w / 2 &&& m5N n) ≤ w / 2 := Nat.and_le_left
  omega
theorem t2_s {n e w : Nat} (he : e < 16) : t2N (n + 1) (e + 16 * w) = ((e &&& 3) + e / 4) + 16 * t2N n w := by
  unfold t2N
  rw [m3N, and16 (e + 16 * w), and16 ((e + 16 * w) / 4)]
  have a1 : (e + 16 * w) / 4 % 16 = e / 4 + 4 * (w % 4) := by omega
  have a2 : (e + 16 * w) / 4 / 16 = w / 4 := by omega
  have a3 : (3 + 16 * m3N n) % 16 = 3 := by omega
  have a4 : (3 + 16 * m3N n) / 16 = m3N n := by omega
  have a5 : (e + 16 * w) % 16 = e := by omega
  have a6 : (e + 16 * w) / 16 = w := by omega
  rw [a1, a2, a3, a4, a5, a6, nib2 e he (w % 4) (by omega)]
  omega
theorem t12 (n v : Nat) : t2N (n + 1) (t1N (n + 1) v) = pc4 (v % 16) + 16 * t2N n (t1N n (v / 16)) := by
  have e : v = v % 16 + 16 * (v / 16) := by omega
  have h := nib3 (v % 16) (by omega)
  have k := t1_s (n := n) (e := v % 16) (w := v / 16) (by omega)
  rw [← e] at k
  rw [k, t2_s h.1, h.2]
theorem t2_0 (y : Nat) : t2N 0 y = 0 := by
  unfold t2N
  show (y &&& 0) + (y / 4 &&& 0) = 0
  rw [Nat.and_zero, Nat.and_zero]
theorem pc4_le (e : Nat) : pc4 e ≤ 4 := by unfold pc4; omega
theorem t8 (v : Nat) : t2N 8 (t1N 8 v) = pc4 (v % 16) + 16 * (pc4 (v / 16 % 16) + 16 * (pc4 (v / 16 / 16 % 16) + 16 * (pc4 (v / 16 / 16 / 16 % 16) + 16 * (pc4 (v / 16 / 16 / 16 / 16 % 16) + 16 * (pc4 (v / 16 / 16 / 16 / 16 / 16 % 16) + 16 * (pc4 (v / 16 / 16 / 16 / 16 / 16 / 16 % 16) + 16 * pc4 (v / 16 / 16 / 16 / 16 / 16 / 16 / 16 % 16))))))) := by
  rw [t12, t12, t12, t12, t12, t12, t12, t12, t2_0, Nat.mul_zero, Nat.add_zero]
theorem andF (a : Nat) : a &&& 252645135 = a % 16 + 256 * (a / 256 % 16 + 256 * (a / 65536 % 16 + 256 * (a / 16777216 % 16))) := by
  have k : ∀ x : Nat, (x % 256) &&& 15 = x % 16 := fun x => by
    have : (x % 256) &&& 15 = (x % 256) % 16 := Nat.and_two_pow_sub_one_eq_mod (x % 256) 4
    omega
  rw [and256 a 252645135]
  show ((a % 256) &&& 15) + 256 * ((a / 256) &&& 986895) = _
  rw [k, and256 (a / 256) 986895]
  show a % 16 + 256 * (((a / 256 % 256) &&& 15) + 256 * ((a / 256 / 256) &&& 3855)) = _
  rw [k, and256 (a / 256 / 256) 3855]
  show a % 16 + 256 * (a / 256 % 16 + 256 * (((a / 256 / 256 % 256) &&& 15) + 256 * ((a / 256 / 256 / 256) &&& 15))) = _
  rw [k]
  have e : (a / 256 / 256 / 256) &&& 15 = (a / 256 / 256 / 256) % 16 := Nat.and_two_pow_sub_one_eq_mod _ 4
  rw [e]; omega
theorem sumT {a b c d e f g h T : Nat} (ha : a ≤ 15) (hb : b ≤ 15) (hc : c ≤ 15) (hd : d ≤ 15) (he : e ≤ 15) (hf : f ≤ 15) (hg : g ≤ 15) (hT : T = a + 16 * (b + 16 * (c + 16 * (d + 16 * (e + 16 * (f + 16 * (g + 16 * h))))))) : T % 16 = a ∧ T / 256 % 16 = c ∧ T / 65536 % 16 = e ∧ T / 16777216 % 16 = g := by
  have k : ∀ R x : Nat, x ≤ 15 → (x + 16 * R) % 16 = x := fun R x h => by omega
  have q : ∀ R x y : Nat, x ≤ 15 → y ≤ 15 → (x + 16 * (y + 16 * R)) / 256 = R := fun R x y h1 h2 => by omega
  have e1 : T / 256 = c + 16 * (d + 16 * (e + 16 * (f + 16 * (g + 16 * h)))) := by rw [hT]; exact q _ a b ha hb
  have e2 : T / 65536 = e + 16 * (f + 16 * (g + 16 * h)) := by
    rw [show T / 65536 = T / 256 / 256 by omega, e1]; exact q _ c d hc hd
  have e3 : T / 16777216 = g + 16 * h := by
    rw [show T / 16777216 = T / 65536 / 256 by omega, e2]; exact q _ e f he hf
  rw [e1, e2, e3]
  exact ⟨by rw [hT]; exact k _ a ha, k _ c hc, k _ e he, k _ g hg⟩
theorem sum8 {n0 n1 n2 n3 n4 n5 n6 n7 z t : Nat} (h0 : n0 ≤ 4) (h1 : n1 ≤ 4) (h2 : n2 ≤ 4) (h3 : n3 ≤ 4) (h4 : n4 ≤ 4) (h5 : n5 ≤ 4) (h6 : n6 ≤ 4) (h7 : n7 ≤ 4) (hz : z = n0 + 16 * (n1 + 16 * (n2 + 16 * (n3 + 16 * (n4 + 16 * (n5 + 16 * (n6 + 16 * n7))))))) (ht : t = (z + z / 16) &&& 252645135) : t = (n0 + n1) + 256 * ((n2 + n3) + 256 * ((n4 + n5) + 256 * (n6 + n7))) := by
  rw [ht, andF]
  have e : z / 16 = n1 + 16 * (n2 + 16 * (n3 + 16 * (n4 + 16 * (n5 + 16 * (n6 + 16 * n7))))) := by omega
  rw [e, hz]
  have a0 : (n0 + 16 * (n1 + 16 * (n2 + 16 * (n3 + 16 * (n4 + 16 * (n5 + 16 * (n6 + 16 * n7)))))) + (n1 + 16 * (n2 + 16 * (n3 + 16 * (n4 + 16 * (n5 + 16 * (n6 + 16 * n7))))))) = (n0 + n1) + 16 * ((n1 + n2) + 16 * ((n2 + n3) + 16 * ((n3 + n4) + 16 * ((n4 + n5) + 16 * ((n5 + n6) + 16 * ((n6 + n7) + 16 * n7)))))) := by omega
  rw [a0]
  obtain ⟨k1, k2, k3, k4⟩ := sumT (show n0 + n1 ≤ 15 by omega) (show n1 + n2 ≤ 15 by omega) (show n2 + n3 ≤ 15 by omega) (show n3 + n4 ≤ 15 by omega) (show n4 + n5 ≤ 15 by omega) (show n5 + n6 ≤ 15 by omega) (show n6 + n7 ≤ 15 by omega) (rfl : (n0 + n1) + 16 * ((n1 + n2) + 16 * ((n2 + n3) + 16 * ((n3 + n4) + 16 * ((n4 + n5) + 16 * ((n5 + n6) + 16 * ((n6 + n7) + 16 * n7)))))) = _)
  rw [k1, k2, k3, k4]
theorem sum4 {s0 s1 s2 s3 t x : Nat} (h0 : s0 ≤ 8) (h1 : s1 ≤ 8) (h2 : s2 ≤ 8) (h3 : s3 ≤ 8) (ht : t = s0 + 256 * (s1 + 256 * (s2 + 256 * s3))) (hx : x = t + t / 256) : (x + x / 65536) &&& 63 = s0 + s1 + s2 + s3 ∧ x < 2 ^ 31 := by
  have e : (x + x / 65536) &&& 63 = (x + x / 65536) % 64 := Nat.and_two_pow_sub_one_eq_mod _ 6
  have e1 : t / 256 = s1 + 256 * (s2 + 256 * s3) := by omega
  have e2 : x = (s0 + s1) + 256 * ((s1 + s2) + 256 * ((s2 + s3) + 256 * s3)) := by omega
  have e3 : x / 65536 = (s2 + s3) + 256 * s3 := by omega
  rw [e, e3, e2]
  omega
theorem bc_31 {v : Nat} (hv : v < 2 ^ 31) : bcI (nI v) = nI (pc4 (v % 16) + pc4 (v / 16 % 16) + pc4 (v / 16 / 16 % 16) + pc4 (v / 16 / 16 / 16 % 16) + pc4 (v / 16 / 16 / 16 / 16 % 16) + pc4 (v / 16 / 16 / 16 / 16 / 16 % 16) + pc4 (v / 16 / 16 / 16 / 16 / 16 / 16 % 16) + pc4 (v / 16 / 16 / 16 / 16 / 16 / 16 / 16 % 16)) := by
  have c5 : (1431655765 : Int32) = nI (m5N 8) := rfl
  have c3 : (858993459 : Int32) = nI (m3N 8) := rfl
  have cF : (252645135 : Int32) = nI 252645135 := rfl
  have c6 : (63 : Int32) = nI 63 := rfl
  have v3 : m3N 8 = 858993459 := rfl
  have k1 : b1I (nI v) = nI (t1N 8 v) := by
    unfold b1I t1N
    rw [sh_n (k := 1) (ki := 1) (by omega) (by decide) (by decide), c5, nI_and, nI_sub (Nat.le_trans Nat.and_le_left (Nat.div_le_self _ _))]
  have l1 : t1N 8 v ≤ v := Nat.sub_le _ _
  have k2 : b2I (nI (t1N 8 v)) = nI (t2N 8 (t1N 8 v)) := by
    unfold b2I t2N
    rw [sh_n (k := 2) (ki := 2) (by omega) (by decide) (by decide), c3, nI_and, nI_and, nI_add]
  have l2 : t2N 8 (t1N 8 v) ≤ 858993459 + 858993459 := by
    unfold t2N
    rw [v3]
    exact Nat.add_le_add Nat.and_le_right Nat.and_le_right
  obtain ⟨z, hz⟩ : ∃ z, t2N 8 (t1N 8 v) = z := ⟨_, rfl⟩
  rw [hz] at k2 l2
  have k3 : b3I (nI z) = nI ((z + z / 16) &&& 252645135) := by
    unfold b3I
    rw [sh_n (k := 4) (ki := 4) (by omega) (by decide) (by decide), cF, nI_add, nI_and]
  have s8 := sum8 (pc4_le (v % 16)) (pc4_le (v / 16 % 16)) (pc4_le (v / 16 / 16 % 16)) (pc4_le (v / 16 / 16 / 16 % 16)) (pc4_le (v / 16 / 16 / 16 / 16 % 16)) (pc4_le (v / 16 / 16 / 16 / 16 / 16 % 16)) (pc4_le (v / 16 / 16 / 16 / 16 / 16 / 16 % 16)) (pc4_le (v / 16 / 16 / 16 / 16 / 16 / 16 / 16 % 16)) (hz.symm.trans (t8 v)) (rfl : (z + z / 16) &&& 252645135 = _)
  obtain ⟨t, ht⟩ : ∃ t, (z + z / 16) &&& 252645135 = t := ⟨_, rfl⟩
  rw [ht] at k3 s8
  have lt : t ≤ 252645135 := by rw [← ht]; exact Nat.and_le_right
  have k4 : b4I (nI t) = nI (t + t / 256) := by
    unfold b4I
    rw [sh_n (k := 8) (ki := 8) (by omega) (by decide) (by decide), nI_add]
  have g0 := pc4_le (v % 16)
  have g1 := pc4_le (v / 16 % 16)
  have g2 := pc4_le (v / 16 / 16 % 16)
  have g3 := pc4_le (v / 16 / 16 / 16 % 16)
  have g4 := pc4_le (v / 16 / 16 / 16 / 16 % 16)
  have g5 := pc4_le (v / 16 / 16 / 16 / 16 / 16 % 16)
  have g6 := pc4_le (v / 16 / 16 / 16 / 16 / 16 / 16 % 16)
  have g7 := pc4_le (v / 16 / 16 / 16 / 16 / 16 / 16 / 16 % 16)
  obtain ⟨s4, lx⟩ := sum4 (s0 := pc4 (v % 16) + pc4 (v / 16 % 16)) (s1 := pc4 (v / 16 / 16 % 16) + pc4 (v / 16 / 16 / 16 % 16)) (s2 := pc4 (v / 16 / 16 / 16 / 16 % 16) + pc4 (v / 16 / 16 / 16 / 16 / 16 % 16)) (s3 := pc4 (v / 16 / 16 / 16 / 16 / 16 / 16 % 16) + pc4 (v / 16 / 16 / 16 / 16 / 16 / 16 / 16 % 16)) (by omega) (by omega) (by omega) (by omega) s8 rfl
  have k5 : b5I (nI (t + t / 256)) = nI ((t + t / 256 + (t + t / 256) / 65536) &&& 63) := by
    unfold b5I
    rw [sh_n (k := 16) (ki := 16) (by omega) (by decide) (by decide), c6, nI_add, nI_and]
  unfold bcI
  rw [k1, k2, k3, k4, k5, s4]
  congr 1
  omega
theorem cnt_sh (P : Nat → Bool) (j : Nat) : ∀ m, cntN P (j + m) = cntN P j + cntN (fun k => P (j + k)) m
  | 0 => rfl
  | m + 1 => by
    show cntN P (j + m) + _ = cntN P j + (cntN (fun k => P (j + k)) m + _)
    rw [cnt_sh P j m]; exact Nat.add_assoc _ _ _
theorem pcB_4 (v : Nat) : pcB 4 v = pc4 (v % 16) := by
  unfold pcB pc4
  simp only [cntN, Nat.testBit_eq_decide_div_mod_eq, decide_eq_true_eq]
  have e : ∀ x : Nat, (if x % 2 = 1 then 1 else 0) = x % 2 := fun x => by split <;> omega
  rw [e, e, e, e]
  omega
theorem pcB_s (m v : Nat) : pcB (4 + m) v = pc4 (v % 16) + pcB m (v / 16) := by
  have e : pcB (4 + m) v = pcB 4 v + cntN (fun k => v.testBit (4 + k)) m := cnt_sh _ 4 m
  rw [e, pcB_4]
  congr 1
  refine cnt_congr (fun k _ => ?_)
  rw [Nat.add_comm 4 k, Nat.testBit_add]
theorem bc_32 {v : Nat} (hv : v < 2 ^ 31) : bcI (nI v) = nI (pcB 32 v) := by
  rw [bc_31 hv]
  congr 1
  have s : ∀ m v, pcB (m + 4) v = pc4 (v % 16) + pcB m (v / 16) := fun m v => by rw [Nat.add_comm]; exact pcB_s m v
  rw [s 28, s 24, s 20, s 16, s 12, s 8, s 4, s 0]
  show _ = _ + (_ + (_ + (_ + (_ + (_ + (_ + (_ + 0)))))))
  omega
theorem orP_V (P : Nat → Bool) : ∀ n, n ≤ 31 → ∃ V, V < 2 ^ n ∧ orP P n = nI V ∧ ∀ k, V.testBit k = (decide (k < n) && P k)
  | 0, _ => ⟨0, by decide, rfl, fun k => by rw [Nat.zero_testBit]; rfl⟩
  | n + 1, hn => by
    obtain ⟨V, v1, v2, v3⟩ := orP_V P n (by omega)
    by_cases h : P n = true
    · refine ⟨V ||| 2 ^ n, Nat.or_lt_two_pow (Nat.lt_trans v1 (Nat.pow_lt_pow_right (by decide) (by omega))) (Nat.pow_lt_pow_right (by decide) (by omega)), ?_, fun k => ?_⟩
      · rw [orP, if_pos h, v2, bit_p n (by omega), nI_or]
      · rw [tb_add, v3 k]
        by_cases hk : n = k
        · subst hk
          rw [h]; simp
        · rw [decide_eq_false hk, Bool.or_false]
          congr 1
          apply decide_eq_decide.mpr
          omega
    · refine ⟨V, Nat.lt_trans v1 (Nat.pow_lt_pow_right (by decide) (by omega)), ?_, fun k => ?_⟩
      · rw [orP, if_neg h, v2, Int32.or_zero]
      · rw [v3 k]
        by_cases hk : k = n
        · subst hk
          have : P k = false := by cases hh : P k <;> simp_all
          rw [this, Bool.and_false, Bool.and_false]
        · congr 1
          apply decide_eq_decide.mpr
          omega
theorem bc_orP (P : Nat → Bool) {n : Nat} (hn : n ≤ 31) : bcI (orP P n) = nI (cntN P n) := by
  obtain ⟨V, v1, v2, v3⟩ := orP_V P n hn
  have hV : V < 2 ^ 31 := Nat.lt_of_lt_of_le v1 (Nat.pow_le_pow_right (by decide) hn)
  rw [v2, bc_32 hV]
  congr 1
  unfold pcB
  rw [show (fun k => V.testBit k) = (fun k => decide (k < n) && P k) from funext v3]
  exact cnt_cut P 32 (by omega)
/-! the least bit -/
def f48 (x n : Int32) : Int32 := n + shI x 1
def f40 (x n : Int32) : Int32 := if x ≤ 4 then f48 x n else f48 (shI x 2) (n + 2)
def f32 (x n : Int32) : Int32 := if x ≤ 16 then f40 x n else f40 (shI x 4) (n + 4)
def f24 (x n : Int32) : Int32 := if x ≤ 256 then f32 x n else f32 (shI x 8) (n + 8)
def f14 (x : Int32) : Int32 := if x ≤ 65536 then f24 x 1 else f24 (shI x 16) (1 + 16)
def f00 (x : Int32) : Int32 := if 0 < x then f14 x else x &&& 32
theorem f_all : ∀ t, t < 31 → f00 (nI (2 ^ t - 1)) = nI t := by decide +kernel
section NTZ
variable {X : XS} {d u : Nat} {D : DD} {J : JJ}
theorem s_ntz (x : Int32) : EvM X d 330 [.int x] (hS u D J) = some (.inl (some (.int (f00 ((x ^^^ (-1)) &&& (x - 1))))), hS u D J) := by
  have h48 : ∀ x n, Ev X d 330 (48, [.int x, .int n], [], hS u D J) = some (.inl (some (.int (f48 x n))), hS u D J) := fun x n => e330_48 x n
  have h40 : ∀ x n, Ev X d 330 (40, [.int x, .int n], [], hS u D J) = some (.inl (some (.int (f40 x n))), hS u D J) := fun x n => by
    rw [e330_40]
    unfold f40
    by_cases h : x ≤ 4
    · rw [brT h, if_pos h]; exact h48 _ _
    · rw [brF h, if_neg h]; exact h48 _ _
  have h32 : ∀ x n, Ev X d 330 (32, [.int x, .int n], [], hS u D J) = some (.inl (some (.int (f32 x n))), hS u D J) := fun x n => by
    rw [e330_32]
    unfold f32
    by_cases h : x ≤ 16
    · rw [brT h, if_pos h]; exact h40 _ _
    · rw [brF h, if_neg h]; exact h40 _ _
  have h24 : ∀ x n, Ev X d 330 (24, [.int x, .int n], [], hS u D J) = some (.inl (some (.int (f24 x n))), hS u D J) := fun x n => by
    rw [e330_24]
    unfold f24
    by_cases h : x ≤ 256
    · rw [brT h, if_pos h]; exact h32 _ _
    · rw [brF h, if_neg h]; exact h32 _ _
  have h14 : ∀ x, Ev X d 330 (14, [.int x, .null], [], hS u D J) = some (.inl (some (.int (f14 x))), hS u D J) := fun x => by
    rw [e330_14]
    unfold f14
    by_cases h : x ≤ 65536
    · rw [brT h, if_pos h]; exact h24 _ _
    · rw [brF h, if_neg h]; exact h24 _ _
  refine (e330_0 x).trans ?_
  unfold f00
  by_cases h : 0 < ((x ^^^ (-1)) &&& (x - 1))
  · rw [brT h, if_pos h]; exact h14 _
  · rw [brF h, if_neg h]
theorem low_bit {V t : Nat} (hV : V < 2 ^ 31) (h1 : V.testBit t = true) (h2 : ∀ j, j < t → V.testBit j = false) : (nI V ^^^ (-1)) &&& (nI V - 1) = nI (2 ^ t - 1) := by
  have hp : 1 ≤ V := Nat.pos_of_ne_zero (fun z => by rw [z, Nat.zero_testBit] at h1; cases h1)
  have e1 : nI V - 1 = nI (V - 1) := nI_sub (b := 1) hp
  have hm : V % 2 ^ (t + 1) = 2 ^ t := by
    apply Nat.eq_of_testBit_eq
    intro i
    rw [Nat.testBit_mod_two_pow, Nat.testBit_two_pow]
    by_cases hi : t = i
    · subst hi
      rw [h1]; simp
    · rw [decide_eq_false hi]
      by_cases hl : i < t
      · rw [h2 i hl, Bool.and_false]
      · rw [decide_eq_false (show ¬ i < t + 1 by omega), Bool.false_and]
  have hd : V = 2 ^ (t + 1) * (V / 2 ^ (t + 1)) + 2 ^ t := by
    have := Nat.div_add_mod V (2 ^ (t + 1))
    omega
  have hpow : 0 < 2 ^ t := Nat.two_pow_pos t
  have hp2 : 2 ^ (t + 1) = 2 ^ t + 2 ^ t := by rw [Nat.pow_succ]; omega
  have hd1 : V - 1 = 2 ^ (t + 1) * (V / 2 ^ (t + 1)) + (2 ^ t - 1) := by omega
  rw [e1]
  refine Int32.toBitVec_inj.1 ?_
  rw [Int32.toBitVec_and, Int32.toBitVec_xor]
  show (BitVec.ofNat 32 V ^^^ (-1 : Int32).toBitVec) &&& BitVec.ofNat 32 (V - 1) = BitVec.ofNat 32 (2 ^ t - 1)
  have ea : (-1 : Int32).toBitVec = BitVec.allOnes 32 := by decide
  rw [ea]
  apply BitVec.eq_of_getLsbD_eq
  intro i hi
  rw [BitVec.getLsbD_and, BitVec.getLsbD_xor, BitVec.getLsbD_ofNat, BitVec.getLsbD_ofNat, BitVec.getLsbD_ofNat, BitVec.getLsbD_allOnes, decide_eq_true hi, Bool.true_and, Bool.true_and, Bool.true_and, Nat.testBit_two_pow_sub_one]
  have k : (V - 1).testBit i = if i < t + 1 then (2 ^ t - 1).testBit i else (V / 2 ^ (t + 1)).testBit (i - (t + 1)) := by
    rw [hd1]; exact Nat.testBit_two_pow_mul_add _ (by omega) i
  rw [k]
  by_cases hl : i < t
  · rw [h2 i hl, if_pos (by omega), Nat.testBit_two_pow_sub_one, decide_eq_true hl]; rfl
  · by_cases he : i = t
    · subst he
      rw [h1, if_pos (by omega), Nat.testBit_two_pow_sub_one, decide_eq_false hl]; rfl
    · rw [if_neg (by omega), decide_eq_false hl]
      have kv : V.testBit i = (V / 2 ^ (t + 1)).testBit (i - (t + 1)) := by
        have := Nat.testBit_two_pow_mul_add (V / 2 ^ (t + 1)) (b := 2 ^ t) (i := t + 1) (by omega) i
        rw [← hd, if_neg (by omega)] at this
        exact this
      rw [kv]
      cases (V / 2 ^ (t + 1)).testBit (i - (t + 1)) <;> rfl
/-- the first that is so -/
theorem ntz_orP {P : Nat → Bool} {n t : Nat} (hn : n ≤ 31) (ht : t < n) (h1 : P t = true) (h2 : ∀ j, j < t → P j = false) : EvM X d 330 [.int (orP P n)] (hS u D J) = some (.inl (some (.int (nI t))), hS u D J) := by
  obtain ⟨V, v1, v2, v3⟩ := orP_V P n hn
  have hV : V < 2 ^ 31 := Nat.lt_of_lt_of_le v1 (Nat.pow_le_pow_right (by decide) hn)
  rw [s_ntz, v2, low_bit (t := t) hV (by rw [v3 t, h1, decide_eq_true ht]; rfl) (fun j hj => by rw [v3 j, h2 j hj, Bool.and_false]), f_all t (by omega)]
theorem orP_ne {P : Nat → Bool} {n : Nat} (hn : n ≤ 31) : orP P n = 0 ↔ ∀ k, k < n → P k = false := by
  obtain ⟨V, v1, v2, v3⟩ := orP_V P n hn
  have hV : V < 2 ^ 31 := Nat.lt_of_lt_of_le v1 (Nat.pow_le_pow_right (by decide) hn)
  rw [v2]
  constructor
  · intro h k hk
    have : V = 0 := nI_inj (b := 0) hV (by decide) h
    have h3 := v3 k
    rw [this, Nat.zero_testBit, decide_eq_true hk, Bool.true_and] at h3
    exact h3.symm
  · intro h
    have : V = 0 := Nat.eq_of_testBit_eq (fun k => by
      rw [Nat.zero_testBit, v3 k]
      by_cases hk : k < n
      · rw [h k hk, Bool.and_false]
      · rw [decide_eq_false hk]; rfl)
    rw [this]; rfl
end NTZ
