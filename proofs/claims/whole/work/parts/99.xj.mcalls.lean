/-! ===== the reference's small calls over tokens ===== -/
def TkM (t : Tx) (n k : Nat) (D : DD) (J : JJ) : Prop := TkP t n (tkN t n k) D J
def knW (t : Tx) (n k : Nat) : Int32 := if kK t n k = 1 then kmI (vV t n k) else -1
theorem TkP.fr {t : Tx} {n p : Nat} {D D' : DD} {J J' : JJ} (h : TkP t n p D J) (h1 : ∀ k, 12 ≤ k → k ≤ 18 → D' 70 k = D 70 k) (h2 : D' 72 = D 72) (h3 : J' 70 19 = J 70 19) : TkP t n p D' J' := by
  obtain ⟨a1, a2, a3, a4, a5, a6, a7, a8⟩ := h
  refine ⟨⟨(h1 12 (by decide) (by decide)).trans a1.1, fun i hi => by rw [h2]; exact a1.2 i hi⟩, (h1 13 (by decide) (by decide)).trans a2, (h1 14 (by decide) (by decide)).trans a3, (h1 15 (by decide) (by decide)).trans a4, (h1 16 (by decide) (by decide)).trans a5, fun x y => (h1 17 (by decide) (by decide)).trans (a6 x y), fun x => (h1 18 (by decide) (by decide)).trans (a7 x), fun x y => by rw [h3]; exact a8 x y⟩
theorem kd_3 {t : Tx} {n p : Nat} (h : kdN t n p = 3) : isLe (t p) = false ∧ isDi (t p) = false := by
  unfold kdN at h
  by_cases q : p < n
  · rw [if_pos q] at h
    by_cases z : isLe (t p) = true
    · rw [if_pos z] at h; cases h
    · rw [if_neg z] at h
      by_cases y : isDi (t p) = true
      · rw [if_pos y] at h; cases h
      · exact ⟨Bool.eq_false_iff.mpr z, Bool.eq_false_iff.mpr y⟩
  · rw [if_neg q] at h; cases h
theorem kd_2 {t : Tx} {n p : Nat} (h : kdN t n p = 2) : p < n ∧ isLe (t p) = false ∧ isDi (t p) = true := by
  unfold kdN at h
  by_cases q : p < n
  · rw [if_pos q] at h
    by_cases z : isLe (t p) = true
    · rw [if_pos z] at h; cases h
    · rw [if_neg z] at h
      by_cases y : isDi (t p) = true
      · exact ⟨q, Bool.eq_false_iff.mpr z, y⟩
      · rw [if_neg y] at h
        split at h <;> cases h
  · rw [if_neg q] at h; cases h
theorem v_sign {t : Tx} {n k : Nat} (h : kK t n k = 3) : vV t n k = t (tkN t n k) := by
  obtain ⟨h1, h2⟩ := kd_3 h
  unfold vV tvl
  rw [if_neg (by rw [h1]; exact Bool.false_ne_true), if_neg (by rw [h2]; exact Bool.false_ne_true)]
theorem le_all : ∀ a, a < 256 → isLe (nI a) = true → 97 ≤ a ∧ a ≤ 122 := by decide +kernel
theorem di_all : ∀ a, a < 256 → isDi (nI a) = true → 48 ≤ a ∧ a ≤ 57 := by decide +kernel
theorem ltL_nat {t : Tx} (hby : byB t) : ∀ k p, (∀ i, i < k → isLe (t (p + i)) = true) → ∃ l : List Nat, ltL t k p = l.map nI ∧ (∀ a ∈ l, isLt a) ∧ l.length = k
  | 0, p, _ => ⟨[], rfl, fun a ha => absurd ha List.not_mem_nil, rfl⟩
  | k + 1, p, h => by
    obtain ⟨l, l1, l2, l3⟩ := ltL_nat hby k (p + 1) (fun i hi => by
      have := h (i + 1) (by omega)
      rwa [show p + (i + 1) = p + 1 + i by omega] at this)
    obtain ⟨a, a1, a2⟩ := hby p
    have h0 := h 0 (by omega)
    rw [Nat.add_zero, a2] at h0
    refine ⟨a :: l, by rw [ltL, l1, a2]; rfl, fun x hx => ?_, by rw [List.length_cons, l3]⟩
    rcases List.mem_cons.mp hx with z | z
    · rw [z]; exact le_all a a1 h0
    · exact l2 x z
theorem le_in {t : Tx} {n p : Nat} (h : p < n) (hl : isLe (t p) = true) : ∀ i, i < enN t n p - p → isLe (t (p + i)) = true := fun i hi => by
  unfold enN at hi
  rw [if_pos hl] at hi
  by_cases z : i = 0
  · rw [z]; exact hl
  · exact runT_in isLe t (n - (p + 1)) (p + 1) (p + i) (by omega) (by omega)
theorem di_in {t : Tx} {n p : Nat} (h : p < n) (hl : isLe (t p) = false) (hd : isDi (t p) = true) : ∀ i, i < enN t n p - p → isDi (t (p + i)) = true := fun i hi => by
  unfold enN at hi
  rw [if_neg (by rw [hl]; exact Bool.false_ne_true), if_pos hd] at hi
  by_cases z : i = 0
  · rw [z]; exact hd
  · exact runT_in isDi t (n - (p + 1)) (p + 1) (p + i) (by omega) (by omega)
theorem dg_b {t : Tx} (hby : byB t) : ∀ f j x, (∀ i, i < f → isDi (t (j + i)) = true) → ∃ y, dgT t f j (nI x) = nI y ∧ y < (x + 1) * 10 ^ f
  | 0, j, x, _ => ⟨x, rfl, by omega⟩
  | f + 1, j, x, h => by
    obtain ⟨a, a1, a2⟩ := hby j
    have h0 := h 0 (by omega)
    rw [Nat.add_zero, a2] at h0
    obtain ⟨b1, b2⟩ := di_all a a1 h0
    have e : nI x * 10 + t j - 48 = nI (10 * x + (a - 48)) := by
      rw [a2, lm, nI_add, show (48 : Int32) = nI 48 from rfl, nI_sub (by omega), show 10 * x + a - 48 = 10 * x + (a - 48) by omega]
    obtain ⟨y, y1, y2⟩ := dg_b hby f (j + 1) (10 * x + (a - 48)) (fun i hi => by
      have := h (i + 1) (by omega)
      rwa [show j + (i + 1) = j + 1 + i by omega] at this)
    refine ⟨y, by rw [dgT, e]; exact y1, Nat.lt_of_lt_of_le y2 ?_⟩
    rw [Nat.pow_succ, Nat.mul_comm (10 ^ f) 10, ← Nat.mul_assoc]
    exact Nat.mul_le_mul_right _ (by omega)
/-- a number's value -/
theorem v_num {t : Tx} {n k : Nat} (hby : byB t) (h : kK t n k = 2) : vV t n k = nvN t (tkN t n k) (enN t n (tkN t n k)) ∧ (enN t n (tkN t n k) - tkN t n k ≤ 4 → ∃ y, y < 10000 ∧ vV t n k = nI y ∧ dgT t (enN t n (tkN t n k) - tkN t n k) (tkN t n k) 0 = nI y) ∧ (¬ enN t n (tkN t n k) - tkN t n k ≤ 4 → vV t n k = 10000) := by
  obtain ⟨h1, h2, h3⟩ := kd_2 h
  have e : vV t n k = nvN t (tkN t n k) (enN t n (tkN t n k)) := by
    unfold vV tvl
    rw [if_neg (by rw [h2]; exact Bool.false_ne_true), if_pos h3]
  refine ⟨e, fun h4 => ?_, fun h4 => by rw [e]; unfold nvN; rw [if_neg h4]⟩
  obtain ⟨y, y1, y2⟩ := dg_b hby (enN t n (tkN t n k) - tkN t n k) (tkN t n k) 0 (di_in h1 h2 h3)
  refine ⟨y, ?_, ?_, y1⟩
  · have : 10 ^ (enN t n (tkN t n k) - tkN t n k) ≤ 10 ^ 4 := Nat.pow_le_pow_right (by decide) h4
    omega
  · rw [e]; unfold nvN; rw [if_pos h4]; exact y1
section MCALL
variable {X : XS} {d u : Nat} {D D' : DD} {J J' : JJ} {t : Tx} {n k : Nat}
theorem TkM.ne (h : TkM t n k D J) (hk : tkN t n k < n) : D 70 13 = nI (enN t n (tkN t n k)) := by
  have := h.2.1
  unfold neN at this
  rwa [if_pos hk] at this
theorem m_nx (hn : n ≤ 700) (h : TkM t n k D J) (hk : tkN t n k < n) : Wp (EvM X (d + 1) 183 [.ref 70] (hS u D J)) (RW u (fun D' J' => TkM t n (k + 1) D' J' ∧ FrK D J D' J')) := by
  have := m_tok (X := X) (d := d) (u := u) (J := J) hn h.1 (en_b (t := t) hk).2 (h.ne hk)
  rw [← tk_s hk] at this
  exact this
theorem kz {t : Tx} {n k : Nat} (h : kK t n k ≠ 0) : tkN t n k < n := by
  rcases Nat.lt_or_ge (tkN t n k) n with z | z
  · exact z
  · refine absurd ?_ h
    unfold kK kdN
    rw [if_neg (by omega)]
theorem sgk {c : Int32} (q : sgAt (kK t n) (vV t n) c k = true) : kK t n k = 3 ∧ vV t n k = c := by
  unfold sgAt at q
  simpa only [Bool.and_eq_true, decide_eq_true_eq] using q
theorem wdk {c : Int32} (q : wdAt (kK t n) (vV t n) c k = true) : kK t n k = 1 ∧ vV t n k = c := by
  unfold wdAt at q
  simpa only [Bool.and_eq_true, decide_eq_true_eq] using q
theorem m_sg (h : TkM t n k D J) (c : Int32) : EvM X d 189 [.ref 70, .int c] (hS u D J) = some (.inl (some (.int (bI32 (sgAt (kK t n) (vV t n) c k)))), hS u D J) := by
  refine (e189_0 c).trans ?_
  have h14 : D 70 14 = nI (kK t n k) := h.2.2.1
  rw [h14]
  unfold sgAt
  by_cases q : kK t n k = 3
  · rw [brF (show ¬ ¬ nI (kK t n k) = 3 from fun z => z ((kI kK_lt (by decide : 3 < 5)).mpr q)), h.2.2.2.2.2.2.1 q, decide_eq_true q, v_sign q]
    by_cases e : t (tkN t n k) = c
    · rw [brF (show ¬ ¬ t (tkN t n k) = c from fun z => z e), decide_eq_true e]; rfl
    · rw [brT e, decide_eq_false e]; rfl
  · rw [brT (show ¬ nI (kK t n k) = 3 from fun z => q ((kI kK_lt (by decide : 3 < 5)).mp z)), decide_eq_false q]; rfl
theorem m_known (hn : n ≤ 700) (hby : byB t) (h : TkM t n k D J) : EvM X (d + 2) 186 [.ref 70] (hS u D J) = some (.inl (some (.int (knW t n k))), hS u D J) := by
  refine (e186_0).trans ?_
  have h14 : D 70 14 = nI (kK t n k) := h.2.2.1
  rw [h14]
  unfold knW
  by_cases q : kK t n k = 1
  · obtain ⟨q1, q2⟩ := kd_1 q
    have e16 : D 70 16 = nI (enN t n (tkN t n k) - tkN t n k) := by
      have := h.2.2.2.2.1
      unfold neN at this
      rwa [if_pos q1] at this
    have hen := (en_b (t := t) q1).2
    obtain ⟨l, l1, l2, l3⟩ := ltL_nat hby (enN t n (tkN t n k) - tkN t n k) (tkN t n k) (le_in q1 q2)
    rw [brF (show ¬ ¬ nI (kK t n k) = 1 from fun z => z ((kI kK_lt (by decide : 1 < 5)).mpr q)), if_pos q, e16, v_word q]
    by_cases h7 : enN t n (tkN t n k) - tkN t n k ≤ 7
    · rw [brT (show nI (enN t n (tkN t n k) - tkN t n k) ≤ 7 from nI_le (b := 7) h7 (by decide))]
      have hJ := h.2.2.2.2.2.2.2 q
      unfold neN at hJ
      rw [if_pos q1] at hJ
      have hJ := hJ h7
      refine (m_kn (l := ltL t (enN t n (tkN t n k) - tkN t n k) (tkN t n k)) hJ (fun j hj => ?_) 15 0 rfl).trans ?_
      · have hw : WDM.getD j [] ∈ WDM := by
          rw [List.getD_eq_getElem?_getD, List.getElem?_eq_getElem (show j < WDM.length from hj)]
          exact List.getElem_mem _
        obtain ⟨w1, w2⟩ := wdm_l _ hw
        unfold wdM
        rw [l1]
        constructor
        · intro z
          rw [pkL_inj (fun a ha => w1 a ha) l2 w2 (by omega) z]
        · intro z
          rw [z]
      · rw [kn_eq]
    · rw [brF (show ¬ nI (enN t n (tkN t n k) - tkN t n k) ≤ 7 from fun z => h7 ((nI_leI (by omega) (by decide : 7 < 2 ^ 31)).mp z))]
      rcases ixW_r (ltL t (enN t n (tkN t n k) - tkN t n k) (tkN t n k)) WDS 0 with z | ⟨j, -, j2, j3⟩
      · rw [z]; rfl
      · have hj : j < 15 := by
          have e : WDS.length = 15 := rfl
          omega
        have a1 := ix_len j3 hj
        rw [ltL_len] at a1
        have a2 := wds_7 j hj
        omega
  · rw [brT (show ¬ nI (kK t n k) = 1 from fun z => q ((kI kK_lt (by decide : 1 < 5)).mp z)), if_neg q]
theorem m_good : EvM X d 188 [.ref 70] (hS u D J) = some (.inl (some (.int (bI32 (decide (D 70 9 = 0))))), hS u D J) := by
  refine (e188_0).trans ?_
  by_cases h : D 70 9 = 0
  · rw [brF (show ¬ ¬ D 70 9 = 0 from fun z => z h), decide_eq_true h]; rfl
  · rw [brT h, decide_eq_false h]; rfl
theorem m_good1 (h : D 70 9 = 0) : EvM X d 188 [.ref 70] (hS u D J) = some (.inl (some (.int 1)), hS u D J) := by
  rw [m_good, decide_eq_true h]; rfl
theorem m_good0 (h : D 70 9 ≠ 0) : EvM X d 188 [.ref 70] (hS u D J) = some (.inl (some (.int 0)), hS u D J) := by
  rw [m_good, decide_eq_false h]; rfl
theorem m_wrong (h : TkM t n k D J) (h9 : D 70 9 = 0) (e : Int32) : EvM X d 187 [.ref 70, .int e] (hS u D J) = some (.inl none, hS u (ud (ud D 70 9 e) 70 10 (nI (tkN t n k))) J) := by
  refine (e187_0 e).trans ?_
  have h15 : D 70 15 = nI (tkN t n k) := h.2.2.2.1
  rw [brT h9, ud_k (by decide), h15]
end MCALL
