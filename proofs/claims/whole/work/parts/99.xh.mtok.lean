/-! ===== the reference's tokens ===== -/
def pkL (l : List Int32) : Int64 := l.foldl (fun v c => (v <<< (Int32.toInt64 5 &&& 63)) ||| Int32.toInt64 (c - 96)) (Int64.ofNat 0)
theorem pkL_s (l : List Int32) (c : Int32) : pkL (l ++ [c]) = (pkL l <<< (Int32.toInt64 5 &&& 63)) ||| Int32.toInt64 (c - 96) := by
  unfold pkL
  rw [List.foldl_append]; rfl
def isLt (a : Nat) : Prop := 97 ≤ a ∧ a ≤ 122
def pkR : List Nat → Nat
  | [] => 0
  | a :: l => 32 * pkR l + (a - 96)
theorem pkR_lt : ∀ l : List Nat, (∀ a ∈ l, isLt a) → pkR l < 32 ^ l.length
  | [], _ => by decide
  | a :: l, h => by
    have h1 := pkR_lt l (fun x hx => h x (List.mem_cons_of_mem _ hx))
    have h2 := h a List.mem_cons_self
    unfold isLt at h2
    rw [pkR, List.length_cons, Nat.pow_succ]
    omega
theorem pkR_inj : ∀ l l' : List Nat, (∀ a ∈ l, isLt a) → (∀ a ∈ l', isLt a) → pkR l = pkR l' → l = l'
  | [], [], _, _, _ => rfl
  | [], a :: l', _, h', e => by
    have h2 := h' a List.mem_cons_self
    unfold isLt at h2
    rw [pkR, pkR] at e; omega
  | a :: l, [], h, _, e => by
    have h2 := h a List.mem_cons_self
    unfold isLt at h2
    rw [pkR, pkR] at e; omega
  | a :: l, b :: l', h, h', e => by
    have h1 := h a List.mem_cons_self
    have h2 := h' b List.mem_cons_self
    unfold isLt at h1 h2
    rw [pkR, pkR] at e
    have e1 : a = b := by omega
    rw [e1, pkR_inj l l' (fun x hx => h x (List.mem_cons_of_mem _ hx)) (fun x hx => h' x (List.mem_cons_of_mem _ hx)) (by omega)]
theorem sh5 {v b : Nat} (hv : v < 2 ^ 58) (hb : b < 32) : (lN v <<< (Int32.toInt64 5 &&& 63)) ||| lN b = lN (32 * v + b) := by
  have e5 : (Int32.toInt64 5 &&& 63) = 5 := by decide
  rw [e5]
  refine Int64.toBitVec_inj.1 ?_
  rw [Int64.toBitVec_or, Int64.toBitVec_shiftLeft]
  show (BitVec.ofNat 64 v <<< ((5 : Int64).toBitVec.smod 64)) ||| BitVec.ofNat 64 b = BitVec.ofNat 64 (32 * v + b)
  have e6 : ((5 : Int64).toBitVec.smod 64) = 5#64 := by decide
  rw [e6]
  apply BitVec.eq_of_toNat_eq
  rw [BitVec.toNat_or, BitVec.toNat_ofNat, BitVec.toNat_ofNat, BitVec.shiftLeft_eq', BitVec.toNat_shiftLeft, BitVec.toNat_ofNat, Nat.mod_eq_of_lt (show v < 2 ^ 64 by omega), Nat.mod_eq_of_lt (show b < 2 ^ 64 by omega), Nat.mod_eq_of_lt (show 32 * v + b < 2 ^ 64 by omega)]
  show (v <<< 5) % 2 ^ 64 ||| b = _
  rw [Nat.shiftLeft_eq, Nat.mod_eq_of_lt (by omega), Nat.mul_comm, ← Nat.two_pow_add_eq_or_of_lt (i := 5) hb]
theorem pkL_R : ∀ l : List Nat, (∀ a ∈ l, isLt a) → l.length ≤ 7 → pkL (l.reverse.map nI) = lN (pkR l)
  | [], _, _ => rfl
  | a :: l, h, hl => by
    rw [List.length_cons] at hl
    have ha := h a List.mem_cons_self
    have h' : ∀ x ∈ l, isLt x := fun x hx => h x (List.mem_cons_of_mem _ hx)
    have hlt := pkR_lt l h'
    have h32 : 32 ^ l.length ≤ 32 ^ 6 := Nat.pow_le_pow_right (by decide) (by omega)
    have h6 : (32 : Nat) ^ 6 < 2 ^ 58 := by decide
    unfold isLt at ha
    rw [List.reverse_cons, List.map_append, List.map_cons, List.map_nil, pkL_s, pkL_R l h' (by omega), show nI a - 96 = nI (a - 96) from nI_sub (b := 96) (by omega), nI_l (by omega), sh5 (by omega) (by omega)]; rfl
theorem pkL_inj {l l' : List Nat} (h : ∀ a ∈ l, isLt a) (h' : ∀ a ∈ l', isLt a) (hl : l.length ≤ 7) (hl' : l'.length ≤ 7) (e : pkL (l.map nI) = pkL (l'.map nI)) : l = l' := by
  have a1 := pkL_R l.reverse (fun x hx => h x (List.mem_reverse.mp hx)) (by rw [List.length_reverse]; exact hl)
  have a2 := pkL_R l'.reverse (fun x hx => h' x (List.mem_reverse.mp hx)) (by rw [List.length_reverse]; exact hl')
  rw [List.reverse_reverse] at a1 a2
  rw [a1, a2] at e
  have b1 := pkR_lt l.reverse (fun x hx => h x (List.mem_reverse.mp hx))
  have b2 := pkR_lt l'.reverse (fun x hx => h' x (List.mem_reverse.mp hx))
  rw [List.length_reverse] at b1 b2
  have h32 : ∀ n, n ≤ 7 → 32 ^ n ≤ 32 ^ 7 := fun n hn => Nat.pow_le_pow_right (by decide) hn
  have h6 : (32 : Nat) ^ 7 < 2 ^ 63 := by decide
  have c1 := h32 _ hl
  have c2 := h32 _ hl'
  have e2 : pkR l.reverse = pkR l'.reverse := by
    have e3 : (lN (pkR l.reverse)).toBitVec.toNat = (lN (pkR l'.reverse)).toBitVec.toNat := by rw [e]
    have q : ∀ v, v < 2 ^ 63 → (lN v).toBitVec.toNat = v := fun v hv => by
      show (BitVec.ofNat 64 v).toNat = v
      rw [BitVec.toNat_ofNat, Nat.mod_eq_of_lt (by omega)]
    rwa [q _ (by omega), q _ (by omega)] at e3
  have := pkR_inj _ _ (fun x hx => h x (List.mem_reverse.mp hx)) (fun x hx => h' x (List.mem_reverse.mp hx)) e2
  have := congrArg List.reverse this
  rwa [List.reverse_reverse, List.reverse_reverse] at this
def WDM : List (List Nat) := [[97, 119, 97, 121], [115, 117, 110, 100, 97, 121], [97, 103, 101], [112, 101, 119], [115, 101, 97, 116], [109, 111, 118, 101, 100], [116, 104, 101, 105, 114, 115], [112, 101, 114, 115, 111, 110], [115, 101, 97, 116, 115], [97, 114, 114, 105, 118, 101, 115], [115, 117, 108, 107, 115], [109, 105, 110, 100, 115], [97, 110, 100], [111, 114], [110, 111, 116]]
theorem wdm_l : ∀ w ∈ WDM, (∀ a ∈ w, 97 ≤ a ∧ a ≤ 122) ∧ w.length ≤ 7 := by decide +kernel
theorem wds_7 : ∀ j, j < 15 → (WDS.getD j []).length ≤ 7 := by decide +kernel
def kmI (x : Int32) : Int32 := if x = 0 then 7 else if x = 1 then 8 else if x = 2 then 9 else if x = 3 then 10 else if x = 4 then 11 else if x = 5 then 13 else if x = 6 then 12 else if x = 7 then 14 else if x = 8 then 2 else if x = 9 then 3 else if x = 10 then 4 else if x = 11 then 5 else if x = 12 then 0 else if x = 13 then 1 else if x = 14 then 6 else -1
def knL (l : List Int32) : Nat → Nat → Int32
  | 0, _ => -1
  | r + 1, j => if l = (WDM.getD j []).map nI then nI j else knL l r (j + 1)
theorem kn_eq (l : List Int32) : knL l 15 0 = kmI (ixW l WDS 0) := by
  by_cases h0 : l = ([112, 101, 114, 115, 111, 110] : List Nat).map nI
  · rw [h0]; decide +kernel
  by_cases h1 : l = ([115, 101, 97, 116, 115] : List Nat).map nI
  · rw [h1]; decide +kernel
  by_cases h2 : l = ([97, 114, 114, 105, 118, 101, 115] : List Nat).map nI
  · rw [h2]; decide +kernel
  by_cases h3 : l = ([115, 117, 108, 107, 115] : List Nat).map nI
  · rw [h3]; decide +kernel
  by_cases h4 : l = ([109, 105, 110, 100, 115] : List Nat).map nI
  · rw [h4]; decide +kernel
  by_cases h5 : l = ([111, 114] : List Nat).map nI
  · rw [h5]; decide +kernel
  by_cases h6 : l = ([97, 110, 100] : List Nat).map nI
  · rw [h6]; decide +kernel
  by_cases h7 : l = ([110, 111, 116] : List Nat).map nI
  · rw [h7]; decide +kernel
  by_cases h8 : l = ([97, 103, 101] : List Nat).map nI
  · rw [h8]; decide +kernel
  by_cases h9 : l = ([112, 101, 119] : List Nat).map nI
  · rw [h9]; decide +kernel
  by_cases h10 : l = ([115, 101, 97, 116] : List Nat).map nI
  · rw [h10]; decide +kernel
  by_cases h11 : l = ([109, 111, 118, 101, 100] : List Nat).map nI
  · rw [h11]; decide +kernel
  by_cases h12 : l = ([97, 119, 97, 121] : List Nat).map nI
  · rw [h12]; decide +kernel
  by_cases h13 : l = ([115, 117, 110, 100, 97, 121] : List Nat).map nI
  · rw [h13]; decide +kernel
  by_cases h14 : l = ([116, 104, 101, 105, 114, 115] : List Nat).map nI
  · rw [h14]; decide +kernel
  have a1 : ixW l WDS 0 = -1 := by
    simp only [WDS, ixW]
    rw [if_neg h0, if_neg h1, if_neg h2, if_neg h3, if_neg h4, if_neg h5, if_neg h6, if_neg h7, if_neg h8, if_neg h9, if_neg h10, if_neg h11, if_neg h12, if_neg h13, if_neg h14]
  have a2 : knL l 15 0 = -1 := by
    simp only [knL]
    rw [if_neg (show ¬ l = (WDM.getD 0 []).map nI from h12)]
    rw [if_neg (show ¬ l = (WDM.getD 1 []).map nI from h13)]
    rw [if_neg (show ¬ l = (WDM.getD 2 []).map nI from h8)]
    rw [if_neg (show ¬ l = (WDM.getD 3 []).map nI from h9)]
    rw [if_neg (show ¬ l = (WDM.getD 4 []).map nI from h10)]
    rw [if_neg (show ¬ l = (WDM.getD 5 []).map nI from h11)]
    rw [if_neg (show ¬ l = (WDM.getD 6 []).map nI from h14)]
    rw [if_neg (show ¬ l = (WDM.getD 7 []).map nI from h0)]
    rw [if_neg (show ¬ l = (WDM.getD 8 []).map nI from h1)]
    rw [if_neg (show ¬ l = (WDM.getD 9 []).map nI from h2)]
    rw [if_neg (show ¬ l = (WDM.getD 10 []).map nI from h3)]
    rw [if_neg (show ¬ l = (WDM.getD 11 []).map nI from h4)]
    rw [if_neg (show ¬ l = (WDM.getD 12 []).map nI from h6)]
    rw [if_neg (show ¬ l = (WDM.getD 13 []).map nI from h5)]
    rw [if_neg (show ¬ l = (WDM.getD 14 []).map nI from h7)]
  rw [a1, a2]; rfl
section MTOK
variable {X : XS} {d u : Nat} {D : DD} {J : JJ}
theorem bJ_e {x : Int64} {h : Hp} {k : Int64 → Hp → Option Rs} {s : Nat → Hp → Option Rs} : bJ (some (.inl (some (.long x)), h)) k s = k x h := rfl
def wdM (j : Nat) : Int64 := pkL ((WDM.getD j []).map nI)
theorem m_184_0 : EvM X d 184 [.int 97, .int 119, .int 97, .int 121, .int 0, .int 0, .int 0] (hS u D J) = some (.inl (some (.long (wdM 0))), hS u D J) := by
  refine (e184_0 _ _ _ _ _ _ _).trans ?_
  rw [brF (show ¬ (97 : Int32) = 0 by decide), e184_23, brF (show ¬ (121 : Int32) = 0 by decide), e184_34, brT (show (0 : Int32) = 0 from rfl), e184_45, brT (show (0 : Int32) = 0 from rfl), e184_56, brT (show (0 : Int32) = 0 from rfl), e184_67]
  exact congrArg (fun z => (some (.inl (some (.long z)), hS u D J) : Option Rs)) (by decide +kernel)
theorem m_184_1 : EvM X d 184 [.int 115, .int 117, .int 110, .int 100, .int 97, .int 121, .int 0] (hS u D J) = some (.inl (some (.long (wdM 1))), hS u D J) := by
  refine (e184_0 _ _ _ _ _ _ _).trans ?_
  rw [brF (show ¬ (110 : Int32) = 0 by decide), e184_23, brF (show ¬ (100 : Int32) = 0 by decide), e184_34, brF (show ¬ (97 : Int32) = 0 by decide), e184_45, brF (show ¬ (121 : Int32) = 0 by decide), e184_56, brT (show (0 : Int32) = 0 from rfl), e184_67]
  exact congrArg (fun z => (some (.inl (some (.long z)), hS u D J) : Option Rs)) (by decide +kernel)
theorem m_184_2 : EvM X d 184 [.int 97, .int 103, .int 101, .int 0, .int 0, .int 0, .int 0] (hS u D J) = some (.inl (some (.long (wdM 2))), hS u D J) := by
  refine (e184_0 _ _ _ _ _ _ _).trans ?_
  rw [brF (show ¬ (101 : Int32) = 0 by decide), e184_23, brT (show (0 : Int32) = 0 from rfl), e184_34, brT (show (0 : Int32) = 0 from rfl), e184_45, brT (show (0 : Int32) = 0 from rfl), e184_56, brT (show (0 : Int32) = 0 from rfl), e184_67]
  exact congrArg (fun z => (some (.inl (some (.long z)), hS u D J) : Option Rs)) (by decide +kernel)
theorem m_184_3 : EvM X d 184 [.int 112, .int 101, .int 119, .int 0, .int 0, .int 0, .int 0] (hS u D J) = some (.inl (some (.long (wdM 3))), hS u D J) := by
  refine (e184_0 _ _ _ _ _ _ _).trans ?_
  rw [brF (show ¬ (119 : Int32) = 0 by decide), e184_23, brT (show (0 : Int32) = 0 from rfl), e184_34, brT (show (0 : Int32) = 0 from rfl), e184_45, brT (show (0 : Int32) = 0 from rfl), e184_56, brT (show (0 : Int32) = 0 from rfl), e184_67]
  exact congrArg (fun z => (some (.inl (some (.long z)), hS u D J) : Option Rs)) (by decide +kernel)
theorem m_184_4 : EvM X d 184 [.int 115, .int 101, .int 97, .int 116, .int 0, .int 0, .int 0] (hS u D J) = some (.inl (some (.long (wdM 4))), hS u D J) := by
  refine (e184_0 _ _ _ _ _ _ _).trans ?_
  rw [brF (show ¬ (97 : Int32) = 0 by decide), e184_23, brF (show ¬ (116 : Int32) = 0 by decide), e184_34, brT (show (0 : Int32) = 0 from rfl), e184_45, brT (show (0 : Int32) = 0 from rfl), e184_56, brT (show (0 : Int32) = 0 from rfl), e184_67]
  exact congrArg (fun z => (some (.inl (some (.long z)), hS u D J) : Option Rs)) (by decide +kernel)
theorem m_184_5 : EvM X d 184 [.int 109, .int 111, .int 118, .int 101, .int 100, .int 0, .int 0] (hS u D J) = some (.inl (some (.long (wdM 5))), hS u D J) := by
  refine (e184_0 _ _ _ _ _ _ _).trans ?_
  rw [brF (show ¬ (118 : Int32) = 0 by decide), e184_23, brF (show ¬ (101 : Int32) = 0 by decide), e184_34, brF (show ¬ (100 : Int32) = 0 by decide), e184_45, brT (show (0 : Int32) = 0 from rfl), e184_56, brT (show (0 : Int32) = 0 from rfl), e184_67]
  exact congrArg (fun z => (some (.inl (some (.long z)), hS u D J) : Option Rs)) (by decide +kernel)
theorem m_184_6 : EvM X d 184 [.int 116, .int 104, .int 101, .int 105, .int 114, .int 115, .int 0] (hS u D J) = some (.inl (some (.long (wdM 6))), hS u D J) := by
  refine (e184_0 _ _ _ _ _ _ _).trans ?_
  rw [brF (show ¬ (101 : Int32) = 0 by decide), e184_23, brF (show ¬ (105 : Int32) = 0 by decide), e184_34, brF (show ¬ (114 : Int32) = 0 by decide), e184_45, brF (show ¬ (115 : Int32) = 0 by decide), e184_56, brT (show (0 : Int32) = 0 from rfl), e184_67]
  exact congrArg (fun z => (some (.inl (some (.long z)), hS u D J) : Option Rs)) (by decide +kernel)
theorem m_184_7 : EvM X d 184 [.int 112, .int 101, .int 114, .int 115, .int 111, .int 110, .int 0] (hS u D J) = some (.inl (some (.long (wdM 7))), hS u D J) := by
  refine (e184_0 _ _ _ _ _ _ _).trans ?_
  rw [brF (show ¬ (114 : Int32) = 0 by decide), e184_23, brF (show ¬ (115 : Int32) = 0 by decide), e184_34, brF (show ¬ (111 : Int32) = 0 by decide), e184_45, brF (show ¬ (110 : Int32) = 0 by decide), e184_56, brT (show (0 : Int32) = 0 from rfl), e184_67]
  exact congrArg (fun z => (some (.inl (some (.long z)), hS u D J) : Option Rs)) (by decide +kernel)
theorem m_184_8 : EvM X d 184 [.int 115, .int 101, .int 97, .int 116, .int 115, .int 0, .int 0] (hS u D J) = some (.inl (some (.long (wdM 8))), hS u D J) := by
  refine (e184_0 _ _ _ _ _ _ _).trans ?_
  rw [brF (show ¬ (97 : Int32) = 0 by decide), e184_23, brF (show ¬ (116 : Int32) = 0 by decide), e184_34, brF (show ¬ (115 : Int32) = 0 by decide), e184_45, brT (show (0 : Int32) = 0 from rfl), e184_56, brT (show (0 : Int32) = 0 from rfl), e184_67]
  exact congrArg (fun z => (some (.inl (some (.long z)), hS u D J) : Option Rs)) (by decide +kernel)
theorem m_184_9 : EvM X d 184 [.int 97, .int 114, .int 114, .int 105, .int 118, .int 101, .int 115] (hS u D J) = some (.inl (some (.long (wdM 9))), hS u D J) := by
  refine (e184_0 _ _ _ _ _ _ _).trans ?_
  rw [brF (show ¬ (114 : Int32) = 0 by decide), e184_23, brF (show ¬ (105 : Int32) = 0 by decide), e184_34, brF (show ¬ (118 : Int32) = 0 by decide), e184_45, brF (show ¬ (101 : Int32) = 0 by decide), e184_56, brF (show ¬ (115 : Int32) = 0 by decide), e184_67]
  exact congrArg (fun z => (some (.inl (some (.long z)), hS u D J) : Option Rs)) (by decide +kernel)
theorem m_184_10 : EvM X d 184 [.int 115, .int 117, .int 108, .int 107, .int 115, .int 0, .int 0] (hS u D J) = some (.inl (some (.long (wdM 10))), hS u D J) := by
  refine (e184_0 _ _ _ _ _ _ _).trans ?_
  rw [brF (show ¬ (108 : Int32) = 0 by decide), e184_23, brF (show ¬ (107 : Int32) = 0 by decide), e184_34, brF (show ¬ (115 : Int32) = 0 by decide), e184_45, brT (show (0 : Int32) = 0 from rfl), e184_56, brT (show (0 : Int32) = 0 from rfl), e184_67]
  exact congrArg (fun z => (some (.inl (some (.long z)), hS u D J) : Option Rs)) (by decide +kernel)
theorem m_184_11 : EvM X d 184 [.int 109, .int 105, .int 110, .int 100, .int 115, .int 0, .int 0] (hS u D J) = some (.inl (some (.long (wdM 11))), hS u D J) := by
  refine (e184_0 _ _ _ _ _ _ _).trans ?_
  rw [brF (show ¬ (110 : Int32) = 0 by decide), e184_23, brF (show ¬ (100 : Int32) = 0 by decide), e184_34, brF (show ¬ (115 : Int32) = 0 by decide), e184_45, brT (show (0 : Int32) = 0 from rfl), e184_56, brT (show (0 : Int32) = 0 from rfl), e184_67]
  exact congrArg (fun z => (some (.inl (some (.long z)), hS u D J) : Option Rs)) (by decide +kernel)
theorem m_184_12 : EvM X d 184 [.int 97, .int 110, .int 100, .int 0, .int 0, .int 0, .int 0] (hS u D J) = some (.inl (some (.long (wdM 12))), hS u D J) := by
  refine (e184_0 _ _ _ _ _ _ _).trans ?_
  rw [brF (show ¬ (100 : Int32) = 0 by decide), e184_23, brT (show (0 : Int32) = 0 from rfl), e184_34, brT (show (0 : Int32) = 0 from rfl), e184_45, brT (show (0 : Int32) = 0 from rfl), e184_56, brT (show (0 : Int32) = 0 from rfl), e184_67]
  exact congrArg (fun z => (some (.inl (some (.long z)), hS u D J) : Option Rs)) (by decide +kernel)
theorem m_184_13 : EvM X d 184 [.int 111, .int 114, .int 0, .int 0, .int 0, .int 0, .int 0] (hS u D J) = some (.inl (some (.long (wdM 13))), hS u D J) := by
  refine (e184_0 _ _ _ _ _ _ _).trans ?_
  rw [brT (show (0 : Int32) = 0 from rfl), e184_23, brT (show (0 : Int32) = 0 from rfl), e184_34, brT (show (0 : Int32) = 0 from rfl), e184_45, brT (show (0 : Int32) = 0 from rfl), e184_56, brT (show (0 : Int32) = 0 from rfl), e184_67]
  exact congrArg (fun z => (some (.inl (some (.long z)), hS u D J) : Option Rs)) (by decide +kernel)
theorem m_184_14 : EvM X d 184 [.int 110, .int 111, .int 116, .int 0, .int 0, .int 0, .int 0] (hS u D J) = some (.inl (some (.long (wdM 14))), hS u D J) := by
  refine (e184_0 _ _ _ _ _ _ _).trans ?_
  rw [brF (show ¬ (116 : Int32) = 0 by decide), e184_23, brT (show (0 : Int32) = 0 from rfl), e184_34, brT (show (0 : Int32) = 0 from rfl), e184_45, brT (show (0 : Int32) = 0 from rfl), e184_56, brT (show (0 : Int32) = 0 from rfl), e184_67]
  exact congrArg (fun z => (some (.inl (some (.long z)), hS u D J) : Option Rs)) (by decide +kernel)
theorem m_185 : ∀ j, j < 15 → EvM X (d + 1) 185 [.int (nI j)] (hS u D J) = some (.inl (some (.long (wdM j))), hS u D J)
  | 0, _ => by
    refine (e185_0 _).trans ?_
    rw [brT (show nI 0 = 0 from rfl), m_184_0, bJ_e, e185_10]
  | 1, _ => by
    refine (e185_0 _).trans ?_
    rw [brF (show ¬ nI 1 = 0 by decide), brT (show nI 1 = 1 from rfl), m_184_1, bJ_e, e185_19]
  | 2, _ => by
    refine (e185_0 _).trans ?_
    rw [brF (show ¬ nI 2 = 0 by decide), brF (show ¬ nI 2 = 1 by decide), brT (show nI 2 = 2 from rfl), m_184_2, bJ_e, e185_28]
  | 3, _ => by
    refine (e185_0 _).trans ?_
    rw [brF (show ¬ nI 3 = 0 by decide), brF (show ¬ nI 3 = 1 by decide), brF (show ¬ nI 3 = 2 by decide), brT (show nI 3 = 3 from rfl), m_184_3, bJ_e, e185_37]
  | 4, _ => by
    refine (e185_0 _).trans ?_
    rw [brF (show ¬ nI 4 = 0 by decide), brF (show ¬ nI 4 = 1 by decide), brF (show ¬ nI 4 = 2 by decide), brF (show ¬ nI 4 = 3 by decide), brT (show nI 4 = 4 from rfl), m_184_4, bJ_e, e185_46]
  | 5, _ => by
    refine (e185_0 _).trans ?_
    rw [brF (show ¬ nI 5 = 0 by decide), brF (show ¬ nI 5 = 1 by decide), brF (show ¬ nI 5 = 2 by decide), brF (show ¬ nI 5 = 3 by decide), brF (show ¬ nI 5 = 4 by decide), brT (show nI 5 = 5 from rfl), m_184_5, bJ_e, e185_55]
  | 6, _ => by
    refine (e185_0 _).trans ?_
    rw [brF (show ¬ nI 6 = 0 by decide), brF (show ¬ nI 6 = 1 by decide), brF (show ¬ nI 6 = 2 by decide), brF (show ¬ nI 6 = 3 by decide), brF (show ¬ nI 6 = 4 by decide), brF (show ¬ nI 6 = 5 by decide), brT (show nI 6 = 6 from rfl), m_184_6, bJ_e, e185_64]
  | 7, _ => by
    refine (e185_0 _).trans ?_
    rw [brF (show ¬ nI 7 = 0 by decide), brF (show ¬ nI 7 = 1 by decide), brF (show ¬ nI 7 = 2 by decide), brF (show ¬ nI 7 = 3 by decide), brF (show ¬ nI 7 = 4 by decide), brF (show ¬ nI 7 = 5 by decide), brF (show ¬ nI 7 = 6 by decide), brT (show nI 7 = 7 from rfl), m_184_7, bJ_e, e185_73]
  | 8, _ => by
    refine (e185_0 _).trans ?_
    rw [brF (show ¬ nI 8 = 0 by decide), brF (show ¬ nI 8 = 1 by decide), brF (show ¬ nI 8 = 2 by decide), brF (show ¬ nI 8 = 3 by decide), brF (show ¬ nI 8 = 4 by decide), brF (show ¬ nI 8 = 5 by decide), brF (show ¬ nI 8 = 6 by decide), brF (show ¬ nI 8 = 7 by decide), brT (show nI 8 = 8 from rfl), m_184_8, bJ_e, e185_82]
  | 9, _ => by
    refine (e185_0 _).trans ?_
    rw [brF (show ¬ nI 9 = 0 by decide), brF (show ¬ nI 9 = 1 by decide), brF (show ¬ nI 9 = 2 by decide), brF (show ¬ nI 9 = 3 by decide), brF (show ¬ nI 9 = 4 by decide), brF (show ¬ nI 9 = 5 by decide), brF (show ¬ nI 9 = 6 by decide), brF (show ¬ nI 9 = 7 by decide), brF (show ¬ nI 9 = 8 by decide), brT (show nI 9 = 9 from rfl), m_184_9, bJ_e, e185_91]
  | 10, _ => by
    refine (e185_0 _).trans ?_
    rw [brF (show ¬ nI 10 = 0 by decide), brF (show ¬ nI 10 = 1 by decide), brF (show ¬ nI 10 = 2 by decide), brF (show ¬ nI 10 = 3 by decide), brF (show ¬ nI 10 = 4 by decide), brF (show ¬ nI 10 = 5 by decide), brF (show ¬ nI 10 = 6 by decide), brF (show ¬ nI 10 = 7 by decide), brF (show ¬ nI 10 = 8 by decide), brF (show ¬ nI 10 = 9 by decide), brT (show nI 10 = 10 from rfl), m_184_10, bJ_e, e185_100]
  | 11, _ => by
    refine (e185_0 _).trans ?_
    rw [brF (show ¬ nI 11 = 0 by decide), brF (show ¬ nI 11 = 1 by decide), brF (show ¬ nI 11 = 2 by decide), brF (show ¬ nI 11 = 3 by decide), brF (show ¬ nI 11 = 4 by decide), brF (show ¬ nI 11 = 5 by decide), brF (show ¬ nI 11 = 6 by decide), brF (show ¬ nI 11 = 7 by decide), brF (show ¬ nI 11 = 8 by decide), brF (show ¬ nI 11 = 9 by decide), brF (show ¬ nI 11 = 10 by decide), brT (show nI 11 = 11 from rfl), m_184_11, bJ_e, e185_109]
  | 12, _ => by
    refine (e185_0 _).trans ?_
    rw [brF (show ¬ nI 12 = 0 by decide), brF (show ¬ nI 12 = 1 by decide), brF (show ¬ nI 12 = 2 by decide), brF (show ¬ nI 12 = 3 by decide), brF (show ¬ nI 12 = 4 by decide), brF (show ¬ nI 12 = 5 by decide), brF (show ¬ nI 12 = 6 by decide), brF (show ¬ nI 12 = 7 by decide), brF (show ¬ nI 12 = 8 by decide), brF (show ¬ nI 12 = 9 by decide), brF (show ¬ nI 12 = 10 by decide), brF (show ¬ nI 12 = 11 by decide), brT (show nI 12 = 12 from rfl), m_184_12, bJ_e, e185_118]
  | 13, _ => by
    refine (e185_0 _).trans ?_
    rw [brF (show ¬ nI 13 = 0 by decide), brF (show ¬ nI 13 = 1 by decide), brF (show ¬ nI 13 = 2 by decide), brF (show ¬ nI 13 = 3 by decide), brF (show ¬ nI 13 = 4 by decide), brF (show ¬ nI 13 = 5 by decide), brF (show ¬ nI 13 = 6 by decide), brF (show ¬ nI 13 = 7 by decide), brF (show ¬ nI 13 = 8 by decide), brF (show ¬ nI 13 = 9 by decide), brF (show ¬ nI 13 = 10 by decide), brF (show ¬ nI 13 = 11 by decide), brF (show ¬ nI 13 = 12 by decide), brT (show nI 13 = 13 from rfl), m_184_13, bJ_e, e185_127]
  | 14, _ => by
    refine (e185_0 _).trans ?_
    rw [brF (show ¬ nI 14 = 0 by decide), brF (show ¬ nI 14 = 1 by decide), brF (show ¬ nI 14 = 2 by decide), brF (show ¬ nI 14 = 3 by decide), brF (show ¬ nI 14 = 4 by decide), brF (show ¬ nI 14 = 5 by decide), brF (show ¬ nI 14 = 6 by decide), brF (show ¬ nI 14 = 7 by decide), brF (show ¬ nI 14 = 8 by decide), brF (show ¬ nI 14 = 9 by decide), brF (show ¬ nI 14 = 10 by decide), brF (show ¬ nI 14 = 11 by decide), brF (show ¬ nI 14 = 12 by decide), brF (show ¬ nI 14 = 13 by decide), m_184_14, bJ_e, e185_136]
  | j + 15, h => absurd h (by omega)
theorem m_kn {l : List Int32} {v : Int64} (hv : J 70 19 = v) (hl : ∀ j, j < 15 → (wdM j = v ↔ l = (WDM.getD j []).map nI)) : ∀ r j, j + r = 15 → Ev X (d + 2) 186 (12, [.ref 70, .int (nI j)], [], hS u D J) = some (.inl (some (.int (knL l r j))), hS u D J)
  | 0, j, h => by rw [e186_12, brT (show 15 ≤ nI j from nI_le (a := 15) (by omega) (by omega))]; rfl
  | r + 1, j, h => by
    rw [e186_12, brF (show ¬ 15 ≤ nI j from nI_ge (b := 15) (by omega) (by omega)), m_185 j (by omega), bJ_e, e186_17, hv, knL]
    by_cases e : wdM j = v
    · rw [brF (show ¬ ¬ lg_cmp (wdM j) v = 0 from fun z => z ((lg_cmp_eq _ _).mpr e)), if_pos ((hl j (by omega)).mp e)]
    · rw [brT (show ¬ lg_cmp (wdM j) v = 0 from fun z => e ((lg_cmp_eq _ _).mp z)), if_neg (fun z => e ((hl j (by omega)).mpr z)), nI_1]
      exact m_kn hv hl r (j + 1) (by omega)
end MTOK
