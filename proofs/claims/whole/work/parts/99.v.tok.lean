/-! ===== a text in tokens ===== -/
abbrev Tx : Type := Nat → Int32
def isLe (x : Int32) : Bool := !(decide (x < 97)) && !(decide (122 < x))
def isDi (x : Int32) : Bool := !(decide (x < 48)) && !(decide (57 < x))
def isBl (x : Int32) : Bool := decide (x = 32) || decide (x = 10)
def isS9 (x : Int32) : Bool := decide (x = 59) || decide (x = 40) || decide (x = 41) || decide (x = 43) || decide (x = 45) || decide (x = 42) || decide (x = 47) || decide (x = 60) || decide (x = 61)
def runT (P : Int32 → Bool) (t : Tx) : Nat → Nat → Nat
  | 0, i => i
  | f + 1, i => if P (t i) = true then runT P t f (i + 1) else i
theorem runT_b (P : Int32 → Bool) (t : Tx) : ∀ f i, i ≤ runT P t f i ∧ runT P t f i ≤ i + f
  | 0, i => ⟨Nat.le_refl _, Nat.le_refl _⟩
  | f + 1, i => by
    have h := runT_b P t f (i + 1)
    rw [runT]
    split <;> omega
theorem runT_in (P : Int32 → Bool) (t : Tx) : ∀ f i j, i ≤ j → j < runT P t f i → P (t j) = true
  | 0, i, j, h1, h2 => by
    have h2 : j < i := h2
    omega
  | f + 1, i, j, h1, h2 => by
    rw [runT] at h2
    by_cases h : P (t i) = true
    · rw [if_pos h] at h2
      by_cases e : j = i
      · rw [e]; exact h
      · exact runT_in P t f (i + 1) j (by omega) h2
    · rw [if_neg h] at h2; omega
theorem runT_out (P : Int32 → Bool) (t : Tx) : ∀ f i, runT P t f i < i + f → P (t (runT P t f i)) = false
  | 0, i, h => by
    have h : i < i + 0 := h
    omega
  | f + 1, i, h => by
    rw [runT] at h ⊢
    by_cases q : P (t i) = true
    · rw [if_pos q] at h ⊢
      exact runT_out P t f (i + 1) (by omega)
    · rw [if_neg q]; exact Bool.eq_false_iff.mpr q
def skN (t : Tx) (n i : Nat) : Nat := runT isBl t (n - i) i
def enN (t : Tx) (n i : Nat) : Nat := if isLe (t i) = true then runT isLe t (n - (i + 1)) (i + 1) else if isDi (t i) = true then runT isDi t (n - (i + 1)) (i + 1) else i + 1
def tkN (t : Tx) (n : Nat) : Nat → Nat
  | 0 => skN t n 0
  | k + 1 => if tkN t n k < n then skN t n (enN t n (tkN t n k)) else n
theorem sk_b {t : Tx} {n i : Nat} (h : i ≤ n) : i ≤ skN t n i ∧ skN t n i ≤ n := by
  have := runT_b isBl t (n - i) i
  unfold skN
  omega
theorem sk_n {t : Tx} {n : Nat} : skN t n n = n := by
  unfold skN
  rw [Nat.sub_self]; rfl
theorem sk_st {t : Tx} {n i : Nat} (h : i < n) (hk : isBl (t i) = true) : skN t n i = skN t n (i + 1) := by
  unfold skN
  obtain ⟨r, hr⟩ : ∃ r, n - i = r + 1 := ⟨n - i - 1, by omega⟩
  rw [hr, runT, if_pos hk, show n - (i + 1) = r by omega]
theorem sk_at {t : Tx} {n i : Nat} (h : i < n) (hk : isBl (t i) = false) : skN t n i = i := by
  unfold skN
  obtain ⟨r, hr⟩ : ∃ r, n - i = r + 1 := ⟨n - i - 1, by omega⟩
  rw [hr, runT, if_neg (by rw [hk]; exact Bool.false_ne_true)]
theorem sk_k {t : Tx} {n i : Nat} (h : i ≤ n) (hs : skN t n i < n) : isBl (t (skN t n i)) = false := runT_out isBl t (n - i) i (by
  have : skN t n i = runT isBl t (n - i) i := rfl
  omega)
theorem en_b {t : Tx} {n i : Nat} (h : i < n) : i + 1 ≤ enN t n i ∧ enN t n i ≤ n := by
  have h1 := runT_b isLe t (n - (i + 1)) (i + 1)
  have h2 := runT_b isDi t (n - (i + 1)) (i + 1)
  unfold enN
  split
  · omega
  · split <;> omega
theorem tk_le (t : Tx) (n : Nat) : ∀ k, tkN t n k ≤ n
  | 0 => (sk_b (Nat.zero_le n)).2
  | k + 1 => by
    rw [tkN]
    split
    · next h => exact (sk_b (en_b h).2).2
    · exact Nat.le_refl n
theorem tk_s {t : Tx} {n k : Nat} (h : tkN t n k < n) : tkN t n (k + 1) = skN t n (enN t n (tkN t n k)) := by rw [tkN, if_pos h]
theorem tk_lt {t : Tx} {n k : Nat} (h : tkN t n k < n) : tkN t n k + 1 ≤ enN t n (tkN t n k) ∧ enN t n (tkN t n k) ≤ tkN t n (k + 1) := by
  rw [tk_s h]
  exact ⟨(en_b h).1, (sk_b (en_b h).2).1⟩
theorem tk_k {t : Tx} {n : Nat} : ∀ {k : Nat}, tkN t n k < n → isBl (t (tkN t n k)) = false
  | 0, h => sk_k (Nat.zero_le n) h
  | k + 1, h => by
    by_cases q : tkN t n k < n
    · rw [tk_s q] at h ⊢
      exact sk_k (en_b q).2 h
    · rw [tkN, if_neg q] at h; omega
theorem tk_fin {t : Tx} {n k : Nat} (h : tkN t n k = n) : ∀ j, tkN t n (k + j) = n
  | 0 => h
  | j + 1 => by
    show tkN t n (k + j + 1) = n
    rw [tkN, if_neg (by rw [tk_fin h j]; omega)]
/-! words: by their letters -/
def ltL (t : Tx) : Nat → Nat → List Int32
  | 0, _ => []
  | k + 1, a => t a :: ltL t k (a + 1)
theorem ltL_len (t : Tx) : ∀ k a, (ltL t k a).length = k
  | 0, _ => rfl
  | k + 1, a => congrArg (· + 1) (ltL_len t k (a + 1))
def WDS : List (List Nat) := [[112, 101, 114, 115, 111, 110], [115, 101, 97, 116, 115], [97, 114, 114, 105, 118, 101, 115], [115, 117, 108, 107, 115], [109, 105, 110, 100, 115], [111, 114], [97, 110, 100], [110, 111, 116], [97, 103, 101], [112, 101, 119], [115, 101, 97, 116], [109, 111, 118, 101, 100], [97, 119, 97, 121], [115, 117, 110, 100, 97, 121], [116, 104, 101, 105, 114, 115]]
def ixW (l : List Int32) : List (List Nat) → Nat → Int32
  | [], _ => -1
  | w :: ws, i => if l = w.map nI then nI i else ixW l ws (i + 1)
def woL (t : Tx) (a b : Nat) : List Nat → Nat → Nat → Bool → Int32
  | [], _, _, _ => -1
  | c :: cs, w, nx, s => if nI c = 32 then (if s = true ∧ nx = b then nI w else woL t a b cs (w + 1) a true) else woL t a b cs w (nx + 1) (s && decide (nx < b) && decide (t nx = nI c))
theorem woL_w {t : Tx} {a b : Nat} (rest : List Nat) : ∀ (w1 : List Nat) (w nx : Nat) (s : Bool), (∀ c ∈ w1, nI c ≠ 32) → (s = true → nx ≤ b) →
    woL t a b (w1 ++ 32 :: rest) w nx s = if s = true ∧ ltL t (b - nx) nx = w1.map nI then nI w else woL t a b rest (w + 1) a true
  | [], w, nx, s, _, hs => by
    show (if nI 32 = 32 then _ else _) = _
    rw [if_pos (show nI 32 = 32 from rfl)]
    by_cases h : s = true
    · have hn := hs h
      by_cases e : nx = b
      · subst e
        rw [if_pos ⟨h, rfl⟩, if_pos ⟨h, by rw [Nat.sub_self]; rfl⟩]
      · rw [if_neg (fun z => e z.2), if_neg]
        intro z
        have := congrArg List.length z.2
        rw [ltL_len] at this
        simp at this
        omega
    · rw [if_neg (fun z => h z.1), if_neg (fun z => h z.1)]
  | c :: cs, w, nx, s, hw, hs => by
    show (if nI c = 32 then _ else woL t a b (cs ++ 32 :: rest) w (nx + 1) (s && decide (nx < b) && decide (t nx = nI c))) = _
    rw [if_neg (hw c List.mem_cons_self), woL_w rest cs w (nx + 1) _ (fun x hx => hw x (List.mem_cons_of_mem _ hx)) (fun z => by simp at z; omega)]
    by_cases h : s = true ∧ nx < b ∧ t nx = nI c
    · obtain ⟨h1, h2, h3⟩ := h
      have e : ltL t (b - nx) nx = t nx :: ltL t (b - (nx + 1)) (nx + 1) := by
        obtain ⟨r, hr⟩ : ∃ r, b - nx = r + 1 := ⟨b - nx - 1, by omega⟩
        rw [hr, ltL, show b - (nx + 1) = r by omega]
      rw [e, h3]
      simp only [h1, h2, h3, decide_true, Bool.and_self, List.map_cons, List.cons.injEq, true_and]
    · rw [if_neg, if_neg]
      · intro ⟨z1, z2⟩
        apply h
        have hn := hs z1
        by_cases q : nx < b
        · refine ⟨z1, q, ?_⟩
          obtain ⟨r, hr⟩ : ∃ r, b - nx = r + 1 := ⟨b - nx - 1, by omega⟩
          rw [hr, ltL, List.map_cons, List.cons.injEq] at z2
          exact z2.1
        · rw [show b - nx = 0 by omega] at z2
          cases z2
      · intro ⟨z1, z2⟩
        apply h
        simp at z1
        exact ⟨z1.1.1, z1.1.2, z1.2⟩
theorem woL_ws {t : Tx} {a b : Nat} (hab : a ≤ b) : ∀ (ws : List (List Nat)) (w : Nat), (∀ x ∈ ws, ∀ c ∈ x, nI c ≠ 32) → woL t a b (ws.flatMap (fun x => x ++ [32])) w a true = ixW (ltL t (b - a) a) ws w
  | [], w, _ => rfl
  | x :: ws, w, h => by
    rw [List.flatMap_cons, List.append_assoc]
    show woL t a b (x ++ 32 :: ws.flatMap (fun x => x ++ [32])) w a true = _
    rw [woL_w _ x w a true (h x List.mem_cons_self) (fun _ => hab), woL_ws hab ws (w + 1) (fun y hy => h y (List.mem_cons_of_mem _ hy)), ixW]
    by_cases e : ltL t (b - a) a = x.map nI
    · rw [if_pos ⟨rfl, e⟩, if_pos e]
    · rw [if_neg (fun z => e z.2), if_neg e]
theorem txt_w : txt 900001 = WDS.flatMap (fun x => x ++ [32]) := by decide +kernel
theorem txt_c : ∀ x ∈ WDS, ∀ c ∈ x, nI c ≠ 32 := by decide +kernel
theorem txt_l : (txt 900001).length = 82 := by decide +kernel
def wrN (t : Tx) (a b : Nat) : Int32 := ixW (ltL t (b - a) a) WDS 0
def dgT (t : Tx) : Nat → Nat → Int32 → Int32
  | 0, _, x => x
  | f + 1, j, x => dgT t f (j + 1) (x * 10 + t j - 48)
def nvN (t : Tx) (a b : Nat) : Int32 := if b - a ≤ 4 then dgT t (b - a) a 0 else 10000
def kdN (t : Tx) (n p : Nat) : Nat := if p < n then (if isLe (t p) = true then 1 else if isDi (t p) = true then 2 else if isS9 (t p) = true then 3 else 4) else 0
def tvl (t : Tx) (n p : Nat) : Int32 := if isLe (t p) = true then wrN t p (enN t n p) else if isDi (t p) = true then nvN t p (enN t n p) else t p
theorem LG {x : Int32} (h : isLe x = true) : isDi x = false := by
  unfold isLe at h
  unfold isDi
  simp only [Bool.and_eq_true, Bool.not_eq_true', decide_eq_false_iff_not] at h
  have : (57 : Int32) < x := Int32.lt_of_lt_of_le (by decide) (Int32.not_lt.mp h.1)
  rw [decide_eq_true this]; simp
theorem s9_all : ∀ a, a < 256 → ((nI a).toUInt32 % 65536).toInt32 = nI a ∧ decide (ixo (txt 900002) (nI a) 0 < 0) = !(isS9 (nI a)) ∧ 0 ≤ nI a ∧ nI a ≤ 65535 := by decide +kernel
theorem bI_e {x : Int32} {h : Hp} {k : Int32 → Hp → Option Rs} {s : Nat → Hp → Option Rs} : bI (some (.inl (some (.int x)), h)) k s = k x h := rfl
theorem b0F : bI32 false = 0 := rfl
theorem b1T : ¬ bI32 true = 0 := by decide
theorem bV_e {h : Hp} {k : Hp → Option Rs} {s : Nat → Hp → Option Rs} : bV (some (.inl none, h)) k s = k h := rfl
section SCAN
variable {X : XS} {d u : Nat} {D : DD} {J : JJ} {t : Tx} {n : Nat}
theorem c_68 (x : Int32) : EvM X d 68 [.int x] (hS u D J) = some (.inl (some (.int (bI32 (isLe x)))), hS u D J) := by
  refine (e68_0 x).trans ?_
  by_cases h1 : x < 97
  · rw [brT h1]; unfold isLe; rw [decide_eq_true h1]; rfl
  · rw [brF h1]
    by_cases h2 : 122 < x
    · rw [brT h2]; unfold isLe; rw [decide_eq_true h2, decide_eq_false h1]; rfl
    · rw [brF h2]; unfold isLe; rw [decide_eq_false h2, decide_eq_false h1]; rfl
theorem c_69 (x : Int32) : EvM X d 69 [.int x] (hS u D J) = some (.inl (some (.int (bI32 (isDi x)))), hS u D J) := by
  refine (e69_0 x).trans ?_
  by_cases h1 : x < 48
  · rw [brT h1]; unfold isDi; rw [decide_eq_true h1]; rfl
  · rw [brF h1]
    by_cases h2 : 57 < x
    · rw [brT h2]; unfold isDi; rw [decide_eq_true h2, decide_eq_false h1]; rfl
    · rw [brF h2]; unfold isDi; rw [decide_eq_false h2, decide_eq_false h1]; rfl
theorem c_enL (hn : n ≤ 700) (ht : ∀ i, i < n → D 1 i = t i) (x1 : Int32) : ∀ f j, j + f = n → Ev X (d + 1) 64 (16, [.ref 12, .int x1, .int (nI n), .int (nI j), .int 1, .int 0], [], hS u D J) = some (.inl (some (.int (nI (runT isLe t f j)))), hS u D J)
  | 0, j, h => by rw [e64_16, brT (nI_le (by omega) (by omega))]; rfl
  | f + 1, j, h => by
    rw [e64_16, brF (nI_ge (by omega) (by omega)), brF (show ¬ (1 : Int32) = 0 by decide), gd_t (ob_n (by omega) (by decide)), nI_clamp (by omega), ht j (by omega), c_68, bI_e, e64_26, runT]
    by_cases q : isLe (t j) = true
    · rw [q, brT (show ¬ bI32 true = 0 from b1T), if_pos rfl, nI_1]; exact c_enL hn ht x1 f (j + 1) (by omega)
    · rw [Bool.eq_false_iff.mpr q, brF (show ¬ ¬ bI32 false = 0 from fun z => z b0F), brT (show (0 : Int32) = 0 from rfl), if_neg (by decide)]
theorem c_enG (hn : n ≤ 700) (ht : ∀ i, i < n → D 1 i = t i) (x1 : Int32) : ∀ f j, j + f = n → Ev X (d + 1) 64 (16, [.ref 12, .int x1, .int (nI n), .int (nI j), .int 0, .int 1], [], hS u D J) = some (.inl (some (.int (nI (runT isDi t f j)))), hS u D J)
  | 0, j, h => by rw [e64_16, brT (nI_le (by omega) (by omega))]; rfl
  | f + 1, j, h => by
    rw [e64_16, brF (nI_ge (by omega) (by omega)), brT (show (0 : Int32) = 0 from rfl), brF (show ¬ (1 : Int32) = 0 by decide), gd_t (ob_n (by omega) (by decide)), nI_clamp (by omega), ht j (by omega), c_69, bI_e, e64_34, runT]
    by_cases q : isDi (t j) = true
    · rw [q, brF b1T, if_pos rfl, nI_1]; exact c_enG hn ht x1 f (j + 1) (by omega)
    · rw [Bool.eq_false_iff.mpr q, brT b0F, if_neg (by decide)]
theorem c_end {i : Nat} (hn : n ≤ 700) (ht : ∀ i, i < n → D 1 i = t i) (hi : i < n) : EvM X (d + 1) 64 [.ref 12, .int (nI i), .int (nI n)] (hS u D J) = some (.inl (some (.int (nI (enN t n i)))), hS u D J) := by
  refine (e64_0 _ _).trans ?_
  rw [gd_t (ob_n (by omega) (by decide)), nI_clamp (by omega), ht i hi, c_68, bI_e, e64_9, gd_t (ob_n (by omega) (by decide)), nI_clamp (by omega), ht i hi, c_69, bI_e, e64_15, nI_1, enN]
  by_cases h1 : isLe (t i) = true
  · rw [h1, LG h1, if_pos rfl]; exact c_enL hn ht _ _ _ (by omega)
  · rw [if_neg h1, Bool.eq_false_iff.mpr h1]
    by_cases h2 : isDi (t i) = true
    · rw [h2, if_pos rfl]; exact c_enG hn ht _ _ _ (by omega)
    · rw [if_neg h2, Bool.eq_false_iff.mpr h2]
      show Ev X (d + 1) 64 (16, [.ref 12, .int (nI i), .int (nI n), .int (nI (i + 1)), .int 0, .int 0], [], hS u D J) = _
      rw [e64_16]
      by_cases h3 : nI n ≤ nI (i + 1)
      · rw [brT h3]
      · rw [brF h3, brT (show (0 : Int32) = 0 from rfl), brT (show (0 : Int32) = 0 from rfl)]
theorem c_wo {a b : Nat} (hb : b ≤ 700) (ht : ∀ i, i < b → D 1 i = t i) : ∀ r i w nx (s : Bool), i + r = 82 → w ≤ i → nx ≤ a + i → a ≤ 700 → Ev X d 66 (8, [.ref 12, .int (nI a), .int (nI b), .int (nI w), .int (nI nx), .int (bI32 s), .int (nI i)], [], hS u D J) = some (.inl (some (.int (woL t a b ((txt 900001).drop i) w nx s))), hS u D J)
  | 0, i, w, nx, s, h, _, _, _ => by
    rw [e66_8, brT (by rw [txt_l]; exact nI_le (a := 82) (by omega) (by omega)), List.drop_of_length_le (by rw [txt_l]; omega)]; rfl
  | r + 1, i, w, nx, s, h, hw, hx, ha => by
    have hl : i < (txt 900001).length := by rw [txt_l]; omega
    have ed : (txt 900001).drop i = (txt 900001).getD i 0 :: (txt 900001).drop (i + 1) := by
      rw [List.drop_eq_getElem_cons hl, List.getD_eq_getElem?_getD, List.getElem?_eq_getElem hl]; rfl
    have ol : ob (nI i) (txt 900001).length = true := ob_n hl (by rw [txt_l]; decide)
    rw [e66_8, brF (by rw [txt_l]; exact nI_ge (b := 82) (by omega) (by omega)), gd_t ol, nI_clamp (by omega), ed, woL]
    generalize (txt 900001).getD i 0 = c
    by_cases hc : nI c = 32
    · rw [if_pos hc, brT (show Int32.ofNat c = 32 from hc)]
      by_cases hs : s = true
      · subst hs
        rw [brF b1T]
        by_cases e : nx = b
        · subst e
          rw [brF (show ¬ ¬ nI nx = nI nx from fun z => z rfl), if_pos ⟨rfl, rfl⟩]
        · rw [brT (show ¬ nI nx = nI b from fun z => e (nI_inj (by omega) (by omega) z)), if_neg (fun z => e z.2), nI_1, nI_1]
          exact c_wo hb ht r (i + 1) (w + 1) a true (by omega) (by omega) (by omega) ha
      · rw [Bool.eq_false_iff.mpr hs, brT b0F, if_neg (fun z => Bool.false_ne_true z.1), nI_1, nI_1]
        exact c_wo hb ht r (i + 1) (w + 1) a true (by omega) (by omega) (by omega) ha
    · rw [if_neg hc, brF (show ¬ Int32.ofNat c = 32 from hc), nI_1, nI_1]
      by_cases hs : s = true
      · subst hs
        rw [brF b1T]
        by_cases h2 : nx < b
        · rw [brF (nI_ge h2 (by omega)), gd_t (ob_n (by omega) (by decide)), gd_t ol, nI_clamp (by omega), ht nx h2]
          by_cases h3 : t nx = nI c
          · rw [brF (show ¬ ¬ t nx = Int32.ofNat c from fun z => z h3), decide_eq_true h2, decide_eq_true h3]
            exact c_wo hb ht r (i + 1) w (nx + 1) true (by omega) (by omega) (by omega) ha
          · rw [brT (show ¬ t nx = Int32.ofNat c from h3), decide_eq_false h3, Bool.and_false]
            exact c_wo hb ht r (i + 1) w (nx + 1) false (by omega) (by omega) (by omega) ha
        · rw [brT (nI_le (by omega) (by omega)), decide_eq_false h2, Bool.and_false, Bool.false_and]
          exact c_wo hb ht r (i + 1) w (nx + 1) false (by omega) (by omega) (by omega) ha
      · rw [Bool.eq_false_iff.mpr hs, brT b0F, Bool.false_and, Bool.false_and]
        exact c_wo hb ht r (i + 1) w (nx + 1) false (by omega) (by omega) (by omega) ha
theorem c_word {a b : Nat} (hb : b ≤ 700) (hab : a ≤ b) (ht : ∀ i, i < b → D 1 i = t i) : EvM X d 66 [.ref 12, .int (nI a), .int (nI b)] (hS u D J) = some (.inl (some (.int (wrN t a b))), hS u D J) := by
  refine (e66_0 _ _).trans ?_
  refine (c_wo (t := t) hb ht 82 0 0 a true rfl (by omega) (by omega) (by omega)).trans ?_
  rw [List.drop_zero, txt_w, woL_ws hab _ _ txt_c]; rfl
theorem c_nu {a b : Nat} (hb : b ≤ 700) (ht : ∀ i, i < b → D 1 i = t i) : ∀ f j (x : Int32), j + f = b → Ev X d 67 (11, [.ref 12, .int (nI a), .int (nI b), .int x, .int (nI j)], [], hS u D J) = some (.inl (some (.int (dgT t f j x))), hS u D J)
  | 0, j, x, h => by rw [e67_11, brT (nI_le (by omega) (by omega))]; rfl
  | f + 1, j, x, h => by
    rw [e67_11, brF (nI_ge (by omega) (by omega)), gd_t (ob_n (by omega) (by decide)), nI_clamp (by omega), ht j (by omega), nI_1]
    exact c_nu hb ht f (j + 1) _ (by omega)
theorem nI_nle4 {a : Nat} (h : 4 < a) (ha : a < 2 ^ 31) : ¬ nI a ≤ 4 := fun z => by
  have := (nI_leI ha (show 4 < 2 ^ 31 by decide)).mp z
  omega
theorem c_numb {a b : Nat} (hb : b ≤ 700) (hab : a ≤ b) (ht : ∀ i, i < b → D 1 i = t i) : EvM X d 67 [.ref 12, .int (nI a), .int (nI b)] (hS u D J) = some (.inl (some (.int (nvN t a b))), hS u D J) := by
  refine (e67_0 _ _).trans ?_
  rw [nI_sub hab, nvN]
  by_cases h : b - a ≤ 4
  · rw [brT (show nI (b - a) ≤ 4 from nI_le (b := 4) h (by decide)), if_pos h]; exact c_nu hb ht _ _ _ (by omega)
  · rw [brF (show ¬ nI (b - a) ≤ 4 from nI_nle4 (by omega) (by omega)), if_neg h]
theorem c_scanT {i m : Nat} (hn : n ≤ 700) (hby : byB t) (ht : ∀ i, i < n → D 1 i = t i) (hi : i < n) (hm : m ≤ 700) : EvM X (d + 1) 65 [.ref 12, .int (nI m), .int (nI i), .int (nI (enN t n i))] (hS u D J) = some (.inl none, hS u (ud (ud D 22 m (nI (kdN t n i))) 24 m (tvl t n i)) J) := by
  have he := (en_b (t := t) hi)
  have om : ob (nI m) 701 = true := ob_n (by omega) (by decide)
  refine (e65_0 _ _ _).trans ?_
  rw [gd_t (ob_n (by omega) (by decide)), nI_clamp (by omega), ht i hi, c_68, bI_e, e65_5, kdN, if_pos hi, tvl]
  by_cases h1 : isLe (t i) = true
  · rw [h1, brF b1T, if_pos rfl, if_pos rfl, gd_t om, nI_clamp (by omega), c_word (t := t) (by omega) (by omega) (fun j hj => by rw [ud_q (by decide)]; exact ht j (by omega)), bI_e, e65_18, gd_t om, nI_clamp (by omega)]; rfl
  · rw [if_neg h1, if_neg h1, Bool.eq_false_iff.mpr h1, brT b0F, gd_t (ob_n (by omega) (by decide)), nI_clamp (by omega), ht i hi, c_69, bI_e, e65_25]
    by_cases h2 : isDi (t i) = true
    · rw [h2, brF b1T, if_pos rfl, if_pos rfl, gd_t om, nI_clamp (by omega), c_numb (t := t) (by omega) (by omega) (fun j hj => by rw [ud_q (by decide)]; exact ht j (by omega)), bI_e, e65_38, gd_t om, nI_clamp (by omega)]; rfl
    · rw [if_neg h2, if_neg h2, Bool.eq_false_iff.mpr h2, brT b0F, gd_t (ob_n (by omega) (by decide)), nI_clamp (by omega), nI_clamp (by omega), ht i hi]
      obtain ⟨a, a1, a2⟩ := hby i
      obtain ⟨g1, g2, g3, g4⟩ := s9_all a a1
      rw [a2, show ((Int32.toUInt32 (nI a) % 65536).toInt32) = nI a from g1, decide_eq_true g3, decide_eq_true g4, gd_t (Bool.and_self true)]
      have u1 : ∀ v, ud D 22 m v 1 i = nI a := fun v => by rw [ud_q (by decide), ht i hi, a2]
      rw [g2]
      by_cases h3 : isS9 (nI a) = true
      · rw [h3, if_pos rfl]
        show gd (ob (nI m) 701) _ = _
        rw [gd_t om, gd_t (ob_n (by omega) (by decide)), gd_t om, u1]; rfl
      · rw [if_neg h3, Bool.eq_false_iff.mpr h3]
        show gd (ob (nI m) 701) _ = _
        rw [gd_t om, gd_t (ob_n (by omega) (by decide)), gd_t om, u1]; rfl
/-- the tokens lie in the reader's arrays -/
def TkA (t : Tx) (n m : Nat) (D : DD) : Prop := ∀ k, k < m → tkN t n k < n ∧ D 22 k = nI (kdN t n (tkN t n k)) ∧ D 23 k = nI (tkN t n k) ∧ D 24 k = tvl t n (tkN t n k)
def TkC (t : Tx) (n m : Nat) (D : DD) : Prop := m ≤ n ∧ tkN t n m = n ∧ TkA t n m D ∧ D 22 m = 0 ∧ D 23 m = nI n
def Fr3 (D D' : DD) : Prop := ∀ q, q ≠ 22 → q ≠ 23 → q ≠ 24 → D' q = D q
theorem c_scan (hn : n ≤ 700) (hby : byB t) (ht : ∀ i, i < n → D 1 i = t i) : Wp (EvM X (d + 2) 63 [.ref 12, .int (nI n)] (hS u D J)) (RV u J (fun D' => Fr3 D D' ∧ ∃ m, TkC t n m D')) := by
  refine wp_eq (e63_0 _) ?_
  refine wp_loop (R := fun i (a : DD × Nat × Nat) => Ev X (d + 2) 63 (6, [.ref 12, .int (nI n), .int (nI a.2.1), .int (nI a.2.2), .int (nI i)], [], hS u a.1 J)) (fun i (a : DD × Nat × Nat) => Fr3 D a.1 ∧ TkA t n a.2.1 a.1 ∧ a.2.1 ≤ i ∧ a.2.2 ≤ n ∧ (a.2.2 ≤ i → tkN t n a.2.1 = skN t n i) ∧ (i < a.2.2 → tkN t n a.2.1 = skN t n a.2.2)) n ?_ ?_ 0 (D, 0, 0) (Nat.zero_le _) ⟨fun _ _ _ _ => rfl, fun k hk => absurd hk (Nat.not_lt_zero k), Nat.le_refl _, Nat.zero_le _, fun _ => rfl, fun z => absurd z (Nat.not_lt_zero 0)⟩
  · intro i ⟨D1, m, b⟩ hi ⟨h1, h2, h3, h4, h5, h6⟩ ih
    dsimp only at h1 h2 h3 h4 h5 h6 ih ⊢
    have ht1 : ∀ j, j < n → D1 1 j = t j := fun j hj => by rw [h1 1 (by decide) (by decide) (by decide)]; exact ht j hj
    refine wp_eq (e63_6 _ _ _ _) (wp_f (nI_ge hi (by omega)) ?_)
    refine wp_if (fun q => ?_) (fun q => ?_)
    · have q := (nI_ltI (by omega) (by omega)).mp q
      rw [nI_1]
      refine ih (D1, m, b) ⟨h1, h2, by dsimp only; omega, h4, fun z => ?_, fun z => h6 q⟩
      rw [h6 q, show b = i + 1 by have z : b ≤ i + 1 := z; omega]
    · have q : b ≤ i := by
        rcases Nat.lt_or_ge i b with z | z
        · exact absurd (nI_lt z (by omega)) q
        · exact z
      have h5 := h5 q
      refine oG (by omega) (by decide) ?_
      rw [nI_clamp (by omega), ht1 i hi]
      have blank : isBl (t i) = true → Wp (Ev X (d + 2) 63 (6, [.ref 12, .int (nI n), .int (nI m), .int (nI b), .int (nI i + 1)], [], hS u D1 J)) (RV u J (fun D' => Fr3 D D' ∧ ∃ m, TkC t n m D')) := fun hk => by
        rw [nI_1]
        refine ih (D1, m, b) ⟨h1, h2, by dsimp only; omega, h4, fun _ => ?_, fun z => absurd z (by dsimp only; omega)⟩
        rw [h5, sk_st hi hk]
      refine wp_if (fun z => blank (by unfold isBl; rw [decide_eq_true z]; rfl)) (fun z1 => ?_)
      refine oG (by omega) (by decide) ?_
      refine wp_if (fun z => blank (by unfold isBl; rw [decide_eq_true z, Bool.or_true])) (fun z2 => ?_)
      have hk : isBl (t i) = false := by unfold isBl; rw [decide_eq_false z1, decide_eq_false z2]; rfl
      rw [sk_at hi hk] at h5
      have he := en_b (t := t) hi
      refine wp_iE (c_end hn ht1 hi) ?_
      refine wp_eq (e63_28 _ _ _ _ _) ?_
      refine oG (by omega) (by decide) ?_
      rw [nI_clamp (by omega)]
      refine wp_vE (c_scanT hn hby (fun j hj => by rw [ud_q (by decide)]; exact ht1 j hj) hi (by omega)) ?_
      refine wp_eq (e63_39 _ _ _ _) ?_
      rw [nI_1, nI_1]
      refine ih (ud (ud (ud D1 23 m (nI i)) 22 m (nI (kdN t n i))) 24 m (tvl t n i), m + 1, enN t n i) ⟨fun a a1 a2 a3 => ?_, fun k hk => ?_, by dsimp only; omega, he.2, fun z => ?_, fun z => ?_⟩
      · dsimp only
        rw [ud_q a3, ud_q a1, ud_q a2]; exact h1 a a1 a2 a3
      · have hk : k < m + 1 := hk
        dsimp only
        rw [ud_q (show (22 : Nat) ≠ 24 by decide), ud_q (show (23 : Nat) ≠ 24 by decide), ud_q (show (23 : Nat) ≠ 22 by decide)]
        by_cases e : k = m
        · subst e
          rw [h5, ud_at, ud_at, ud_at]
          exact ⟨hi, rfl, rfl, rfl⟩
        · rw [ud_k e, ud_k e, ud_k e, ud_q (by decide), ud_q (by decide), ud_q (by decide)]
          exact h2 k (by omega)
      · have z : enN t n i ≤ i + 1 := z
        dsimp only
        rw [tk_s (by rw [h5]; exact hi), h5, show enN t n i = i + 1 by omega]
      · dsimp only
        rw [tk_s (by rw [h5]; exact hi), h5]
  · intro ⟨D1, m, b⟩ ⟨h1, h2, h3, h4, h5, h6⟩
    dsimp only at h1 h2 h3 h4 h5 h6 ⊢
    have h5 := h5 h4
    rw [sk_n] at h5
    refine wp_eq (e63_6 _ _ _ _) (wp_t (nI_le (Nat.le_refl _) (by omega)) ?_)
    refine oG (by omega) (by decide) (oG (by omega) (by decide) ?_)
    rw [nI_clamp (by omega)]
    refine wp_rV ⟨fun a a1 a2 a3 => ?_, m, h3, h5, fun k hk => ?_, ?_, ?_⟩
    · rw [ud_q a2, ud_q a1]; exact h1 a a1 a2 a3
    · rw [ud_q (show (22 : Nat) ≠ 23 by decide), ud_q (show (24 : Nat) ≠ 23 by decide), ud_q (show (24 : Nat) ≠ 22 by decide), ud_k (show k ≠ m by omega), ud_k (show k ≠ m by omega), ud_q (show (23 : Nat) ≠ 22 by decide)]
      exact h2 k hk
    · rw [ud_q (by decide), ud_at]
    · rw [ud_at]
end SCAN
