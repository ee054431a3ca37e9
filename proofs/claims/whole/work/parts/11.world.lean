/-! ===== the abstract machine's heap over the machine's ===== -/
/-- the law's first new address; the tables' classes; the classes of int[], boolean[], long[]; the script's address; Strings' addresses -/
abbrev GC : Type := Nat × va_G × (ClassId × ClassId × ClassId) × Nat × (Nat → Nat)
def rho (G : GC) (p : Nat) : Nat := if p < aSCR then G.1 + p else if p = aSCR then G.2.2.2.1 else G.2.2.2.2 p
def rv (G : GC) (v : Value) : Value := match v with | .ref p => .ref (rho G p) | v => v
def cls12 : List vw_C := (List.range 12).map fun c => (cnm c, Tc c, Nf c)
def fvs (G : GC) (h : Hp) (i kd : Nat) (rf : List (Option Nat)) : List Value := (List.range (Nf kd)).map fun k => match tcode (tyc kd k) false with
  | 0 => .int (h.2.2.1 i k)
  | 1 => .long (h.2.2.2 i k)
  | _ => va_rf ((rf.getD k none).map (G.1 + ·))
def cE (G : GC) (h : Hp) (i : Nat) : va_E := match h.1[i]? with
  | some (kd, n, rf) => if kd = 12 then .inl (G.2.2.1.1, n, .inl (h.2.2.1 i)) else if kd = 13 then .inl (G.2.2.1.2.1, n, .inl (h.2.2.1 i)) else if kd = 14 then .inl (G.2.2.1.2.2, n, .inr (.inl (h.2.2.2 i))) else .inr (kd, fvs G h i kd rf)
  | none => .inr (0, [])
def wl (G : GC) (h : Hp) : va_W := (List.range h.1.length).map fun i => (G.1 + i, cE G h i)
def gA (G : GC) : Nat → Prop := fun q => G.1 ≤ q
/-- references lie below the script's place -/
def RFO (h : Hp) : Prop := ∀ (q kd n : Nat) (rf : List (Option Nat)) (k p : Nat), h.1[q]? = some (kd, n, rf) → rf[k]? = some (some p) → p < aSCR
def HW (G : GC) (h : Hp) (H : Heap) : Prop := va_P G.2.1 cls12 (wl G h) H ∧ h.1.length ≤ aSCR ∧ RFO h
def gT (G : GC) : List (ClassId × FieldType) := [(G.2.2.1.1, .int), (G.2.2.1.2.1, .boolean), (G.2.2.1.2.2, .long)]
theorem cls12_at {c : Nat} (hc : c < 12) : cls12[c]? = some (cnm c, Tc c, Nf c) := by
  simp only [cls12, List.getElem?_map, List.getElem?_range hc]; rfl
theorem wl_at {G : GC} {h : Hp} {i : Nat} (hi : i < h.1.length) : (wl G h)[i]? = some (G.1 + i, cE G h i) := by
  simp only [wl, List.getElem?_map, List.getElem?_range hi]; rfl
theorem wl_len {G : GC} {h : Hp} : (wl G h).length = h.1.length := by simp [wl]
theorem wl_D (G : GC) (h : Hp) : va_D (gA G) (wl G h) := by
  refine ⟨fun i j p q hi hj hpq => ?_, fun k q hk => ?_⟩
  · have li := (List.getElem?_eq_some_iff.mp hi).1
    have lj := (List.getElem?_eq_some_iff.mp hj).1
    rw [wl_len] at li lj
    rw [wl_at li] at hi
    rw [wl_at lj] at hj
    cases hi; cases hj
    dsimp only at hpq
    omega
  · have lk := (List.getElem?_eq_some_iff.mp hk).1
    rw [wl_len] at lk
    rw [wl_at lk] at hk
    cases hk
    exact Nat.le_add_right _ _
theorem rho_lt {G : GC} {p : Nat} (h : p < aSCR) : rho G p = G.1 + p := if_pos h
theorem rho_scr (G : GC) : rho G aSCR = G.2.2.2.1 := by simp [rho]
theorem cE_at {G : GC} {h : Hp} {i kd n : Nat} {rf : List (Option Nat)} (hc : h.1[i]? = some (kd, n, rf)) : cE G h i = if kd = 12 then .inl (G.2.2.1.1, n, .inl (h.2.2.1 i)) else if kd = 13 then .inl (G.2.2.1.2.1, n, .inl (h.2.2.1 i)) else if kd = 14 then .inl (G.2.2.1.2.2, n, .inr (.inl (h.2.2.2 i))) else .inr (kd, fvs G h i kd rf) := by
  simp only [cE, hc]
theorem cE_o {G : GC} {h : Hp} {i kd n : Nat} {rf : List (Option Nat)} (hc : h.1[i]? = some (kd, n, rf)) (hk : kd < 12) : cE G h i = .inr (kd, fvs G h i kd rf) := by
  rw [cE_at hc, if_neg (by omega), if_neg (by omega), if_neg (by omega)]
/-- one cell is another: the world with it -/
theorem wl_set {G : GC} {h h' : Hp} {i : Nat} (hl : h'.1.length = h.1.length) (hi : i < h.1.length) (ho : ∀ j, j ≠ i → cE G h' j = cE G h j) : (wl G h).set i (G.1 + i, cE G h' i) = wl G h' := by
  apply List.ext_getElem?
  intro j
  by_cases hj : j = i
  · subst hj
    rw [List.getElem?_set_self (by rw [wl_len]; exact hi), wl_at (by rw [hl]; exact hi)]
  · rw [List.getElem?_set_ne (Ne.symm hj)]
    by_cases hjl : j < h.1.length
    · rw [wl_at hjl, wl_at (by rw [hl]; exact hjl), ho j hj]
    · rw [List.getElem?_eq_none (by rw [wl_len]; omega), List.getElem?_eq_none (by rw [wl_len]; omega)]
theorem wl_push {G : GC} {h h' : Hp} (hl : h'.1.length = h.1.length + 1) (ho : ∀ j, j < h.1.length → cE G h' j = cE G h j) : wl G h ++ [(G.1 + h.1.length, cE G h' h.1.length)] = wl G h' := by
  apply List.ext_getElem?
  intro j
  by_cases hj : j < h.1.length
  · rw [List.getElem?_append_left (by rw [wl_len]; exact hj), wl_at hj, wl_at (by omega), ho j hj]
  · by_cases hj2 : j = h.1.length
    · subst hj2
      rw [List.getElem?_append_right (by rw [wl_len]; omega), wl_len, Nat.sub_self, wl_at (by omega)]
      rfl
    · rw [List.getElem?_eq_none (by rw [List.length_append, wl_len]; simp; omega), List.getElem?_eq_none (by rw [wl_len]; omega)]
theorem fvs_at {G : GC} {h : Hp} {i kd k : Nat} {rf : List (Option Nat)} (hk : k < Nf kd) : (fvs G h i kd rf)[k]? = some (match tcode (tyc kd k) false with
  | 0 => .int (h.2.2.1 i k)
  | 1 => .long (h.2.2.2 i k)
  | _ => va_rf ((rf.getD k none).map (G.1 + ·))) := by
  simp only [fvs, List.getElem?_map, List.getElem?_range hk]; rfl
theorem fvs_len {G : GC} {h : Hp} {i kd : Nat} {rf : List (Option Nat)} : (fvs G h i kd rf).length = Nf kd := by simp [fvs]
/-- stores: cells of the heap behind them -/
theorem cE_ud_ne {G : GC} {h : Hp} {q k j : Nat} {v : Int32} (hj : j ≠ q) : cE G (h.1, h.2.1, ud h.2.2.1 q k v, h.2.2.2) j = cE G h j := by
  have e : ∀ b, ud h.2.2.1 q k v j b = h.2.2.1 j b := fun b => by simp [ud, hj]
  simp only [cE, fvs, e]
  have e2 : ud h.2.2.1 q k v j = h.2.2.1 j := funext e
  rw [e2]
theorem cE_uj_ne {G : GC} {h : Hp} {q k j : Nat} {v : Int64} (hj : j ≠ q) : cE G (h.1, h.2.1, h.2.2.1, uj h.2.2.2 q k v) j = cE G h j := by
  have e : ∀ b, uj h.2.2.2 q k v j b = h.2.2.2 j b := fun b => by simp [uj, hj]
  simp only [cE, fvs, e]
  have e2 : uj h.2.2.2 q k v j = h.2.2.2 j := funext e
  rw [e2]
theorem ud_row {D : Nat → Nat → Int32} {q k : Nat} {v : Int32} : ud D q k v q = upd (D q) k v := by
  funext b
  simp [ud, upd]
theorem uj_row {D : Nat → Nat → Int64} {q k : Nat} {v : Int64} : uj D q k v q = vp_updL (D q) k v := by
  funext b
  simp [uj, vp_updL]
theorem HW.sz {G : GC} {h : Hp} {H : Heap} (w : HW G h H) (h0 : G.1 ≤ H.size) : G.1 + h.1.length ≤ H.size := by
  by_cases hn : h.1.length = 0
  · omega
  · have := (w.1 (h.1.length - 1) _ (wl_at (by omega))).lt
    dsimp only at this
    omega
theorem HW.q {G : GC} {h : Hp} {H : Heap} (w : HW G h H) {q kd n : Nat} {rf : List (Option Nat)} (hc : h.1[q]? = some (kd, n, rf)) : q < h.1.length ∧ rho G q = G.1 + q ∧ (wl G h)[q]? = some (G.1 + q, cE G h q) := by
  have h1 := (List.getElem?_eq_some_iff.mp hc).1
  exact ⟨h1, rho_lt (Nat.lt_of_lt_of_le h1 w.2.1), wl_at h1⟩
theorem HW.upd {G : GC} {h h' : Hp} {H H1 : Heap} (w : HW G h H) {q : Nat} (hq : q < h.1.length) (e1 : h'.1 = h.1) (ho : ∀ j, j ≠ q → cE G h' j = cE G h j) {x : va_E} (hx : cE G h' q = x) (hP : va_P G.2.1 cls12 ((wl G h).set q (G.1 + q, x)) H1) : HW G h' H1 := by
  subst hx
  rw [wl_set (by rw [e1]) hq ho] at hP
  exact ⟨hP, by rw [e1]; exact w.2.1, fun q kd n rf k p h1 h2 => w.2.2 q kd n rf k p (by rw [← e1]; exact h1) h2⟩
