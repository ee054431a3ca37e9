/-! ===== locals that are unknown (.null) may be anything of one word ===== -/
def lle : List Value → List Value → Prop
  | [], [] => True
  | a :: l, b :: m => (a = b ∨ (a = .null ∧ lng b = false)) ∧ lle l m
  | _, _ => False
theorem lle_rfl : ∀ l : List Value, lle l l
  | [] => trivial
  | _ :: l => ⟨Or.inl rfl, lle_rfl l⟩
theorem lle_len : ∀ {l m : List Value}, lle l m → l.length = m.length
  | [], [], _ => rfl
  | _ :: l, _ :: m, h => by rw [List.length_cons, List.length_cons, lle_len h.2]
theorem lle_get : ∀ {l m : List Value} {j : Nat} {v : Value}, lle l m → l[j]? = some v → v ≠ .null → m[j]? = some v
  | a :: l, b :: m, 0, v, h, h1, h2 => by
    simp only [List.getElem?_cons_zero, Option.some.injEq] at h1 ⊢
    rcases h.1 with q | q
    · rw [← q]; exact h1
    · exact absurd (h1.symm.trans q.1) h2
  | a :: l, b :: m, j + 1, v, h, h1, h2 => by
    rw [List.getElem?_cons_succ] at h1 ⊢
    exact lle_get h.2 h1 h2
theorem lle_lng : ∀ {l m : List Value} (j : Nat), lle l m → lng (l.getD j .null) = lng (m.getD j .null)
  | [], [], _, _ => rfl
  | a :: l, b :: m, 0, h => by
    rcases h.1 with q | ⟨q, r⟩
    · show lng a = lng b
      rw [q]
    · show lng a = lng b
      rw [q, r]; rfl
  | a :: l, b :: m, j + 1, h => by
    show lng (l.getD j .null) = lng (m.getD j .null)
    exact lle_lng j h.2
theorem lle_set : ∀ {l m : List Value} (j : Nat) (v : Value), lle l m → lle (l.set j v) (m.set j v)
  | [], [], _, _, _ => trivial
  | _ :: _, _ :: _, 0, _, h => ⟨Or.inl rfl, h.2⟩
  | _ :: _, _ :: _, j + 1, v, h => ⟨h.1, lle_set j v h.2⟩
theorem lle_map : ∀ {l m : List Value}, lle l m → lle (l.map fun v => cond (lng v) .null v) (m.map fun v => cond (lng v) .null v)
  | [], [], _ => trivial
  | a :: l, b :: m, h => by
    refine ⟨?_, lle_map h.2⟩
    rcases h.1 with q | ⟨q, r⟩
    · exact Or.inl (by rw [q])
    · refine Or.inr ⟨by rw [q]; rfl, ?_⟩
      show lng (cond (lng b) .null b) = false
      rw [r]; exact r
def sle (s t : FS) : Prop := s.1 = t.1 ∧ lle s.2.1 t.2.1 ∧ s.2.2 = t.2.2
def blle : List (Bool × FS) → List (Bool × FS) → Prop
  | [], [] => True
  | a :: l, b :: m => a.1 = b.1 ∧ sle a.2 b.2 ∧ blle l m
  | _, _ => False
def aw (a b : Act) : Prop := match a with
  | .inl l1 => l1 = [] ∨ ∃ l2, b = .inl l2 ∧ blle l1 l2
  | .inr (.inl x) => b = .inr (.inl x)
  | .inr (.inr (c, rk, (i, ls, st), hs)) => ∃ ls', b = .inr (.inr (c, rk, (i, ls', st), hs)) ∧ lle ls ls'
theorem aw_stk {b : Act} : aw stk b := Or.inl rfl
theorem sle_mk {i : Nat} {ls ls' st : List Value} {h : Hp} (hl : lle ls ls') : sle (i, ls, st, h) (i, ls', st, h) := ⟨rfl, hl, rfl⟩
theorem aw_go {i : Nat} {ls ls' st : List Value} {h : Hp} (hl : lle ls ls') : aw (go1 (i, ls, st, h)) (go1 (i, ls', st, h)) := Or.inr ⟨_, rfl, rfl, sle_mk hl, trivial⟩
theorem aw_1 {b : Bool} {i : Nat} {ls ls' st : List Value} {h : Hp} (hl : lle ls ls') : aw (.inl [(b, (i, ls, st, h))]) (.inl [(b, (i, ls', st, h))]) := Or.inr ⟨_, rfl, rfl, sle_mk hl, trivial⟩
theorem aw_2 {b b2 : Bool} {i i2 : Nat} {ls ls' st st2 : List Value} {h h2 : Hp} (hl : lle ls ls') : aw (.inl [(b, (i, ls, st, h)), (b2, (i2, ls, st2, h2))]) (.inl [(b, (i, ls', st, h)), (b2, (i2, ls', st2, h2))]) := Or.inr ⟨_, rfl, rfl, sle_mk hl, rfl, sle_mk hl, trivial⟩
theorem aw_r {x : Bool × Rs} : aw (.inr (.inl x)) (.inr (.inl x)) := rfl
theorem aw_c {b : Bool} {a1 a2 c1 c2 : Act} (h1 : aw a1 c1) (h2 : aw a2 c2) : aw (cond b a1 a2) (cond b c1 c2) := by cases b <;> assumption
theorem aw_pI {st : List Value} {k k' : Int32 → List Value → Act} (h : ∀ x r, aw (k x r) (k' x r)) : aw (pI st k) (pI st k') := by
  unfold pI
  rcases st with _ | ⟨v, r⟩
  · exact aw_stk
  · cases v <;> first | exact h _ _ | exact aw_stk
theorem aw_pR {st : List Value} {k k' : Nat → List Value → Act} (h : ∀ x r, aw (k x r) (k' x r)) : aw (pR st k) (pR st k') := by
  unfold pR
  rcases st with _ | ⟨v, r⟩
  · exact aw_stk
  · cases v <;> first | exact h _ _ | exact aw_stk
theorem aw_pJ {st : List Value} {k k' : Int64 → List Value → Act} (h : ∀ x r, aw (k x r) (k' x r)) : aw (pJ st k) (pJ st k') := by
  unfold pJ
  rcases st with _ | ⟨v, r⟩
  · exact aw_stk
  · cases v <;> first | exact h _ _ | exact aw_stk
theorem aw_gI {ls ls' : List Value} {j : Nat} {k k' : Int32 → Act} (hl : lle ls ls') (h : ∀ x, aw (k x) (k' x)) : aw (gI ls j k) (gI ls' j k') := by
  unfold gI
  split
  · next x hx =>
    rw [lle_get hl hx (by simp)]
    exact h x
  · exact aw_stk
theorem aw_gR {ls ls' : List Value} {j : Nat} {k k' : Nat → Act} (hl : lle ls ls') (h : ∀ x, aw (k x) (k' x)) : aw (gR ls j k) (gR ls' j k') := by
  unfold gR
  split
  · next x hx =>
    rw [lle_get hl hx (by simp)]
    exact h x
  · exact aw_stk
theorem aw_gJ {ls ls' : List Value} {j : Nat} {k k' : Int64 → Act} (hl : lle ls ls') (h : ∀ x, aw (k x) (k' x)) : aw (gJ ls j k) (gJ ls' j k') := by
  unfold gJ
  split
  · next x hx =>
    rw [lle_get hl hx (by simp)]
    exact h x
  · exact aw_stk
theorem aw_sto {ls ls' : List Value} {j : Nat} {v : Value} {k k' : List Value → Act} (hl : lle ls ls') (h : ∀ l l', lle l l' → aw (k l) (k' l')) : aw (sto ls j v k) (sto ls' j v k') := by
  unfold sto
  rw [lle_len hl, lle_lng _ hl]
  exact aw_c (h _ _ (lle_set j v hl)) aw_stk
theorem aw_stoJ {ls ls' : List Value} {j : Nat} {v : Value} {k k' : List Value → Act} (hl : lle ls ls') (h : ∀ l l', lle l l' → aw (k l) (k' l')) : aw (stoJ ls j v k) (stoJ ls' j v k') := by
  unfold stoJ
  rw [lle_len hl, lle_lng _ hl]
  exact aw_c (h _ _ (lle_set _ _ (lle_set j v hl))) aw_stk
theorem aw_cel {h : Hp} {q : Nat} {k k' : Nat → Nat → List (Option Nat) → Act} (hk : ∀ a b c, aw (k a b c) (k' a b c)) : aw (cel h q k) (cel h q k') := by
  unfold cel
  split
  · exact hk _ _ _
  · exact aw_stk
theorem blle_swt {x : Int32} {f f' : Nat → FS} {d : Nat} (h : ∀ t, sle (f t) (f' t)) : ∀ tl : List Nat, blle (swt x f d tl) (swt x f' d tl)
  | [] => ⟨rfl, h d, trivial⟩
  | [_] => ⟨rfl, h d, trivial⟩
  | _ :: t :: l => ⟨rfl, h t, blle_swt h l⟩
theorem aw_swt {x : Int32} {f f' : Nat → FS} {d : Nat} (h : ∀ t, sle (f t) (f' t)) (tl : List Nat) : aw (.inl (swt x f d tl)) (.inl (swt x f' d tl)) := Or.inr ⟨_, rfl, blle_swt h tl⟩
theorem aw_inv {X : XS} {a b : Nat} {tl : List Nat} {i : Nat} {ls ls' st : List Value} {h : Hp} (hl : lle ls ls') : aw (inv X a b tl i ls st h) (inv X a b tl i ls' st h) := aw_c ⟨ls', rfl, hl⟩ aw_stk
theorem aw_ntv {a i : Nat} {ls ls' st : List Value} {h : Hp} (r : lle ls ls') : aw (ntv a i ls st h) (ntv a i ls' st h) := by
  unfold ntv
  refine aw_c ?_ aw_stk
  split
  · exact aw_pI fun _ _ => aw_pI fun _ _ => aw_go r
  · exact aw_pI fun _ _ => aw_pI fun _ _ => aw_go r
  · exact aw_pI fun _ _ => aw_go r
  · exact aw_pI fun _ _ => aw_pI fun _ _ => aw_pR fun _ _ => aw_pI fun _ _ => aw_pR fun _ _ => aw_cel fun _ _ _ => aw_cel fun _ _ _ => aw_c (aw_1 r) aw_stk
  · exact aw_pR fun _ _ => aw_c (aw_go r) aw_stk
  · exact aw_pI fun _ _ => aw_pR fun _ _ => aw_c (aw_1 r) aw_stk
  · exact aw_pI fun _ _ => aw_pR fun _ _ => aw_c (aw_1 r) aw_stk
  · exact aw_pR fun _ _ => aw_go r
  · exact aw_stk
theorem act_aw (X : XS) (ai : AIns) (i : Nat) (ls ls' st : List Value) (h : Hp) (r : lle ls ls') : aw (act X ai i ls st h) (act X ai i ls' st h) := by
  obtain ⟨ins, a, b, cv, tl⟩ := ai
  cases ins <;> first
    | exact aw_stk
    | exact aw_go r
    | exact aw_c (aw_go r) aw_stk
    | exact aw_c (aw_go r) (aw_c (aw_go r) aw_stk)
    | exact aw_gI r fun _ => aw_go r
    | exact aw_gJ r fun _ => aw_go r
    | exact aw_gR r fun _ => aw_go r
    | exact aw_pI fun _ _ => aw_sto r fun _ _ r => aw_go r
    | exact aw_pR fun _ _ => aw_sto r fun _ _ r => aw_go r
    | exact aw_pJ fun _ _ => aw_stoJ r fun _ _ r => aw_go r
    | exact aw_gI r fun _ => aw_sto r fun _ _ r => aw_go r
    | exact aw_pI fun _ _ => aw_pI fun _ _ => aw_go r
    | exact aw_pI fun _ _ => aw_pI fun _ _ => aw_1 r
    | exact aw_pI fun _ _ => aw_go r
    | exact aw_pJ fun _ _ => aw_pJ fun _ _ => aw_go r
    | exact aw_pI fun _ _ => aw_pJ fun _ _ => aw_go r
    | exact aw_pI fun _ _ => aw_2 r
    | exact aw_pI fun _ _ => aw_pI fun _ _ => aw_2 r
    | exact aw_pI fun _ _ => aw_swt (fun _ => sle_mk r) tl
    | exact aw_pI fun _ _ => aw_pR fun _ _ => aw_c (aw_1 r) (aw_cel fun _ _ _ => aw_c (aw_1 r) aw_stk)
    | exact aw_pI fun _ _ => aw_pR fun _ _ => aw_cel fun _ _ _ => aw_c (aw_1 r) aw_stk
    | exact aw_pI fun _ _ => aw_pI fun _ _ => aw_pR fun _ _ => aw_cel fun _ _ _ => aw_c (aw_1 r) aw_stk
    | exact aw_pJ fun _ _ => aw_pI fun _ _ => aw_pR fun _ _ => aw_cel fun _ _ _ => aw_c (aw_1 r) aw_stk
    | exact aw_pR fun _ _ => aw_c (aw_go r) (aw_cel fun _ _ _ => aw_c (aw_go r) aw_stk)
    | exact aw_pI fun _ _ => aw_c (aw_go r) aw_stk
    | exact aw_c (aw_ntv r) (aw_inv r)
    | exact aw_c (aw_c aw_r aw_stk) (aw_c (aw_go r) aw_stk)
    | skip
  case dup =>
    simp only [act]; split
    · exact aw_go r
    · exact aw_go r
    · exact aw_stk
  case dup2 =>
    refine aw_pI fun _ _ => ?_
    split
    · exact aw_go r
    · exact aw_go r
    · exact aw_stk
  case getfield =>
    refine aw_pR fun _ _ => aw_cel fun _ _ _ => aw_c ?_ aw_stk
    split
    · exact aw_go r
    · exact aw_go r
    · split
      · exact aw_go r
      · exact aw_stk
    · exact aw_stk
  case putfield =>
    simp only [act]; split
    · exact aw_pI fun _ _ => aw_pR fun _ _ => aw_cel fun _ _ _ => aw_c (aw_go r) aw_stk
    · exact aw_pI fun _ _ => aw_pR fun _ _ => aw_cel fun _ _ _ => aw_c (aw_1 r) aw_stk
    · exact aw_pJ fun _ _ => aw_pR fun _ _ => aw_cel fun _ _ _ => aw_c (aw_go r) aw_stk
    · exact aw_pR fun _ _ => aw_pR fun _ _ => aw_cel fun _ _ _ => aw_c (aw_go r) aw_stk
    · exact aw_stk
  case invokevirtual =>
    refine aw_c (aw_ntv r) ?_
    split
    · exact aw_cel fun _ _ _ => aw_c (aw_inv r) aw_stk
    · exact aw_stk
  case invokespecial =>
    refine aw_c (aw_ntv r) ?_
    split
    · exact aw_inv r
    · exact aw_stk
  case ireturn =>
    refine aw_pI fun _ _ => ?_
    split
    · exact aw_r
    · exact aw_stk
  case lreturn =>
    refine aw_pJ fun _ _ => ?_
    split
    · exact aw_r
    · exact aw_stk
  case return_ =>
    simp only [act]; split
    · exact aw_r
    · exact aw_stk
theorem sel_aw {f g : FS → Option Rs} {r : Rs} (hf : ∀ s t, sle s t → f s = some r → g t = some r) : ∀ {l m : List (Bool × FS)}, blle l m → sel f l = some r → sel g m = some r
  | [], [], _, h => by cases h
  | (b, s) :: l, (c, t) :: m, hb, h => by
    obtain ⟨h1, h2, h3⟩ := hb
    have h1 : b = c := h1
    subst h1
    simp only [sel] at h ⊢
    split at h
    · next q => rw [if_pos q]; exact hf s t h2 h
    · next q => rw [if_neg q]; exact sel_aw hf h3 h
theorem thr_aw {f g : FS → Option Rs} {r : Rs} (hf : ∀ s t, sle s t → f s = some r → g t = some r) {ls ls' : List Value} (hl : lle ls ls') (e : Nat) (h : Hp) : ∀ (hs : List Nat), thr f ls e h hs = some r → thr g ls' e h hs = some r
  | a :: j :: k :: l, q => by
    simp only [thr] at q ⊢
    split at q
    · next he => rw [if_pos he]; exact hf _ _ (sle_mk (lle_set k .null (lle_map hl))) q
    · next he => rw [if_neg he]; exact thr_aw hf hl e h l q
  | [], q => q
  | [_], q => q
  | [_, _], q => q
theorem cnt_aw {f g : FS → Option Rs} {r : Rs} (hf : ∀ s t, sle s t → f s = some r → g t = some r) {ls ls' : List Value} (hl : lle ls ls') (rk i : Nat) (st : List Value) (hs : List Nat) (y : Option Rs) (q : cnt f rk i ls st hs y = some r) : cnt g rk i ls' st hs y = some r := by
  match rk with
  | 0 =>
    simp only [cnt] at q ⊢
    unfold bV at q ⊢
    split at q
    · exact hf _ _ (sle_mk hl) q
    · exact thr_aw hf hl _ _ _ q
    · cases q
  | 1 =>
    simp only [cnt] at q ⊢
    unfold bI at q ⊢
    split at q
    · exact hf _ _ (sle_mk hl) q
    · exact thr_aw hf hl _ _ _ q
    · cases q
  | k + 2 =>
    simp only [cnt] at q ⊢
    unfold bJ at q ⊢
    split at q
    · exact hf _ _ (sle_mk hl) q
    · exact thr_aw hf hl _ _ _ q
    · cases q
theorem ex_aw {f g : FS → Option Rs} {cl : Nat → List Value → Hp → Option Rs} {r : Rs} (hf : ∀ s t, sle s t → f s = some r → g t = some r) {a b : Act} (h : aw a b) (q : ex f cl a = some r) : ex g cl b = some r := by
  match a, h, q with
  | .inl l, h, q =>
    rcases h with hn | ⟨l2, e2, hb⟩
    · rw [hn] at q; cases q
    · rw [e2]; exact sel_aw hf hb q
  | .inr (.inl x), h, q =>
    have h : b = .inr (.inl x) := h
    rw [h]; exact q
  | .inr (.inr ((m, as, h0), rk, (i, ls, st), hs)), h, q =>
    obtain ⟨ls', rfl, hl⟩ := h
    exact cnt_aw hf hl rk i st hs _ q
theorem runF_weak (X : XS) (d m : Nat) (r : Rs) : ∀ (n : Nat) (s t : FS), sle s t → runF X n d m s = some r → runF X n d m t = some r := by
  intro n
  induction n with
  | zero => intro s t _ h; simp [runF] at h
  | succ n ih =>
    intro s t hs h
    obtain ⟨i, ls, st, hp⟩ := s
    obtain ⟨i', ls', st', hp'⟩ := t
    obtain ⟨h1, h2, h3⟩ := hs
    have h1 : i = i' := h1
    have h3 : (st, hp) = (st', hp') := h3
    cases h3
    subst h1
    rw [runF] at h ⊢
    cases hc : (code0 m)[i]? with
    | none => rw [hc] at h; cases h
    | some ai =>
      rw [hc] at h
      dsimp only at h ⊢
      exact ex_aw ih (act_aw X ai i ls ls' st hp h2) h
theorem Ev_weak {X : XS} {d m i : Nat} {ls ls' st : List Value} {h : Hp} {r : Rs} (hl : lle ls ls') (q : Ev X d m (i, ls, st, h) = some r) : Ev X d m (i, ls', st, h) = some r := by
  obtain ⟨n, hn⟩ := Ev_iff.mp q
  exact Ev_iff.mpr ⟨n, runF_weak X d m r n _ _ (sle_mk hl) hn⟩
/-! ===== runs over the shape SG: words, rules ===== -/
abbrev DD : Type := Nat → Nat → Int32
abbrev JJ : Type := Nat → Nat → Int64
def hS (u : Nat) (D : DD) (J : JJ) : Hp := (SG, u, D, J)
def gd (b : Bool) (r : Option Rs) : Option Rs := if b = true then r else none
def br (b : Bool) (r1 r2 : Option Rs) : Option Rs := if b = true then r1 else r2
noncomputable def EvM (X : XS) (d m : Nat) (as : List Value) (h : Hp) : Option Rs := Ev X d m (0, ent m as, [], h)
def isP (P : Nat) : Prop := P = 25 ∨ P = 31 ∨ P = 38
def isR (R : Nat) : Prop := R = 3 ∨ R = 13
def isA (A : Nat) : Prop := A = 46 ∨ A = 57
def isS (S : Nat) : Prop := S = 48 ∨ S = 59
def isH (H : Nat) : Prop := H = 26 ∨ H = 32 ∨ H = 39
def isW (W : Nat) : Prop := W = 85 ∨ W = 86
def isQ (Q n : Nat) : Prop := (Q = 21 ∧ n = 3) ∨ (Q = 26 ∧ n = 73) ∨ (Q = 28 ∧ n = 12) ∨ (Q = 34 ∧ n = 12) ∨ (Q = 41 ∧ n = 12) ∨ (Q = 53 ∧ n = 12) ∨ (Q = 54 ∧ n = 12) ∨ (Q = 64 ∧ n = 12) ∨ (Q = 65 ∧ n = 12)
/-- it comes to something, and that is so -/
def Wp (r : Option Rs) (Q : Rs → Prop) : Prop := ∃ y, r = some y ∧ Q y
def RV (u : Nat) (J : JJ) (Q : DD → Prop) : Rs → Prop := fun y => ∃ D' : DD, y = (.inl none, hS u D' J) ∧ Q D'
def RI (u : Nat) (J : JJ) (Q : Int32 → DD → Prop) : Rs → Prop := fun y => ∃ (x : Int32) (D' : DD), y = (.inl (some (.int x)), hS u D' J) ∧ Q x D'
theorem wp_eq {a b : Option Rs} {Q : Rs → Prop} (e : a = b) (h : Wp b Q) : Wp a Q := e ▸ h
theorem wp_mono {a : Option Rs} {Q Q' : Rs → Prop} (h : Wp a Q) (hq : ∀ y, Q y → Q' y) : Wp a Q' := h.imp fun y q => ⟨q.1, hq y q.2⟩
theorem wp_gd {b : Bool} {r : Option Rs} {Q : Rs → Prop} (hb : b = true) (h : Wp r Q) : Wp (gd b r) Q := by rw [hb]; exact h
theorem wp_br {b : Bool} {r1 r2 : Option Rs} {Q : Rs → Prop} (h1 : b = true → Wp r1 Q) (h2 : b = false → Wp r2 Q) : Wp (br b r1 r2) Q := by
  cases b with
  | true => exact h1 rfl
  | false => exact h2 rfl
theorem wp_if {p : Prop} [hd : Decidable p] {r1 r2 : Option Rs} {Q : Rs → Prop} (h1 : p → Wp r1 Q) (h2 : ¬ p → Wp r2 Q) : Wp (br (decide p) r1 r2) Q :=
  wp_br (fun h => h1 (of_decide_eq_true h)) (fun h => h2 (of_decide_eq_false h))
theorem wp_t {p : Prop} [hd : Decidable p] {r1 r2 : Option Rs} {Q : Rs → Prop} (hp : p) (h1 : Wp r1 Q) : Wp (br (decide p) r1 r2) Q := by rw [decide_eq_true hp]; exact h1
theorem wp_f {p : Prop} [hd : Decidable p] {r1 r2 : Option Rs} {Q : Rs → Prop} (hp : ¬ p) (h1 : Wp r2 Q) : Wp (br (decide p) r1 r2) Q := by rw [decide_eq_false hp]; exact h1
theorem wp_ret {y : Rs} {Q : Rs → Prop} (h : Q y) : Wp (some y) Q := ⟨y, rfl, h⟩
theorem wp_rV {u : Nat} {D : DD} {J : JJ} {Q : DD → Prop} (h : Q D) : Wp (some (.inl none, hS u D J)) (RV u J Q) := ⟨_, rfl, D, rfl, h⟩
theorem wp_rI {u : Nat} {x : Int32} {D : DD} {J : JJ} {Q : Int32 → DD → Prop} (h : Q x D) : Wp (some (.inl (some (.int x)), hS u D J)) (RI u J Q) := ⟨_, rfl, x, D, rfl, h⟩
theorem wp_cV {r : Option Rs} {u : Nat} {J : JJ} {P : DD → Prop} {k : Hp → Option Rs} {t : Nat → Hp → Option Rs} {Q : Rs → Prop} (h : Wp r (RV u J P)) (hk : ∀ D', P D' → Wp (k (hS u D' J)) Q) : Wp (bV r k t) Q := by
  obtain ⟨y, rfl, D', rfl, h⟩ := h
  exact hk D' h
theorem wp_cI {r : Option Rs} {u : Nat} {J : JJ} {P : Int32 → DD → Prop} {k : Int32 → Hp → Option Rs} {t : Nat → Hp → Option Rs} {Q : Rs → Prop} (h : Wp r (RI u J P)) (hk : ∀ x D', P x D' → Wp (k x (hS u D' J)) Q) : Wp (bI r k t) Q := by
  obtain ⟨y, rfl, x, D', rfl, h⟩ := h
  exact hk x D' h
theorem wp_weak {X : XS} {d m i : Nat} {ls ls' st : List Value} {h : Hp} {Q : Rs → Prop} (hl : lle ls ls') (q : Wp (Ev X d m (i, ls, st, h)) Q) : Wp (Ev X d m (i, ls', st, h)) Q := by
  obtain ⟨y, q1, q2⟩ := q
  exact ⟨y, Ev_weak hl q1, q2⟩
/-- a loop that counts up -/
theorem wp_loop {α : Type} {R : Nat → α → Option Rs} {Q : Rs → Prop} (I : Nat → α → Prop) (N : Nat) (step : ∀ i a, i < N → I i a → (∀ a', I (i + 1) a' → Wp (R (i + 1) a') Q) → Wp (R i a) Q) (fin : ∀ a, I N a → Wp (R N a) Q) : ∀ (i : Nat) (a : α), i ≤ N → I i a → Wp (R i a) Q := by
  have key : ∀ (k i : Nat) (a : α), i + k = N → I i a → Wp (R i a) Q := by
    intro k
    induction k with
    | zero => intro i a h hI; rw [Nat.add_zero] at h; subst h; exact fin a hI
    | succ k ih => intro i a h hI; exact step i a (by omega) hI (fun a' hI' => ih (i + 1) a' (by omega) hI')
  intro i a hi hI
  exact key (N - i) i a (by omega) hI
/-- a loop that counts down -/
theorem wp_down {α : Type} {R : Nat → α → Option Rs} {Q : Rs → Prop} (I : Nat → α → Prop) (step : ∀ i a, I (i + 1) a → (∀ a', I i a' → Wp (R i a') Q) → Wp (R (i + 1) a) Q) (fin : ∀ a, I 0 a → Wp (R 0 a) Q) : ∀ (i : Nat) (a : α), I i a → Wp (R i a) Q := by
  intro i
  induction i with
  | zero => exact fin
  | succ i ih => intro a hI; exact step i a hI ih
/-- numbers -/
theorem ob_n {i n : Nat} (h : i < n) (hn : n < 2 ^ 31) : ob (nI i) n = true := by
  have h1 : decide (nI i < 0) = false := decide_eq_false (nI_pos (by omega))
  have h2 : Nat.ble n (nI i).toNatClampNeg = false := by
    rw [nI_clamp (by omega)]
    cases hq : Nat.ble n i with
    | true => exact absurd (Nat.le_of_ble_eq_true hq) (by omega)
    | false => rfl
  unfold ob
  rw [h1, h2]; rfl
theorem nI_mul (a b : Nat) : nI a * nI b = nI (a * b) := (Int32.ofNat_mul a b).symm
theorem nI_sub {a b : Nat} (h : b ≤ a) : nI a - nI b = nI (a - b) := by
  obtain ⟨c, rfl⟩ := Nat.le.dest h
  rw [← nI_add, Nat.add_sub_cancel_left, Int32.add_comm, Int32.add_sub_cancel]
/-- stores -/
theorem ud_at (D : DD) (q k : Nat) (v : Int32) : ud D q k v q k = v := by simp [ud]
theorem ud_ne {D : DD} {q k a b : Nat} {v : Int32} (h : ¬ (a = q ∧ b = k)) : ud D q k v a b = D a b := by simp only [ud, if_neg h]
theorem ud_q {D : DD} {q k a : Nat} {v : Int32} (h : a ≠ q) : ud D q k v a = D a := by
  funext b
  simp [ud, h]
theorem ud_k {D : DD} {q k b : Nat} {v : Int32} (h : b ≠ k) : ud D q k v q b = D q b := by simp [ud, h]
theorem ucp_q {D : DD} {s sp q dp n a : Nat} (h : a ≠ q) : ucp D s sp q dp n a = D a := by
  funext b
  simp [ucp, h]
