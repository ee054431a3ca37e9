/-! ===== what a run makes is never taken back ===== -/
def hle (h h' : Hp) : Prop := cz h ≤ cz h' ∧ slz h ≤ slz h'
theorem hle_rfl (h : Hp) : hle h h := ⟨Nat.le_refl _, Nat.le_refl _⟩
theorem hle_D {h : Hp} {D : Nat → Nat → Int32} {J : Nat → Nat → Int64} : hle h (h.1, h.2.1, D, J) := ⟨Nat.le_refl _, Nat.le_refl _⟩
theorem hle.trans {a b c : Hp} (h1 : hle a b) (h2 : hle b c) : hle a c := ⟨Nat.le_trans h1.1 h2.1, Nat.le_trans h1.2 h2.2⟩
def AMo (h : Hp) : Act → Prop
  | .inl lb => ∀ x ∈ lb, hle h x.2.2.2.2
  | .inr (.inl (_, r)) => hle h r.2
  | .inr (.inr c) => c.1.2.2 = h
theorem amo_stk {h : Hp} : AMo h stk := fun x hx => by cases hx
theorem amo_go {h : Hp} {s : FS} (hs : hle h s.2.2.2) : AMo h (go1 s) := fun x hx => by
  rw [List.mem_singleton.mp hx]; exact hs
theorem amo_1 {h : Hp} {b : Bool} {s : FS} (hs : hle h s.2.2.2) : AMo h (.inl [(b, s)]) := fun x hx => by
  rw [List.mem_singleton.mp hx]; exact hs
theorem amo_2 {h : Hp} {b : Bool} {s s2 : FS} (hs : hle h s.2.2.2) (hs2 : hle h s2.2.2.2) : AMo h (.inl [(b, s), (true, s2)]) := fun x hx => by
  rcases List.mem_cons.mp hx with q | q
  · rw [q]; exact hs
  · rw [List.mem_singleton.mp q]; exact hs2
theorem amo_pI {h : Hp} {st : List Value} {k : Int32 → List Value → Act} (hk : ∀ x r, AMo h (k x r)) : AMo h (pI st k) := by
  unfold pI; split
  · exact hk _ _
  · exact amo_stk
theorem amo_pR {h : Hp} {st : List Value} {k : Nat → List Value → Act} (hk : ∀ x r, AMo h (k x r)) : AMo h (pR st k) := by
  unfold pR; split
  · exact hk _ _
  · exact amo_stk
theorem amo_pJ {h : Hp} {st : List Value} {k : Int64 → List Value → Act} (hk : ∀ x r, AMo h (k x r)) : AMo h (pJ st k) := by
  unfold pJ; split
  · exact hk _ _
  · exact amo_stk
theorem amo_gI {h : Hp} {ls : List Value} {j : Nat} {k : Int32 → Act} (hk : ∀ x, AMo h (k x)) : AMo h (gI ls j k) := by
  unfold gI; split
  · exact hk _
  · exact amo_stk
theorem amo_gR {h : Hp} {ls : List Value} {j : Nat} {k : Nat → Act} (hk : ∀ x, AMo h (k x)) : AMo h (gR ls j k) := by
  unfold gR; split
  · exact hk _
  · exact amo_stk
theorem amo_gJ {h : Hp} {ls : List Value} {j : Nat} {k : Int64 → Act} (hk : ∀ x, AMo h (k x)) : AMo h (gJ ls j k) := by
  unfold gJ; split
  · exact hk _
  · exact amo_stk
theorem amo_c {h : Hp} {b : Bool} {x y : Act} (hx : AMo h x) (hy : AMo h y) : AMo h (cond b x y) := by
  cases b with
  | true => exact hx
  | false => exact hy
theorem amo_sto {h : Hp} {ls : List Value} {j : Nat} {v : Value} {k : List Value → Act} (hk : ∀ x, AMo h (k x)) : AMo h (sto ls j v k) := amo_c (hk _) amo_stk
theorem amo_stoJ {h : Hp} {ls : List Value} {j : Nat} {v : Value} {k : List Value → Act} (hk : ∀ x, AMo h (k x)) : AMo h (stoJ ls j v k) := amo_c (hk _) amo_stk
theorem amo_cel {h h0 : Hp} {q : Nat} {k : Nat → Nat → List (Option Nat) → Act} (hk : ∀ a b r, h0.1[q]? = some (a, b, r) → AMo h (k a b r)) : AMo h (cel h0 q k) := by
  unfold cel; split
  · next a b r hq => exact hk _ _ _ hq
  · exact amo_stk
theorem amo_swt {h : Hp} {x : Int32} {f : Nat → FS} {df : Nat} (hf : ∀ t, hle h (f t).2.2.2) : ∀ tl : List Nat, AMo h (.inl (swt x f df tl))
  | a :: t :: l => fun y hy => by
    rcases List.mem_cons.mp hy with q | q
    · rw [q]; exact hf t
    · exact amo_swt hf l y q
  | [] => amo_1 (hf df)
  | [_] => amo_1 (hf df)
theorem hle_set {h : Hp} {q kd n : Nat} {rf rf' : List (Option Nat)} (hq : h.1[q]? = some (kd, n, rf)) : hle h (h.1.set q (kd, n, rf'), h.2) := by
  refine ⟨by simp [cz], ?_⟩
  have : (h.1.set q (kd, n, rf')).map (fun c => c.2.1) = h.1.map (fun c => c.2.1) := by
    have hql := (List.getElem?_eq_some_iff.mp hq).1
    rw [List.map_set]
    apply List.ext_getElem?
    intro j
    by_cases hj : j = q
    · subst hj
      rw [List.getElem?_set_self (by simp; exact hql), List.getElem?_map, hq]; rfl
    · rw [List.getElem?_set_ne (Ne.symm hj)]
  simp only [slz, this]; exact Nat.le_refl _
theorem hle_push {h : Hp} {x : ACell} {D : Nat → Nat → Int32} {J : Nat → Nat → Int64} : hle h (h.1 ++ [x], h.2.1, D, J) := by
  refine ⟨by simp only [cz, List.length_append]; omega, by simp only [slz, List.map_append, List.sum_append]; omega⟩
theorem amo_inv {X : XS} {a b : Nat} {tl : List Nat} {i : Nat} {ls st : List Value} {h : Hp} : AMo h (inv X a b tl i ls st h) := amo_c rfl amo_stk
theorem amo_ntv {a i : Nat} {ls st : List Value} {h : Hp} : AMo h (ntv a i ls st h) := by
  unfold ntv
  refine amo_c ?_ amo_stk
  split
  · exact amo_pI fun _ _ => amo_pI fun _ _ => amo_go (hle_rfl h)
  · exact amo_pI fun _ _ => amo_pI fun _ _ => amo_go (hle_rfl h)
  · exact amo_pI fun _ _ => amo_go (hle_rfl h)
  · exact amo_pI fun _ _ => amo_pI fun _ _ => amo_pR fun _ _ => amo_pI fun _ _ => amo_pR fun _ _ => amo_cel fun _ _ _ _ => amo_cel fun _ _ _ _ => amo_c (amo_1 hle_D) amo_stk
  · exact amo_pR fun _ _ => amo_c (amo_go (hle_rfl h)) amo_stk
  · exact amo_pI fun _ _ => amo_pR fun _ _ => amo_c (amo_1 (hle_rfl h)) amo_stk
  · exact amo_pI fun _ _ => amo_pR fun _ _ => amo_c (amo_1 (hle_rfl h)) amo_stk
  · exact amo_pR fun _ _ => amo_go (hle_rfl h)
  · exact amo_stk
theorem amo_new {h : Hp} {a : Nat} {b1 b2 : Bool} {s : FS} (hs : hle h s.2.2.2) : AMo h (cond (Nat.ble 1000 a) (cond b1 (.inr (.inl (true, .inr (a - 1000), (h.1, h.2.1 + 1, h.2.2)))) stk) (cond b2 (go1 s) stk)) := by
  refine amo_c (amo_c ?_ amo_stk) (amo_c (amo_go hs) amo_stk)
  refine ⟨?_, ?_⟩
  · show h.1.length + h.2.1 ≤ h.1.length + (h.2.1 + 1); omega
  · show (h.1.map fun c => c.2.1).sum + 6 * h.2.1 ≤ (h.1.map fun c => c.2.1).sum + 6 * (h.2.1 + 1); omega
theorem act_mono (X : XS) (ai : AIns) (i : Nat) (ls st : List Value) (h : Hp) : AMo h (act X ai i ls st h) := by
  obtain ⟨ins, a, b, cv, tl⟩ := ai
  have r := hle_rfl h
  cases ins <;> first
    | exact amo_stk
    | exact amo_go r
    | exact amo_c (amo_go r) amo_stk
    | exact amo_c (amo_go r) (amo_c (amo_go r) amo_stk)
    | exact amo_gI fun _ => amo_go r
    | exact amo_gJ fun _ => amo_go r
    | exact amo_gR fun _ => amo_go r
    | exact amo_pI fun _ _ => amo_sto fun _ => amo_go r
    | exact amo_pR fun _ _ => amo_sto fun _ => amo_go r
    | exact amo_pJ fun _ _ => amo_stoJ fun _ => amo_go r
    | exact amo_gI fun _ => amo_sto fun _ => amo_go r
    | exact amo_pI fun _ _ => amo_pI fun _ _ => amo_go r
    | exact amo_pI fun _ _ => amo_pI fun _ _ => amo_1 r
    | exact amo_pI fun _ _ => amo_go r
    | exact amo_pJ fun _ _ => amo_pJ fun _ _ => amo_go r
    | exact amo_pI fun _ _ => amo_pJ fun _ _ => amo_go r
    | exact amo_pI fun _ _ => amo_2 r r
    | exact amo_pI fun _ _ => amo_pI fun _ _ => amo_2 r r
    | exact amo_pI fun _ _ => amo_swt (fun _ => r) tl
    | exact amo_pI fun _ _ => amo_pR fun _ _ => amo_c (amo_1 r) (amo_cel fun _ _ _ _ => amo_c (amo_1 r) amo_stk)
    | exact amo_pI fun _ _ => amo_pR fun _ _ => amo_cel fun _ _ _ _ => amo_c (amo_1 r) amo_stk
    | exact amo_pI fun _ _ => amo_pI fun _ _ => amo_pR fun _ _ => amo_cel fun _ _ _ _ => amo_c (amo_1 hle_D) amo_stk
    | exact amo_pJ fun _ _ => amo_pI fun _ _ => amo_pR fun _ _ => amo_cel fun _ _ _ _ => amo_c (amo_1 hle_D) amo_stk
    | exact amo_pR fun _ _ => amo_c (amo_go r) (amo_cel fun _ _ _ _ => amo_c (amo_go r) amo_stk)
    | exact amo_pI fun _ _ => amo_c (amo_go hle_push) amo_stk
    | exact amo_c amo_ntv amo_inv
    | skip
  case dup =>
    simp only [act]; split
    · exact amo_go r
    · exact amo_go r
    · exact amo_stk
  case dup2 =>
    refine amo_pI fun _ _ => ?_
    split
    · exact amo_go r
    · exact amo_go r
    · exact amo_stk
  case getfield =>
    refine amo_pR fun _ _ => amo_cel fun _ _ _ _ => amo_c ?_ amo_stk
    split
    · exact amo_go r
    · exact amo_go r
    · split
      · exact amo_go r
      · exact amo_stk
    · exact amo_stk
  case putfield =>
    simp only [act]
    split
    · exact amo_pI fun _ _ => amo_pR fun _ _ => amo_cel fun _ _ _ _ => amo_c (amo_go hle_D) amo_stk
    · exact amo_pI fun _ _ => amo_pR fun _ _ => amo_cel fun _ _ _ _ => amo_c (amo_1 hle_D) amo_stk
    · exact amo_pJ fun _ _ => amo_pR fun _ _ => amo_cel fun _ _ _ _ => amo_c (amo_go hle_D) amo_stk
    · exact amo_pR fun _ _ => amo_pR fun _ _ => amo_cel fun _ _ _ hq => amo_c (amo_go (hle_set hq)) amo_stk
    · exact amo_stk
  case new => exact amo_new hle_push
  case invokevirtual =>
    refine amo_c amo_ntv ?_
    split
    · exact amo_cel fun _ _ _ _ => amo_c amo_inv amo_stk
    · exact amo_stk
  case invokespecial =>
    refine amo_c amo_ntv ?_
    split
    · exact amo_inv
    · exact amo_stk
  case ireturn =>
    refine amo_pI fun _ _ => ?_
    split
    · exact r
    · exact amo_stk
  case lreturn =>
    refine amo_pJ fun _ _ => ?_
    split
    · exact r
    · exact amo_stk
  case return_ =>
    simp only [act]; split
    · exact r
    · exact amo_stk
theorem sel_mem {f : FS → Option Rs} : ∀ {lb : List (Bool × FS)} {r : Rs}, sel f lb = some r → ∃ x ∈ lb, f x.2 = some r
  | (b, s) :: l, r, h => by
    simp only [sel] at h
    split at h
    · exact ⟨(b, s), List.mem_cons_self, h⟩
    · obtain ⟨x, h1, h2⟩ := sel_mem h
      exact ⟨x, List.mem_cons_of_mem _ h1, h2⟩
theorem thr_heap {f : FS → Option Rs} {ls : List Value} {e : Nat} {h : Hp} {r : Rs} : ∀ (hs : List Nat), thr f ls e h hs = some r → (∃ s : FS, s.2.2.2 = h ∧ f s = some r) ∨ r.2 = h
  | a :: j :: k :: l, q => by
    by_cases he : e = a
    · simp only [thr, if_pos he] at q
      exact Or.inl ⟨(j, (ls.map fun v => cond (lng v) .null v).set k .null, [], h), rfl, q⟩
    · simp only [thr, if_neg he] at q
      exact thr_heap l q
  | [], q => by
    simp only [thr, Option.some.injEq] at q
    exact Or.inr (by rw [← q])
  | [_], q => by cases q
  | [_, _], q => by cases q
theorem run_mono (X : XS) : ∀ (n d k : Nat) (σ : FS) (r : Rs), runF X n d k σ = some r → hle σ.2.2.2 r.2 := by
  intro n
  induction n with
  | zero => intro d k σ r h; simp [runF] at h
  | succ n ih =>
    intro d k σ r h
    obtain ⟨i, ls, st, hp⟩ := σ
    rw [runF] at h
    cases hc : (code0 k)[i]? with
    | none => rw [hc] at h; cases h
    | some ai =>
      rw [hc] at h
      dsimp only at h ⊢
      have hm := act_mono X ai i ls st hp
      generalize act X ai i ls st hp = A at h hm
      match A, h, hm with
      | .inl lb, h, hm =>
        obtain ⟨x, h1, h2⟩ := sel_mem h
        exact (hm x h1).trans (ih _ _ _ _ h2)
      | .inr (.inl (b, r')), h, hm =>
        simp only [ex] at h
        split at h
        · cases h; exact hm
        · cases h
      | .inr (.inr ((m, as, h0), rk, (i', ls', st'), hs)), h, hm =>
        have hm : h0 = hp := hm
        subst hm
        simp only [ex] at h
        cases d with
        | zero => rw [cnt_none] at h; cases h
        | succ d =>
          dsimp only at h
          cases hy : runF X n d m (0, ent m as, [], h0) with
          | none => rw [hy, cnt_none] at h; cases h
          | some y =>
            rw [hy] at h
            have h1 := ih _ _ _ _ hy
            dsimp only at h1
            refine h1.trans ?_
            obtain ⟨o, h'⟩ := y
            -- which next state: its heap is the callee's
            have key : ∀ (f : FS → Option Rs), cnt f rk i' ls' st' hs (some (o, h')) = some r → (∃ s : FS, s.2.2.2 = h' ∧ f s = some r) ∨ r.2 = h' := by
              intro f hf
              unfold cnt at hf
              have thrk : ∀ (e : Nat) (l : List Nat), thr f ls' e h' l = some r → (∃ s : FS, s.2.2.2 = h' ∧ f s = some r) ∨ r.2 = h' := fun e l q => thr_heap l q
              split at hf
              · unfold bV at hf
                split at hf
                · next heq => cases heq; exact Or.inl ⟨_, rfl, hf⟩
                · next heq => cases heq; exact thrk _ _ hf
                · cases hf
              · unfold bI at hf
                split at hf
                · next heq => cases heq; exact Or.inl ⟨_, rfl, hf⟩
                · next heq => cases heq; exact thrk _ _ hf
                · cases hf
              · unfold bJ at hf
                split at hf
                · next heq => cases heq; exact Or.inl ⟨_, rfl, hf⟩
                · next heq => cases heq; exact thrk _ _ hf
                · cases hf
            rcases key _ h with ⟨s, e1, e2⟩ | e1
            · rw [← e1]; exact ih _ _ _ _ e2
            · rw [e1]; exact hle_rfl _
