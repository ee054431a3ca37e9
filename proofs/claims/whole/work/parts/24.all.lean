/-! ===== which instructions end a frame, which ones call ===== -/
def isRet : Instr → Bool
  | .ireturn => true
  | .lreturn => true
  | .return_ => true
  | .new _ => true
  | _ => false
def isInv : Instr → Bool
  | .invokevirtual _ => true
  | .invokestatic _ => true
  | .invokespecial _ => true
  | _ => false
section TT
variable {T : Act → Prop} (h0 : ∀ l, T (.inl l)) {st ls : List Value} {h : Hp}
theorem t_pI {k : Int32 → List Value → Act} (h0 : ∀ l, T (.inl l)) (hk : ∀ x r, T (k x r)) : T (pI st k) := by
  unfold pI; split
  · exact hk _ _
  · exact h0 _
theorem t_pR {k : Nat → List Value → Act} (h0 : ∀ l, T (.inl l)) (hk : ∀ x r, T (k x r)) : T (pR st k) := by
  unfold pR; split
  · exact hk _ _
  · exact h0 _
theorem t_pJ {k : Int64 → List Value → Act} (h0 : ∀ l, T (.inl l)) (hk : ∀ x r, T (k x r)) : T (pJ st k) := by
  unfold pJ; split
  · exact hk _ _
  · exact h0 _
theorem t_gI {j : Nat} {k : Int32 → Act} (h0 : ∀ l, T (.inl l)) (hk : ∀ x, T (k x)) : T (gI ls j k) := by
  unfold gI; split
  · exact hk _
  · exact h0 _
theorem t_gR {j : Nat} {k : Nat → Act} (h0 : ∀ l, T (.inl l)) (hk : ∀ x, T (k x)) : T (gR ls j k) := by
  unfold gR; split
  · exact hk _
  · exact h0 _
theorem t_gJ {j : Nat} {k : Int64 → Act} (h0 : ∀ l, T (.inl l)) (hk : ∀ x, T (k x)) : T (gJ ls j k) := by
  unfold gJ; split
  · exact hk _
  · exact h0 _
theorem t_c {b : Bool} {x y : Act} (hx : T x) (hy : T y) : T (cond b x y) := by
  cases b with
  | true => exact hx
  | false => exact hy
theorem t_sto {j : Nat} {v : Value} {k : List Value → Act} (h0 : ∀ l, T (.inl l)) (hk : ∀ x, T (k x)) : T (sto ls j v k) := t_c (hk _) (h0 _)
theorem t_stoJ {j : Nat} {v : Value} {k : List Value → Act} (h0 : ∀ l, T (.inl l)) (hk : ∀ x, T (k x)) : T (stoJ ls j v k) := t_c (hk _) (h0 _)
theorem t_cel {q : Nat} {k : Nat → Nat → List (Option Nat) → Act} (h0 : ∀ l, T (.inl l)) (hk : ∀ a b r, T (k a b r)) : T (cel h q k) := by
  unfold cel; split
  · exact hk _ _ _
  · exact h0 _
theorem t_ntv {a i : Nat} (h0 : ∀ l, T (.inl l)) : T (ntv a i ls st h) := by
  cases hq : ntv a i ls st h with
  | inl l => exact h0 l
  | inr C => exact (ntv_call hq).elim
theorem act_T (X : XS) (ins : Instr) (a b : Nat) (cv : Int32) (tl : List Nat) (i : Nat) (h0 : ∀ l, T (.inl l)) (hR : isRet ins = true → ∀ x, T (.inr (.inl x))) (hC : isInv ins = true → ∀ C, T (.inr (.inr C))) : T (act X (ins, a, b, cv, tl) i ls st h) := by
  cases ins <;> first
    | exact h0 _
    | exact t_c (h0 _) (h0 _)
    | exact t_c (h0 _) (t_c (h0 _) (h0 _))
    | exact t_gI h0 fun _ => h0 _
    | exact t_gJ h0 fun _ => h0 _
    | exact t_gR h0 fun _ => h0 _
    | exact t_pI h0 fun _ _ => t_sto h0 fun _ => h0 _
    | exact t_pR h0 fun _ _ => t_sto h0 fun _ => h0 _
    | exact t_pJ h0 fun _ _ => t_stoJ h0 fun _ => h0 _
    | exact t_gI h0 fun _ => t_sto h0 fun _ => h0 _
    | exact t_pI h0 fun _ _ => h0 _
    | exact t_pI h0 fun _ _ => t_pI h0 fun _ _ => h0 _
    | exact t_pJ h0 fun _ _ => t_pJ h0 fun _ _ => h0 _
    | exact t_pI h0 fun _ _ => t_pJ h0 fun _ _ => h0 _
    | exact t_pI h0 fun _ _ => t_pR h0 fun _ _ => t_c (h0 _) (t_cel h0 fun _ _ _ => t_c (h0 _) (h0 _))
    | exact t_pI h0 fun _ _ => t_pR h0 fun _ _ => t_cel h0 fun _ _ _ => t_c (h0 _) (h0 _)
    | exact t_pI h0 fun _ _ => t_pI h0 fun _ _ => t_pR h0 fun _ _ => t_cel h0 fun _ _ _ => t_c (h0 _) (h0 _)
    | exact t_pJ h0 fun _ _ => t_pI h0 fun _ _ => t_pR h0 fun _ _ => t_cel h0 fun _ _ _ => t_c (h0 _) (h0 _)
    | exact t_pR h0 fun _ _ => t_c (h0 _) (t_cel h0 fun _ _ _ => t_c (h0 _) (h0 _))
    | exact t_pI h0 fun _ _ => t_c (h0 _) (h0 _)
    | skip
  case dup =>
    simp only [act]; split
    · exact h0 _
    · exact h0 _
    · exact h0 _
  case dup2 =>
    refine t_pI h0 fun _ _ => ?_
    split
    · exact h0 _
    · exact h0 _
    · exact h0 _
  case getfield =>
    refine t_pR h0 fun _ _ => t_cel h0 fun _ _ _ => t_c ?_ (h0 _)
    split
    · exact h0 _
    · exact h0 _
    · split
      · exact h0 _
      · exact h0 _
    · exact h0 _
  case putfield =>
    simp only [act]
    split
    · exact t_pI h0 fun _ _ => t_pR h0 fun _ _ => t_cel h0 fun _ _ _ => t_c (h0 _) (h0 _)
    · exact t_pI h0 fun _ _ => t_pR h0 fun _ _ => t_cel h0 fun _ _ _ => t_c (h0 _) (h0 _)
    · exact t_pJ h0 fun _ _ => t_pR h0 fun _ _ => t_cel h0 fun _ _ _ => t_c (h0 _) (h0 _)
    · exact t_pR h0 fun _ _ => t_pR h0 fun _ _ => t_cel h0 fun _ _ _ => t_c (h0 _) (h0 _)
    · exact h0 _
  case new => exact t_c (t_c (hR rfl _) (h0 _)) (t_c (h0 _) (h0 _))
  case invokestatic => exact t_c (t_ntv h0) (t_c (hC rfl _) (h0 _))
  case invokevirtual =>
    refine t_c (t_ntv h0) ?_
    split
    · exact t_cel h0 fun _ _ _ => t_c (t_c (hC rfl _) (h0 _)) (h0 _)
    · exact h0 _
  case invokespecial =>
    refine t_c (t_ntv h0) ?_
    split
    · exact t_c (hC rfl _) (h0 _)
    · exact h0 _
  case ireturn =>
    refine t_pI h0 fun _ _ => ?_
    split
    · exact hR rfl _
    · exact h0 _
  case lreturn =>
    refine t_pJ h0 fun _ _ => ?_
    split
    · exact hR rfl _
    · exact h0 _
  case return_ =>
    simp only [act]; split
    · exact hR rfl _
    · exact h0 _
end TT
theorem act_noR {X : XS} {ins : Instr} {a b : Nat} {cv : Int32} {tl : List Nat} {i : Nat} {ls st : List Value} {h : Hp} {x : Bool × Rs} (hi : isRet ins = false) (hA : act X (ins, a, b, cv, tl) i ls st h = .inr (.inl x)) : False :=
  act_T (T := fun A => A = .inr (.inl x) → False) X ins a b cv tl i (fun l q => by cases q) (fun q => by rw [hi] at q; cases q) (fun _ C q => by cases q) hA
theorem act_noC {X : XS} {ins : Instr} {a b : Nat} {cv : Int32} {tl : List Nat} {i : Nat} {ls st : List Value} {h : Hp} {C : ACall} (hi : isInv ins = false) (hA : act X (ins, a, b, cv, tl) i ls st h = .inr (.inr C)) : False :=
  act_T (T := fun A => A = .inr (.inr C) → False) X ins a b cv tl i (fun l q => by cases q) (fun _ x q => by cases q) (fun q => by rw [hi] at q; cases q) hA
/-! ===== soundness: every run of the abstract machine is the machine's ===== -/
theorem snd_all {l : Launch} {G : GC} {X : XS} {EX : State → Heap → Prop} (hCA : ∀ k, k < NM → chkM k = true) (hEX : EXc EX G) (hN : NstR EX) (hT : ThrR l G X EX) (hSt : StrR l G X EX) (hCt : CatR l G X EX) : ∀ n, SndP l G X EX n := by
  intro n
  induction n with
  | zero => intro d k σ r _ hrun; simp [runF] at hrun
  | succ n IH =>
    intro d k σ r hk hrun p e R s m args below meth c c0 s0 mc ms F hE hc0 hrc hrs hmc hms
    obtain ⟨i, ls, st, h⟩ := σ
    rw [runF] at hrun
    cases hcode : (code0 k)[i]? with
    | none => rw [hcode] at hrun; cases hrun
    | some ai =>
      rw [hcode] at hrun
      dsimp only at hrun
      have hchk := chkM_at (hCA k hk) hcode
      have hn2 : ∀ σ, runF X n d k σ = some r → WA l G p e R s m args below meth c (PQ G below args s mc ms r) k c0 s0 σ := fun σ hσ => IH d k σ r hk hσ p e R s m args below meth c c0 s0 mc ms F hE hc0 hrc hrs hmc hms
      have hn3 : ∀ σ, runF X n d k σ = some r → PW l G p e R s m args below meth c (PQ G below args s mc ms r) k c0 s0 σ := fun σ hσ =>
        ⟨hn2 σ hσ, Nat.le_trans (run_mono X n d k σ r hσ).1 hrc, Nat.le_trans (run_mono X n d k σ r hσ).2 hrs⟩
      cases hA : act X ai i ls st h with
      | inl lb =>
        rw [hA] at hrun
        exact ins_ok hN hSt F hE hc0 hk hcode hchk hA (sel_W hn3 hrun)
      | inr A2 =>
        rw [hA] at hrun
        cases A2 with
        | inl br =>
          obtain ⟨bb, r'⟩ := br
          simp only [ex] at hrun
          cases hbb : bb with
          | false => rw [hbb] at hrun; cases hrun
          | true =>
            rw [hbb] at hrun hA
            simp only [if_true, Option.some.injEq] at hrun
            subst hrun
            obtain ⟨ins, a, b, cv, tl⟩ := ai
            cases ins
            case ireturn => exact ok_ireturn F hchk hA rfl hmc hms
            case lreturn => exact ok_lreturn F hchk hA hmc hms
            case return_ => exact ok_return F hchk hA hmc hms
            case new n0 =>
              have h10 : 1000 ≤ a := by
                apply Nat.not_lt.mp
                intro q
                have hb : Nat.ble 1000 a = false := by
                  rw [Bool.eq_false_iff]
                  exact fun z => Nat.not_le.mpr q (Nat.le_of_ble_eq_true z)
                have hA : cond (Nat.ble 1000 a) _ (cond _ (go1 _) stk) = (Sum.inr (Sum.inl (true, r')) : Act) := hA
                rw [hb] at hA
                generalize (Nat.beq h.2.1 0 && Nat.blt h.1.length 900000) = bb2 at hA
                cases bb2 <;> cases hA
              have hb : Nat.ble 1000 a = true := Nat.ble_eq_true_of_le h10
              have hA : cond (Nat.ble 1000 a) (cond (Nat.ble st.length 100) (.inr (.inl (true, .inr (a - 1000), (h.1, h.2.1 + 1, h.2.2)))) stk) _ = (Sum.inr (Sum.inl (true, r')) : Act) := hA
              rw [hb] at hA
              have hA : cond (Nat.ble st.length 100) (.inr (.inl (true, .inr (a - 1000), (h.1, h.2.1 + 1, h.2.2)))) stk = (Sum.inr (Sum.inl (true, r')) : Act) := hA
              have hst : st.length ≤ 100 := by
                cases hq : Nat.ble st.length 100 with
                | true => exact Nat.le_of_ble_eq_true hq
                | false => rw [hq] at hA; cases hA
              rw [Nat.ble_eq_true_of_le hst] at hA
              cases hA
              have e1 : cz (h.1, h.2.1 + 1, h.2.2) = cz h + 1 := by simp only [cz]; omega
              have e2 : slz (h.1, h.2.1 + 1, h.2.2) = slz h + 6 := by simp only [slz]; omega
              dsimp only at hrc hrs hmc hms
              rw [e1] at hrc hmc
              rw [e2] at hrs hms
              exact hT p e R s m args below meth c k d i c0 s0 mc ms ls st h n0 a b cv tl F hE hk hcode h10 hst hrc hrs hmc hms
            all_goals exact (act_noR rfl hA).elim
        | inr C =>
          obtain ⟨ins, a, b, cv, tl⟩ := ai
          -- the callee's run, and what is behind it
          have fin : ∀ (hC : C = ((a, (st.take b).reverse, h), tl.getD 1 0, (i + 1, ls, st.drop b), tl.drop 2)), ∃ d' y, d = d' + 1 ∧ runF X n d' a (0, ent a (st.take b).reverse, [], h) = some y ∧ cnt (runF X n d k) (tl.getD 1 0) (i + 1) ls (st.drop b) (tl.drop 2) (some y) = some r := by
            intro hC
            subst hC
            simp only [ex] at hrun
            cases d with
            | zero => rw [cnt_none] at hrun; cases hrun
            | succ d =>
              dsimp only at hrun
              cases hy : runF X n d a (0, ent a (st.take b).reverse, [], h) with
              | none => rw [hy, cnt_none] at hrun; cases hrun
              | some y => rw [hy] at hrun; exact ⟨d, y, rfl, hy, hrun⟩
          have h10 : isInv ins = true → ¬ 1000 ≤ a := by
            intro hi q
            have hb : Nat.ble 1000 a = true := Nat.ble_eq_true_of_le q
            cases ins <;> first | (cases hi; done) | skip
            all_goals
              have hA : cond (Nat.ble 1000 a) (ntv a i ls st h) _ = (Sum.inr (Sum.inr C) : Act) := hA
              rw [hb] at hA
              exact ntv_call hA
          cases hi : isInv ins with
          | false => exact (act_noC hi hA).elim
          | true =>
            have h11 := h10 hi
            have hb : Nat.ble 1000 a = false := by
              rw [Bool.eq_false_iff]
              exact fun q => h11 (Nat.le_of_ble_eq_true q)
            cases ins
            case invokestatic ix =>
              have hA : cond (Nat.ble 1000 a) _ (inv X a b tl i ls st h) = (Sum.inr (Sum.inr C) : Act) := hA
              rw [hb] at hA
              obtain ⟨hC, g1, g2, g3⟩ := inv_inv (X := X) hA
              obtain ⟨d', y, rfl, hy, hcnt⟩ := fin hC
              exact call_S IH hEX hN F hE hc0 hk hchk h11 g1 g2 g3 hy hcnt hrc hrs hmc hms hn2
            case invokevirtual ix =>
              simp only [act, hb, cond_false] at hA
              split at hA
              · next q hq =>
                unfold cel at hA
                split at hA
                · next kd nn rf hcel =>
                  dsimp only at hA
                  cases hkd : Nat.beq kd (tl.getD 0 0) with
                  | false => rw [hkd] at hA; cases hA
                  | true =>
                    rw [hkd] at hA
                    obtain ⟨hC, g1, g2, g3⟩ := inv_inv (X := X) hA
                    obtain ⟨d', y, rfl, hy, hcnt⟩ := fin hC
                    exact call_V IH hEX hCt F hE hc0 hk hcode hchk h11 ⟨q, kd, hq, ⟨nn, rf, hcel⟩, Nat.eq_of_beq_eq_true hkd⟩ g1 g2 g3 hy hcnt hrc hrs hmc hms hn2
                · cases hA
              · cases hA
            case invokespecial ix =>
              simp only [act, hb, cond_false] at hA
              split at hA
              · next q hq =>
                obtain ⟨hC, g1, g2, g3⟩ := inv_inv (X := X) hA
                obtain ⟨d', y, rfl, hy, hcnt⟩ := fin hC
                exact call_I IH hEX hN F hE hc0 hk hchk h11 ⟨q, hq⟩ g1 g2 g3 hy hcnt hrc hrs hmc hms hn2
              · cases hA
            all_goals (cases hi)
