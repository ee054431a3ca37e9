/-! ===== soundness: every run of the abstract machine is the machine's ===== -/
theorem snd_all {l : Launch} {G : GC} {X : XS} {EX : State → Heap → Prop} (hCA : ∀ k, k < NM → chkM k = true) (hEX : EXc EX G) (hN : NstR EX) (hT : ThrR l G X EX) (hSt : StrR l G X EX) (hCt : CatR l G X EX) : ∀ n, SndP l G X EX n := by
  intro n
  induction n with
  | zero => intro d k σ r _ hrun; simp [runF] at hrun
  | succ n IH =>
    intro d k σ r hk hrun p e R s m args below meth c c0 s0 mc ms F hE hc0 hrc hrs hmc hms
    obtain ⟨i, ls, st, h⟩ := σ
    rw [runF] at hrun
    cases hcode : (code0 k)[i]? with
    | none => rw [hcode] at hrun; cases hrun
    | some ai =>
      rw [hcode] at hrun
      dsimp only at hrun
      have hchk := chkM_at (hCA k hk) hcode
      have hn2 : ∀ σ, runF X n d k σ = some r → WA l G p e R s m args below meth c (PQ G below args s mc ms r) k c0 s0 σ := fun σ hσ => IH d k σ r hk hσ p e R s m args below meth c c0 s0 mc ms F hE hc0 hrc hrs hmc hms
      have hn3 : ∀ σ, runF X n d k σ = some r → PW l G p e R s m args below meth c (PQ G below args s mc ms r) k c0 s0 σ := fun σ hσ =>
        ⟨hn2 σ hσ, Nat.le_trans (run_mono X n d k σ r hσ).1 hrc, Nat.le_trans (run_mono X n d k σ r hσ).2 hrs⟩
      cases hA : act X ai i ls st h with
      | inl lb =>
        rw [hA] at hrun
        exact ins_ok hN hSt F hE hc0 hk hcode hchk hA (sel_W hn3 hrun)
      | inr A2 =>
        rw [hA] at hrun
        cases A2 with
        | inl br =>
          obtain ⟨bb, r'⟩ := br
          simp only [ex] at hrun
          cases hbb : bb with
          | false => rw [hbb] at hrun; cases hrun
          | true =>
            rw [hbb] at hrun hA
            simp only [if_true, Option.some.injEq] at hrun
            subst hrun
            obtain ⟨ins, a, b, cv, tl⟩ := ai
            cases ins
            case ireturn => exact ok_ireturn F hchk hA rfl hmc hms
            case lreturn => exact ok_lreturn F hchk hA hmc hms
            case return_ => exact ok_return F hchk hA hmc hms
            case new n0 =>
              have h10 : 1000 ≤ a := by
                apply Nat.not_lt.mp
                intro q
                have hb : Nat.ble 1000 a = false := by
                  rw [Bool.eq_false_iff]
                  exact fun z => Nat.not_le.mpr q (Nat.le_of_ble_eq_true z)
                have hA : cond (Nat.ble 1000 a) _ (cond _ (go1 _) stk) = (Sum.inr (Sum.inl (true, r')) : Act) := hA
                rw [hb] at hA
                generalize (Nat.beq h.2.1 0 && Nat.blt h.1.length 900000) = bb2 at hA
                cases bb2 <;> cases hA
              have hb : Nat.ble 1000 a = true := Nat.ble_eq_true_of_le h10
              have hA : cond (Nat.ble 1000 a) (.inr (.inl (true, .inr (a - 1000), (h.1, h.2.1 + 1, h.2.2)))) _ = (Sum.inr (Sum.inl (true, r')) : Act) := hA
              rw [hb] at hA
              cases hA
              have e1 : cz (h.1, h.2.1 + 1, h.2.2) = cz h + 1 := by simp only [cz]; omega
              have e2 : slz (h.1, h.2.1 + 1, h.2.2) = slz h + 6 := by simp only [slz]; omega
              dsimp only at hrc hrs hmc hms
              rw [e1] at hrc hmc
              rw [e2] at hrs hms
              exact hT p e R s m args below meth c k d i c0 s0 mc ms ls st h n0 a b cv tl F hE hk hcode h10 hrc hrs hmc hms
            all_goals sorry
        | inr C =>
          sorry
