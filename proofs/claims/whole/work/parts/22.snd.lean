/-! ===== soundness: a call, and the whole ===== -/
section FIN
variable {l : Launch} {G : GC} {X : XS} {EX : State → Heap → Prop} {p : Program} {e : Env} {R : Room} {s : State} {m : MethodId} {args : Array Value} {below : List Frame} {meth : Method} {c : Code} {k d c0 s0 : Nat} {i : Nat} {ls st : List Value} {h : Hp} {ix a b n : Nat} {cv : Int32} {tl : List Nat} {y r : Rs}
/-- behind a callee that returned: the frame goes on -/
theorem go_inl {Q : State → Prop} {H : Heap} {locs : List Loc} {cells slots mc ms : Nat} {lsM : Array Slot} {st0 rest : List Value} {av : Array Value} {v : Option Value} {h' : Hp} (hP : WA l G p e R s m args below meth c Q k c0 s0 (i + 1, ls, v.toList ++ rest, h')) (e1 : pcf k (i + 1) = pcf k i + 3) (hL : LR G ls (mxl k) lsM) (hS : va_S (gA G) s.heap H locs) (h1 : cells + c0 = cz h) (h2 : slots + s0 = slz h) (hmc : mc + cz h = cz h') (hms : ms + slz h = slz h')
    (hr : va_Run p l e R s m args below meth c H locs cells slots mc ms (F0 m (pcf k i) lsM st0) (rest.map (rv G)) (Qr G v h' av) (gA G)) : W p l e R s m args below meth c H locs cells slots Q (F0 m (pcf k i) lsM st0) := by
  refine after_inl hr hS (fun H1 locs1 hH1 hS1 => ?_)
  have hw := hP H1 locs1 (cells + mc) (slots + ms) lsM hH1 hS1 hL (by show cells + mc + c0 = cz h'; omega) (by show slots + ms + s0 = slz h'; omega)
  have e2 : (v.map (rv G)).toList ++ rest.map (rv G) = (v.toList ++ rest).map (rv G) := by cases v <;> simp
  rw [e2, ← e1]
  exact hw
theorem call_V (IH : SndP l G X EX n) (hEX : EXc EX G) (hCt : CatR l G X EX) (F : FC l G X p R s m args meth c k (d + 1)) (hE : EX s s.heap) (hc0 : s.heap.size ≤ G.1 + c0) (hk : k < NM) (hcode : (code0 k)[i]? = some (.invokevirtual ix, a, b, cv, tl)) (hc : chk k i (.invokevirtual ix, a, b, cv, tl) = true) (h10 : ¬ 1000 ≤ a)
    (hact : ∃ q kd, (st.take b).getLast? = some (.ref q) ∧ (∃ nn rf, h.1[q]? = some (kd, nn, rf)) ∧ kd = tl.getD 0 0) (hb : b ≤ st.length) (h4 : rsOk (st.drop b) = true) (hlong : ∀ v ∈ (st.take b).reverse, lng v = false)
    (hy : runF X n d a (0, ent a (st.take b).reverse, [], h) = some y) (hcnt : cnt (runF X n (d + 1) k) (tl.getD 1 0) (i + 1) ls (st.drop b) (tl.drop 2) (some y) = some r)
    {mc ms : Nat} (hrc : cz r.2 ≤ R.cells + c0) (hrs : slz r.2 ≤ R.slots + s0) (hmc : mc + c0 = cz r.2) (hms : ms + s0 = slz r.2) (hn2 : ∀ σ, runF X n (d + 1) k σ = some r → WA l G p e R s m args below meth c (PQ G below args s mc ms r) k c0 s0 σ) : WA l G p e R s m args below meth c (PQ G below args s mc ms r) k c0 s0 (i, ls, st, h) := by
  have hd := chk_dec hc
  have hble : Nat.ble 1000 a = false := by
    rw [Bool.eq_false_iff]
    exact fun q => h10 (Nat.le_of_ble_eq_true q)
  simp only [chk, hble, cond_false, chkC, Bool.and_eq_true, decide_eq_true_eq] at hc
  obtain ⟨-, hpc, ⟨⟨⟨⟨⟨⟨ha3, hbm⟩, hpar⟩, hb1⟩, hst⟩, hrk⟩, ⟨⟨⟨⟨hlk, hkd⟩, hko⟩, hha⟩, hhs⟩⟩⟩ := hc
  obtain ⟨e1, d1⟩ := pc_n hpc hd
  have ha3 : a < 333 := blt_lt ha3
  have hbm := Nat.le_of_ble_eq_true hbm
  have hb1 : 1 ≤ b := Nat.le_of_ble_eq_true hb1
  have hst : (mpl a).2.1 = 0 := Nat.eq_of_beq_eq_true hst
  have hha : hM a = [] := List.isEmpty_iff.mp hha
  have hko : mown a < 12 := blt_lt hko
  obtain ⟨m1, m2, m3, m4, -, m6, m7, m8, -⟩ := mf ha3
  obtain ⟨q, kd, hq, ⟨nn, rf, hcel⟩, hkd2⟩ := hact
  have hkd : kd = mown a := by
    have e9 : tl.getD 0 99 = mown a := Nat.eq_of_beq_eq_true hkd
    rw [hkd2]
    cases tl with
    | nil => simp [List.getD] at e9; omega
    | cons t tl => exact e9
  obtain ⟨ps, hps⟩ : ∃ ps, (st.take b).reverse = .ref q :: ps := by
    cases hr : (st.take b).reverse with
    | nil =>
      have : st.take b = [] := by simpa using hr
      rw [this] at hq; cases hq
    | cons v ps =>
      have h9 : st.take b = ps.reverse ++ [v] := by
        have := congrArg List.reverse hr
        simpa using this
      rw [h9] at hq
      simp at hq
      exact ⟨ps, by rw [hq]⟩
  have hlen : ((st.take b).reverse).length = b := by simp; omega
  have hpl : ps.length = b - 1 := by rw [hps] at hlen; simp at hlen; omega
  have hpar : (parseMethodDescriptor (yM a).desc).map (fun d => d.parameters.length) = some (b - 1) := hpar
  have hy9 := run_mono X n d a _ _ hy
  dsimp only at hy9
  have hsel : Cond.selects (cnm (mown a)) (yM a) (yM a) ∈ TBg := by rw [← m2]; exact m8 hst (hV_name hk hcode h10)
  have hM := meth_snd (mc := cz y.2 - cz h) (ms := slz y.2 - slz h) IH ha3 hlong (by rw [hlen]; exact hbm) hy (by have := hy9.1; omega) (by have := hy9.2; omega)
  intro H locs cells slots lsM hH hS hL h1 h2 T hT Y
  have h1 : cells + c0 = cz h := h1
  have h2 : slots + s0 = slz h := h2
  have hz := heap_at hc0 hT Y h1
  have F' := F
  obtain ⟨hx, hbb, hml, -, hlocks, -, hown, hts, hK, -, -, -, -, htab⟩ := F
  obtain ⟨hql, hrho, hw⟩ := hH.q hcel
  rw [cE_o hcel (by omega)] at hw
  have hcw : ∀ mc' ms' : Nat, CallW R s args (cnm (mown k)) (cnm (mown a)) ix (yM a) (bM a) (mxl a) (rM a) (wsM a) (rmM d mc' ms') mc' ms' (b - 1) := fun mc' ms' =>
    ⟨callB_M F' ha3 hha (hts _ (w_mlk hlk)) hpar, hts _ (m6 hst), hts _ hsel⟩
  have hpre : PreV s H (cnm (mown a)) (rho G q) (PcM EX G X (st.take b).reverse h) (ps.map (rv G)) := by
    refine ⟨pc_blind hEX, ?_, fun U hU hW => ?_⟩
    · rw [hrho]
      exact va_recv hK hH.1 (ci := kd) (q0 := q) (by rw [hkd]; exact cls12_at hko) hw
    · have h9 := pc_pre (as := (st.take b).reverse) hEX F' hE hH hS hz U hU hW
      rw [hps] at h9 ⊢
      exact h9
  have hstk := stack_eq (G := G) hb hps
  have hsz : lsM.size = mxl k := hL.2.1
  have hroom : cells + (cz y.2 - cz h) ≤ R.cells ∧ slots + (slz y.2 - slz h) ≤ R.slots := by
    have hle2 : hle y.2 r.2 := by
      obtain ⟨o, h'⟩ := y
      cases o with
      | inl v => exact run_mono X n (d + 1) k _ _ (next_inl hcnt)
      | inr x =>
        rcases thr_heap _ (next_inr hcnt) with ⟨σ, e3, e4⟩ | e3
        · have := run_mono X n (d + 1) k _ _ e4
          rw [e3] at this
          exact this
        · rw [e3]; exact hle_rfl _
    have g1 := hle2.1
    have g2 := hle2.2
    have g3 := hy9.1
    have g4 := hy9.2
    omega
  obtain ⟨o, h'⟩ := y
  have key : W p l e R s m args below meth c H locs cells slots (PQ G below args s mc ms r) (F0 m (pcf k i) lsM (st.map (rv G))) := by
    cases o with
    | inl v =>
      refine go_inl (rest := st.drop b) (av := (Value.ref (rho G q) :: ps.map (rv G)).toArray) (hn2 _ (next_inl hcnt)) e1 hL hS h1 h2 (mc := cz h' - cz h) (ms := slz h' - slz h) (by have := hy9.1; dsimp only at this; omega) (by have := hy9.2; dsimp only at this; omega) ?_
      exact va_runV (As := ps.map (rv G)) (b := rho G q) ⟨hx, hbb, hml, hown, hts⟩ (met_vx hM) (hcw _ _) hpre rfl (by simp [hpl]) hsz hstk (lv_room (rest_room h4)) d1 hroom
    | inr x =>
      have hrun := vx_runV (g := F0 m (pcf k i) lsM (st.map (rv G))) (As := ps.map (rv G)) (b := rho G q) (rest := (st.drop b).map (rv G)) (e := e) (below := below) (meth := meth) (locs := locs) (cells := cells) (slots := slots) ⟨hx, hbb, hml, hown, hts⟩ hM (hcw _ _) hpre rfl (by simp [hpl]) hsz hstk (lv_room (rest_room h4)) d1 hroom
      refine after_inr hrun hS (fun H1 locs1 q9 ce hH1 hS1 hq9 hvm hcl => ?_)
      have hthr := next_inr hcnt
      have c1 : cells + (cz h' - cz h) + c0 = cz h' := by have := hy9.1; dsimp only at this; omega
      have c2 : slots + (slz h' - slz h) + s0 = slz h' := by have := hy9.2; dsimp only at this; omega
      by_cases hnil : tl.drop 2 = []
      · rw [hnil] at hthr
        simp only [thr, Option.some.injEq] at hthr
        subst hthr
        have hMk := hM_nil hk hcode hnil
        have hmc : mc + c0 = cz h' := hmc
        have hms : ms + s0 = slz h' := hms
        refine vx_out (E := enm x) (ce := ce) (fun z hz9 => ?_) hlocks hq9 hvm hcl (fun t ht hal => ⟨rfl, by rw [ht]; exact hH1, hS1.F ht⟩) hS1.2.2 (by omega) (by omega)
        rw [htab, hMk] at hz9
        cases hz9
      · exact hCt p e R s m args below meth c _ k (d + 1) i c0 s0 x ls _ h' ix a b cv tl _ r F' hE hk hcode hnil hthr hn2 H1 locs1 _ _ lsM q9 ce hH1 hS1 hL c1 c2 hq9 hvm hcl
  exact key T hT Y
end FIN
