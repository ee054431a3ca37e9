/-! ===== soundness: static calls, constructors ===== -/
section FIN2
variable {l : Launch} {G : GC} {X : XS} {EX : State → Heap → Prop} {p : Program} {e : Env} {R : Room} {s : State} {m : MethodId} {args : Array Value} {below : List Frame} {meth : Method} {c : Code} {k d c0 s0 : Nat} {i : Nat} {ls st : List Value} {h : Hp} {ix a b n : Nat} {cv : Int32} {tl : List Nat} {y r : Rs}
theorem callN_M {mc ms nn : Nat} (hN : NstR EX) (F : FC l G X p R s m args meth c k (d + 1)) (hE : EX s s.heap) (ha : a < 333) (hh : hM a = []) (hlk : memM mlkN (mown k) ix a = true) (hn : (parseMethodDescriptor (yM a).desc).map (fun d => d.parameters.length) = some nn) : va_CN R s args (cnm (mown k)) ix (yM a) "JuniorPews" (bM a) (mxl a) (rM a) (wsM a) (rmM d mc ms) mc ms nn := by
  obtain ⟨-, -, -, -, -, -, -, hts, -, -, -, hfr, hlo, -⟩ := F
  obtain ⟨h1, h2, h3, h4, -, -, h7, -, -⟩ := mf ha
  have hm := mxl_20 (a := a) (Nat.lt_succ_of_lt ha)
  have hnw := hN s s.heap hE _ (w_mlkN hlk) rfl
  have hr : ∀ ma, ma ≤ 20 → (rmM d mc ms).frames + 1 ≤ R.frames ∧ 8 + (ma + 11) + (rmM d mc ms).locals ≤ R.locals := by
    intro ma hma
    clear h1 h2 h3 h4 h7 hts hlk hn hm hnw
    simp only [rmM]
    omega
  exact va_cnB nn hts (goodIn_M h1) (by unfold wsM cw; rw [hh]) rfl rfl hnw (hts _ h7) ⟨h4.1, h4.2, hn⟩ (hr _ hm)
theorem callW_M {mc ms nn : Nat} {x0 : Nat × Nat × Nat × Nat} {xs : List (Nat × Nat × Nat × Nat)} (F : FC l G X p R s m args meth c k (d + 1)) (ha : a < 333) (hh : hM a = x0 :: xs) (hst : (mpl a).2.1 = 1) (hlk : memM mlk (mown k) ix a = true) (hn : (parseMethodDescriptor (yM a).desc).map (fun d => d.parameters.length) = some nn) : vx_CSW R s args (cnm (mown k)) ix (yM a) (bM a) (mxl a) (rM a) (x0 :: xs) (wsM a) (rmM d mc ms) mc ms nn := by
  obtain ⟨-, -, -, -, -, -, -, hts, -, -, -, hfr, hlo, -⟩ := F
  obtain ⟨h1, h2, h3, h4, h5, -, h7, -, -⟩ := mf ha
  have hm := mxl_20 (a := a) (Nat.lt_succ_of_lt ha)
  have hr : ∀ ma, ma ≤ 20 → (rmM d mc ms).frames + 1 ≤ R.frames ∧ 8 + (ma + 11) + (rmM d mc ms).locals ≤ R.locals := by
    intro ma hma
    clear h1 h2 h3 h4 h5 h7 hts hlk hn hm
    simp only [rmM]
    omega
  refine vx_cwSW nn hts (fun w hw => ?_) (by unfold wsM cw; rw [hh]) rfl rfl ⟨h4.1, h4.2, hn⟩ (hr _ hm)
  have hm2 : w ∈ TBg := by
    unfold va_wsS at hw
    rcases List.mem_append.mp hw with q | q
    · simp only [List.mem_cons, List.not_mem_nil, or_false] at q
      rcases q with q | q | q
      · rw [q]; exact w_mlk hlk
      · rw [q]; exact h5 hst
      · rw [q]; exact h7
    · exact (goodIn_M h1 w q).1
  exact ⟨hm2, good_of_word (List.mem_filter.mp hm2).2⟩
theorem room_y {cells slots : Nat} {f : FS → Option Rs} {rk i' : Nat} {rest : List Value} {hs : List Nat} (hf : ∀ σ, f σ = some r → hle σ.2.2.2 r.2) (hcnt : cnt f rk i' ls rest hs (some y) = some r) (hy9 : hle h y.2) (h1 : cells + c0 = cz h) (h2 : slots + s0 = slz h) (hrc : cz r.2 ≤ R.cells + c0) (hrs : slz r.2 ≤ R.slots + s0) : cells + (cz y.2 - cz h) ≤ R.cells ∧ slots + (slz y.2 - slz h) ≤ R.slots := by
  have hle2 : hle y.2 r.2 := by
    obtain ⟨o, h'⟩ := y
    cases o with
    | inl v => exact hf _ (next_inl hcnt)
    | inr x =>
      rcases thr_heap _ (next_inr hcnt) with ⟨σ, e3, e4⟩ | e3
      · have := hf _ e4
        rw [e3] at this
        exact this
      · rw [e3]; exact hle_rfl _
  have g1 := hle2.1
  have g2 := hle2.2
  have g3 := hy9.1
  have g4 := hy9.2
  omega
theorem call_S (IH : SndP l G X EX n) (hEX : EXc EX G) (hN : NstR EX) (F : FC l G X p R s m args meth c k (d + 1)) (hE : EX s s.heap) (hc0 : s.heap.size ≤ G.1 + c0) (hk : k < NM) (hc : chk k i (.invokestatic ix, a, b, cv, tl) = true) (h10 : ¬ 1000 ≤ a)
    (hb : b ≤ st.length) (h4 : rsOk (st.drop b) = true) (hlong : ∀ v ∈ (st.take b).reverse, lng v = false)
    (hy : runF X n d a (0, ent a (st.take b).reverse, [], h) = some y) (hcnt : cnt (runF X n (d + 1) k) (tl.getD 1 0) (i + 1) ls (st.drop b) (tl.drop 2) (some y) = some r)
    {mc ms : Nat} (hrc : cz r.2 ≤ R.cells + c0) (hrs : slz r.2 ≤ R.slots + s0) (hmc : mc + c0 = cz r.2) (hms : ms + s0 = slz r.2) (hn2 : ∀ σ, runF X n (d + 1) k σ = some r → WA l G p e R s m args below meth c (PQ G below args s mc ms r) k c0 s0 σ) : WA l G p e R s m args below meth c (PQ G below args s mc ms r) k c0 s0 (i, ls, st, h) := by
  have hd := chk_dec hc
  have hble : Nat.ble 1000 a = false := by
    rw [Bool.eq_false_iff]
    exact fun q => h10 (Nat.le_of_ble_eq_true q)
  simp only [chk, hble, cond_false, chkC, Bool.and_eq_true, Bool.or_eq_true, decide_eq_true_eq] at hc
  obtain ⟨-, hpc, ⟨⟨⟨⟨⟨⟨ha3, hbm⟩, hpar⟩, hb1⟩, hst⟩, hrk⟩, hkind⟩⟩ := hc
  obtain ⟨e1, d1⟩ := pc_n hpc hd
  have ha3 : a < 333 := blt_lt ha3
  have hbm := Nat.le_of_ble_eq_true hbm
  have hst : (mpl a).2.1 = 1 := Nat.eq_of_beq_eq_true hst
  obtain ⟨m1, m2, m3, m4, m5, -, m7, -, -⟩ := mf ha3
  have hlen : ((st.take b).reverse).length = b := by simp; omega
  have hpar : (parseMethodDescriptor (yM a).desc).map (fun d => d.parameters.length) = some b := hpar
  have hy9 := run_mono X n d a _ _ hy
  dsimp only at hy9
  have hMet := meth_snd (mc := cz y.2 - cz h) (ms := slz y.2 - slz h) IH ha3 hlong (by rw [hlen]; exact hbm) hy (by have := hy9.1; omega) (by have := hy9.2; omega)
  intro H locs cells slots lsM hH hS hL h1 h2 T hT Y
  have h1 : cells + c0 = cz h := h1
  have h2 : slots + s0 = slz h := h2
  have hz := heap_at hc0 hT Y h1
  have F' := F
  obtain ⟨hx, hbb, hml, -, hlocks, -, hown, hts, hK, -, -, -, -, htab⟩ := F
  have hpre : PreS s H (PcM EX G X (st.take b).reverse h) (((st.take b).reverse).map (rv G)) := ⟨pc_blind hEX, fun U hU hW => pc_pre hEX F' hE hH hS hz U hU hW⟩
  have hstk := stack_eqS (G := G) hb
  have hsz : lsM.size = mxl k := hL.2.1
  have hal : (((st.take b).reverse).map (rv G)).length = b := by rw [List.length_map]; exact hlen
  have hroom := room_y (fun σ hσ => run_mono X n (d + 1) k σ r hσ) hcnt hy9 h1 h2 hrc hrs
  have h0s : ∀ (o : Nat) (h' : Hp), y = (.inr o, h') → tl.drop 2 = [0] → False := by
    intro o h' e9 e8
    rw [e9] at hcnt
    have := next_inr hcnt
    rw [e8] at this
    cases this
  obtain ⟨o, h'⟩ := y
  have key : W p l e R s m args below meth c H locs cells slots (PQ G below args s mc ms r) (F0 m (pcf k i) lsM (st.map (rv G))) := by
    cases o with
    | inl v =>
      refine go_inl (rest := st.drop b) (av := (((st.take b).reverse).map (rv G)).toArray) (hn2 _ (next_inl hcnt)) e1 hL hS h1 h2 (mc := cz h' - cz h) (ms := slz h' - slz h) (by have := hy9.1; dsimp only at this; omega) (by have := hy9.2; dsimp only at this; omega) ?_
      rcases hkind with ⟨hlk, hkind⟩ | ⟨⟨hlk, hha⟩, h0⟩
      · cases hha : hM a with
        | nil => exact va_runS (As := ((st.take b).reverse).map (rv G)) ⟨hx, hbb, hml, hown, hts⟩ (met_vx hMet) ⟨callB_M F' ha3 hha (hts _ (w_mlk hlk)) hpar, hts _ (m5 hst)⟩ hpre rfl hal hsz hstk (lv_room (rest_room h4)) d1 hroom
        | cons x0 xs => exact vx_runSW (As := ((st.take b).reverse).map (rv G)) ⟨hx, hbb, hml, hown, hts⟩ (met_vx hMet) (callW_M F' ha3 hha hst hlk hpar) hpre rfl hal hsz hstk (lv_room (rest_room h4)) d1 hroom
      · have hha : hM a = [] := List.isEmpty_iff.mp hha
        exact va_runSN (As := ((st.take b).reverse).map (rv G)) ⟨hx, hbb, hml, hown, hts⟩ (met_vx hMet) ⟨callN_M hN F' hE ha3 hha hlk hpar, hts _ (m5 hst), trivial⟩ hpre rfl hal hsz hstk (lv_room (rest_room h4)) d1 hroom
    | inr x =>
      rcases hkind with ⟨hlk, hkind⟩ | ⟨⟨hlk, hha⟩, h0⟩
      · rcases hkind with ⟨⟨hha, hnil⟩, hMk⟩ | h0
        · have hha : hM a = [] := List.isEmpty_iff.mp hha
          have hnil : tl.drop 2 = [] := List.isEmpty_iff.mp hnil
          have hMk : hM k = [] := List.isEmpty_iff.mp hMk
          have hrun := vx_runS (g := F0 m (pcf k i) lsM (st.map (rv G))) (As := ((st.take b).reverse).map (rv G)) (rest := (st.drop b).map (rv G)) (e := e) (below := below) (meth := meth) (locs := locs) (cells := cells) (slots := slots) ⟨hx, hbb, hml, hown, hts⟩ hMet ⟨callB_M F' ha3 hha (hts _ (w_mlk hlk)) hpar, hts _ (m5 hst)⟩ hpre rfl hal hsz hstk (lv_room (rest_room h4)) d1 hroom
          refine after_inr hrun hS (fun H1 locs1 q9 ce hH1 hS1 hq9 hvm hcl => ?_)
          have hthr := next_inr hcnt
          rw [hnil] at hthr
          simp only [thr, Option.some.injEq] at hthr
          subst hthr
          have hmc : mc + c0 = cz h' := hmc
          have hms : ms + s0 = slz h' := hms
          have c1 : cells + (cz h' - cz h) + c0 = cz h' := by have := hy9.1; dsimp only at this; omega
          have c2 : slots + (slz h' - slz h) + s0 = slz h' := by have := hy9.2; dsimp only at this; omega
          refine vx_out (E := enm x) (ce := ce) (fun z hz9 => ?_) hlocks hq9 hvm hcl (fun t ht hal => ⟨rfl, by rw [ht]; exact hH1, hS1.F ht⟩) hS1.2.2 (by omega) (by omega)
          rw [htab, hMk] at hz9
          cases hz9
        · exact (h0s x h' rfl h0).elim
      · exact (h0s x h' rfl h0).elim
  exact key T hT Y
theorem call_I (IH : SndP l G X EX n) (hEX : EXc EX G) (hN : NstR EX) (F : FC l G X p R s m args meth c k (d + 1)) (hE : EX s s.heap) (hc0 : s.heap.size ≤ G.1 + c0) (hk : k < NM) (hc : chk k i (.invokespecial ix, a, b, cv, tl) = true) (h10 : ¬ 1000 ≤ a)
    (hact : ∃ q, (st.take b).getLast? = some (.ref q)) (hb : b ≤ st.length) (h4 : rsOk (st.drop b) = true) (hlong : ∀ v ∈ (st.take b).reverse, lng v = false)
    (hy : runF X n d a (0, ent a (st.take b).reverse, [], h) = some y) (hcnt : cnt (runF X n (d + 1) k) (tl.getD 1 0) (i + 1) ls (st.drop b) (tl.drop 2) (some y) = some r)
    {mc ms : Nat} (hrc : cz r.2 ≤ R.cells + c0) (hrs : slz r.2 ≤ R.slots + s0) (hmc : mc + c0 = cz r.2) (hms : ms + s0 = slz r.2) (hn2 : ∀ σ, runF X n (d + 1) k σ = some r → WA l G p e R s m args below meth c (PQ G below args s mc ms r) k c0 s0 σ) : WA l G p e R s m args below meth c (PQ G below args s mc ms r) k c0 s0 (i, ls, st, h) := by
  have hd := chk_dec hc
  have hble : Nat.ble 1000 a = false := by
    rw [Bool.eq_false_iff]
    exact fun q => h10 (Nat.le_of_ble_eq_true q)
  simp only [chk, hble, cond_false, chkC, Bool.and_eq_true, Bool.or_eq_true, decide_eq_true_eq] at hc
  obtain ⟨-, hpc, ⟨⟨⟨⟨⟨⟨ha3, hbm⟩, hpar⟩, hb1⟩, hst⟩, hrk⟩, ⟨⟨⟨⟨hlk, hha⟩, h0⟩, hini⟩, hrM⟩⟩⟩ := hc
  obtain ⟨e1, d1⟩ := pc_n hpc hd
  have ha3 : a < 333 := blt_lt ha3
  have hbm := Nat.le_of_ble_eq_true hbm
  have hst : (mpl a).2.1 = 0 := Nat.eq_of_beq_eq_true hst
  have hha : hM a = [] := List.isEmpty_iff.mp hha
  obtain ⟨m1, m2, m3, m4, -, m6, m7, -, -⟩ := mf ha3
  obtain ⟨q, hq⟩ := hact
  obtain ⟨ps, hps⟩ : ∃ ps, (st.take b).reverse = .ref q :: ps := by
    cases hr : (st.take b).reverse with
    | nil =>
      have : st.take b = [] := by simpa using hr
      rw [this] at hq; cases hq
    | cons v ps =>
      have h9 : st.take b = ps.reverse ++ [v] := by
        have := congrArg List.reverse hr
        simpa using this
      rw [h9] at hq
      simp at hq
      exact ⟨ps, by rw [hq]⟩
  have hlen : ((st.take b).reverse).length = b := by simp; omega
  have hpl : ps.length = b - 1 := by rw [hps] at hlen; simp at hlen; omega
  have hpar : (parseMethodDescriptor (yM a).desc).map (fun d => d.parameters.length) = some (b - 1) := hpar
  have hy9 := run_mono X n d a _ _ hy
  dsimp only at hy9
  have hMet := meth_snd (mc := cz y.2 - cz h) (ms := slz y.2 - slz h) IH ha3 hlong (by rw [hlen]; exact hbm) hy (by have := hy9.1; omega) (by have := hy9.2; omega)
  intro H locs cells slots lsM hH hS hL h1 h2 T hT Y
  have h1 : cells + c0 = cz h := h1
  have h2 : slots + s0 = slz h := h2
  have hz := heap_at hc0 hT Y h1
  have F' := F
  obtain ⟨hx, hbb, hml, -, hlocks, -, hown, hts, hK, -, -, -, -, htab⟩ := F
  have hpre : PreS s H (PcM EX G X (st.take b).reverse h) (.ref (rho G q) :: ps.map (rv G)) := by
    refine ⟨pc_blind hEX, fun U hU hW => ?_⟩
    have h9 := pc_pre (as := (st.take b).reverse) hEX F' hE hH hS hz U hU hW
    rw [hps] at h9 ⊢
    exact h9
  have hstk := stack_eq (G := G) hb hps
  have hsz : lsM.size = mxl k := hL.2.1
  have hroom := room_y (fun σ hσ => run_mono X n (d + 1) k σ r hσ) hcnt hy9 h1 h2 hrc hrs
  obtain ⟨o, h'⟩ := y
  have key : W p l e R s m args below meth c H locs cells slots (PQ G below args s mc ms r) (F0 m (pcf k i) lsM (st.map (rv G))) := by
    cases o with
    | inl v =>
      refine go_inl (rest := st.drop b) (av := (Value.ref (rho G q) :: ps.map (rv G)).toArray) (hn2 _ (next_inl hcnt)) e1 hL hS h1 h2 (mc := cz h' - cz h) (ms := slz h' - slz h) (by have := hy9.1; dsimp only at this; omega) (by have := hy9.2; dsimp only at this; omega) ?_
      rcases hlk with hlk | hlk
      · have hcb := callB_M (mc := cz h' - cz h) (ms := slz h' - slz h) F' ha3 hha (hts _ (w_mlk hlk)) hpar
        rw [hrM] at hcb
        exact va_runI (As := ps.map (rv G)) (b := rho G q) ⟨hx, hbb, hml, hown, hts⟩ (met_vx hMet) ⟨hcb, hini, hts _ (m6 hst)⟩ hpre rfl (by simp [hpl]) hsz hstk (lv_room (rest_room h4)) d1 hroom
      · have hcb := callN_M (mc := cz h' - cz h) (ms := slz h' - slz h) hN F' hE ha3 hha hlk hpar
        rw [hrM] at hcb
        exact va_runIN (As := ps.map (rv G)) (b := rho G q) ⟨hx, hbb, hml, hown, hts⟩ (met_vx hMet) ⟨hcb, hini, hts _ (m6 hst)⟩ hpre rfl (by simp [hpl]) hsz hstk (lv_room (rest_room h4)) d1 hroom
    | inr x =>
      have := next_inr hcnt
      rw [h0] at this
      cases this
  exact key T hT Y
end FIN2
