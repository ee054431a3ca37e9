/-! ===== the claim out of one run of the abstract machine (the tail of it after kit/laws/SKELETON.whole) ===== -/
def R_law : String := "JuniorPewsLaw"
def lw_P (b : Addr) (xs : List Int32) (args : Array Value) (s : State) : Prop := args = #[.ref b] ∧ s.IntsAt b xs ∧ xs.length ≤ 3072 ∧ (Jvm.Cond.and given_1 narrow_1).before args s = true
def lw_Q (_ : Array Value) (s : State) (o : Outcome) (t : State) : Prop := o = .returned (some (.int 1)) ∧ Framed s o t [] 601024 7293034
def lw_Z (below : List Frame) (a : Array Value) (s : State) : State → Prop := fun t => ∃ o, t.status = .running ∧ Ended t below o ∧ lw_Q a s o t
def lw_At (p : Program) (s : State) (m : MethodId) (meth : Method) (c : Code) (b L : Nat) (xs : Nat → Int32) : Prop :=
  p.tables.exec = Jvm.exec ∧ c.code = code ∧ meth.sig.returnType = ret ∧ c.maxLocals = 7 ∧ s.vm.findClass R_law = some m.cls ∧ (∀ w ∈ lw_tbl, w.before #[Value.ref b] s = true) ∧ va_X b L xs s s.heap ∧ b < s.heap.size ∧ meth.locks = false ∧ (Jvm.Cond.and given_1 narrow_1).before #[Value.ref b] s = true ∧ meth.name = x.name ∧ c.exceptionTable.toList = []
/-- the abstract machine's start, and what it must come to -/
def h0 : Hp := ([], 0, (fun _ _ => 0), (fun _ _ => 0))
def AMR : Prop := ∀ (xs : Nat → Int32) (L : Nat), L ≤ 3072 → ∃ (n : Nat) (h' : Hp), runF (xs, L) n 60 333 (0, ent 333 [.ref aSCR], [], h0) = some (.inl (some (.int 1)), h') ∧ cz h' ≤ 601024 ∧ slz h' ≤ 7293034
theorem lw_forget {s t : State} {L : List Loc} {k n k' n' : Nat} (h : s.sameButNew t L k n) (hL : ∀ q ∈ L, s.heap.size ≤ q.base) (hk : k ≤ k') (hn : n ≤ n') : s.sameButNew t [] k' n' := by
  obtain ⟨h1, h2, h3, h4, h5, h6⟩ := h
  refine ⟨h1, h2, by omega, h4, by omega, fun a c hc => ?_⟩
  obtain ⟨c', g1, g2, g3, g4⟩ := h6 a c hc
  refine ⟨c', g1, g2, g3, fun i _ => g4 i (fun hm => ?_)⟩
  have h7 := (Array.getElem?_eq_some_iff.mp hc).1
  exact absurd (hL _ hm) (Nat.not_le.mpr h7)
def strPl : List Nat := [791, 844, 732, 1029, 1047, 1088, 1162, 1285, 1406]
theorem strPl_ok : strT.map (fun q => some (Cond.stringRef q.2.1 q.2.2.1 q.2.2.2)) = strPl.map (fun i => lw_tbl[i]?) := by decide +kernel
theorem strEx_ok : ∀ q ∈ strT, Cond.exactly (.string q.2.1 q.2.2.1) "java/lang/String" ∈ flatC (Jvm.Cond.and given_1 narrow_1) := by decide +kernel
theorem strT_mem {q : Nat × String × Nat × String} (hq : q ∈ strT) : Cond.stringRef q.2.1 q.2.2.1 q.2.2.2 ∈ lw_tbl := by
  have h1 : some (Cond.stringRef q.2.1 q.2.2.1 q.2.2.2) ∈ strT.map (fun q => some (Cond.stringRef q.2.1 q.2.2.1 q.2.2.2)) := List.mem_map.mpr ⟨q, hq, rfl⟩
  rw [strPl_ok] at h1
  obtain ⟨i, -, h2⟩ := List.mem_map.mp h1
  exact List.mem_of_getElem? h2
/-- the two texts that are read -/
def tmS (i : Nat) : Term := cond (Nat.beq i 0) (.string "JuniorPews$Reader" 86) (.string "JuniorPews$Reader" 78)
theorem tm_ex : ∀ i, i < 2 → Cond.exactly (tmS i) "java/lang/String" ∈ flatC (Jvm.Cond.and given_1 narrow_1) ∧ Cond.eq (.field (tmS i) "java/lang/String" "coder" "B") (.int 0) ∈ flatC (Jvm.Cond.and given_1 narrow_1) ∧ Cond.arrayOf (.field (tmS i) "java/lang/String" "value" "[B") .byte ∈ flatC (Jvm.Cond.and given_1 narrow_1) ∧ Cond.eq (.length (.field (tmS i) "java/lang/String" "value" "[B")) (.int (Int32.ofNat (lenS.getD i 0))) ∈ flatC (Jvm.Cond.and given_1 narrow_1) := by decide +kernel
theorem tm_el : ∀ i, i < 2 → ∀ j, j < lenS.getD i 0 → Cond.eq (.elem (.field (tmS i) "java/lang/String" "value" "[B") (.int (Int32.ofNat j))) (.int ((bytS.getD i []).getD j 0)) ∈ flatC (Jvm.Cond.and given_1 narrow_1) := by decide +kernel
theorem tm_ne : Cond.not (Cond.eq (tmS 0) (tmS 1)) ∈ flatC (Jvm.Cond.and given_1 narrow_1) := by decide +kernel
theorem lw_prem : Cond.isRef (.static "java/lang/Throwable" "UNASSIGNED_STACK" "[Ljava/lang/StackTraceElement;") ∈ flatC (Jvm.Cond.and given_1 narrow_1) ∧ Cond.isRef (.static "java/lang/Throwable" "SUPPRESSED_SENTINEL" "Ljava/util/List;") ∈ flatC (Jvm.Cond.and given_1 narrow_1) ∧ Cond.eq (.static "java/lang/String" "COMPACT_STRINGS" "Z") (.int 1) ∈ flatC (Jvm.Cond.and given_1 narrow_1) ∧ Cond.isRef (.static "jdk/internal/util/Preconditions" "SIOOBE_FORMATTER" "Ljava/util/function/BiFunction;") ∈ flatC (Jvm.Cond.and given_1 narrow_1) ∧ Cond.not (.castable IAEn NSEn) ∈ flatC (Jvm.Cond.and given_1 narrow_1) := by decide +kernel
theorem lw_pl : lw_tbl[719]? = some (.laysStatic "java/lang/Throwable" "UNASSIGNED_STACK" "[Ljava/lang/StackTraceElement;") ∧ lw_tbl[721]? = some (.laysStatic "java/lang/Throwable" "SUPPRESSED_SENTINEL" "Ljava/util/List;") ∧ lw_tbl[801]? = some (.laysStatic "java/lang/String" "COMPACT_STRINGS" "Z") ∧ lw_tbl[817]? = some (.laysStatic "jdk/internal/util/Preconditions" "SIOOBE_FORMATTER" "Ljava/util/function/BiFunction;") ∧ lw_tbl[133]? = some (.initialized "java/lang/Throwable") ∧ lw_tbl[138]? = some (.initialized "java/lang/String") ∧ lw_tbl[140]? = some (.initialized "jdk/internal/util/Preconditions") := by decide +kernel
theorem lw_333 : bM 333 = code ∧ mxl 333 = 7 ∧ rM 333 = ret ∧ (yM 333).name = x.name ∧ cnm (mown 333) = R_law ∧ hM 333 = [] ∧ pcf 333 0 = 0 := ⟨rfl, rfl, rfl, rfl, rfl, rfl, rfl⟩
theorem arr_of {s : State} {args : Array Value} {ty : FieldType} (h : (Cond.arrayClass ty).before args s = true) : ∃ cA : ClassId, ArrOfT s cA ty ∧ s.vm.findClass ("[" ++ ty.toString) = some cA := by
  obtain ⟨cA, kA, comp, h1, h2, h3⟩ := Cond.arrayClass_spec h
  exact ⟨cA, fun n z => ⟨fun k h => (by cases h), kA, h2, comp, h3⟩, h1⟩
theorem known12 {s : State} {args : Array Value} (hts : ∀ w ∈ lw_tbl, w.before args s = true) : ∃ (dC : Nat → ClassId) (dI : Nat → Nat → Nat), ∀ (k : Nat) (q : vw_C), cls12[k]? = some q → u_Kn s q.1 q.2.1 q.2.2 (dC k) (dI k) := by
  have h0 : ∀ k : Nat, ∃ q : ClassId × (Nat → Nat), k < 12 → u_Kn s (cnm k) (Tc k) (Nf k) q.1 q.2 := by
    intro k
    by_cases hk : k < 12
    · obtain ⟨a, b, h⟩ := u_known (C := cnm k) (T := Tc k) (N := Nf k) (n := Nf k) hts (fun w hw => (List.mem_filter.mp (in12 hk w hw)).1) (hts _ (ins12 k hk).1)
      exact ⟨(a, b), fun _ => h⟩
    · exact ⟨(0, fun _ => 0), fun h => absurd h hk⟩
  obtain ⟨f, hf⟩ := Classical.axiomOfChoice h0
  refine ⟨fun k => (f k).1, fun k => (f k).2, fun k q hq => ?_⟩
  have hk : k < 12 := by
    have := (List.getElem?_eq_some_iff.mp hq).1
    simpa [cls12] using this
  rw [cls12_at hk] at hq
  cases hq
  exact hf k hk
set_option maxHeartbeats 4000000 in
theorem whole_start (hAM : AMR) {p : Program} {e : Env} {s : State} {m : MethodId} {below : List Frame} {meth : Method} {c : Code} (l : Launch) (hflags : l.flags = flags0) {b L : Nat} {xs : Nat → Int32} (hL : L ≤ 3072) (C0 : lw_At p s m meth c b L xs) : W p l e room_1 s m #[Value.ref b] below meth c s.heap [] 0 0 (lw_Z below #[Value.ref b] s) (entryFrame m ([Value.ref b] : List Value).toArray 7) := by
  obtain ⟨hx, hb, hr, hml, hown, hts, hX, hbl, hlocks, hgv, hnm, htab⟩ := C0
  obtain ⟨n, h', hrun, hcz, hslz⟩ := hAM xs L hL
  have hfl := flat_of_before _ hgv
  have hst : l.stackTraces = false := by
    unfold Launch.stackTraces
    rw [hflags]
    decide
  obtain ⟨dC, dI, hKc⟩ := known12 hts
  obtain ⟨cI, aI, fI⟩ := arr_of (hts _ (List.mem_filter.mp w_arrI).1)
  obtain ⟨cZ, aZ, fZ⟩ := arr_of (hts _ (List.mem_filter.mp w_arrZ).1)
  obtain ⟨cJ, aJ, fJ⟩ := arr_of (hts _ (List.mem_filter.mp w_arrJ).1)
  have hA : ∀ a : Nat, a < s.heap.size → ¬ gAt s.heap.size a := fun a h => Nat.not_le.mpr h
  obtain ⟨adK, adV, hvS, hvE⟩ := vk_Sof (args := #[Value.ref b]) (s := s) (N := 2) (tm := tmS) (len := lenS) (byt := bytS) (A := gAt s.heap.size) (fun i hi => Nat.lt_trans (lenS_b hi) (by decide)) (fun i hi => hfl _ (tm_ex i hi).1) (fun i hi => hfl _ (tm_ex i hi).2.1) (fun i hi => hfl _ (tm_ex i hi).2.2.1) (fun i hi => hfl _ (tm_ex i hi).2.2.2)
    (fun i hi j hj => hfl _ (tm_el i hi j hj)) (fun i j hi hj hij => by
      have h01 := hfl _ tm_ne
      match i, j, hi, hj with
      | 0, 0, _, _ => exact absurd rfl hij
      | 0, 1, _, _ => exact Or.inl h01
      | 1, 0, _, _ => exact Or.inr h01
      | 1, 1, _, _ => exact absurd rfl hij
      | 0, j + 2, _, hj => omega
      | 1, j + 2, _, hj => omega
      | i + 2, _, hi, _ => omega) hA
  let G : GC := (s.heap.size, (dC, dI), (cI, cZ, cJ), b, fun q => adK (ix2 q))
  have hK : va_K G.2.1 cls12 (gT G) s := by
    refine ⟨hKc, fun k q hq => ?_⟩
    match k, hq with
    | 0, hq => cases hq; exact ⟨aI, fI⟩
    | 1, hq => cases hq; exact ⟨aZ, fZ⟩
    | 2, hq => cases hq; exact ⟨aJ, fJ⟩
    | k + 3, hq => simp [gT] at hq
  obtain ⟨e1, e2, e3, e4, e5, e6, e7⟩ := lw_333
  have F : FC l G (xs, L) p room_1 s m #[Value.ref b] meth c 333 60 :=
    ⟨hx, hb.trans e1.symm, hml.trans e2.symm, hr.trans e3.symm, hlocks, hnm.trans e4.symm, by rw [e5]; exact hown, fun w hw => hts w (List.mem_filter.mp hw).1, hK, Nat.le_refl _, ⟨hX, hbl⟩, Nat.le_of_ble_eq_true rfl, Nat.le_of_ble_eq_true rfl, by rw [e6]; exact htab⟩
  obtain ⟨p1, p2, p3, p4, p5⟩ := lw_prem
  obtain ⟨q1, q2, q3, q4, q5, q6, q7⟩ := lw_pl
  have tw : ∀ {i : Nat} {w : Cond}, lw_tbl[i]? = some w → w.before #[Value.ref b] s = true := fun h => hts _ (List.mem_of_getElem? h)
  have hR : ∀ q ∈ strT, ∃ a, vk_R q.2.1 q.2.2.1 q.2.2.2 a s := by
    intro q hq
    obtain ⟨a, cc, cA, kA, g1, -⟩ := Cond.exactly_spec (args := #[Value.ref b]) (first := s) (o := none) (s := s) (idx := []) (t := .string q.2.1 q.2.2.1) (cls := "java/lang/String") (hfl _ (strEx_ok q hq))
    exact ⟨a, vk_R.of (hts _ (strT_mem hq)) g1⟩
  have hE : EX (SXF G adK adV) G s s.heap := by
    refine ⟨fun w hw hn => va_Nw.of (nbk_ot hn) (hts w hw), hR, ⟨vx_Zqof (tw q1) (tw q5) (hfl _ p1) hA, vx_Zqof (tw q2) (tw q5) (hfl _ p2) hA⟩, va_Nc.of (hfl _ p5), ⟨hvS, va_Zof (tw q3) (tw q6) (va_eqi (hfl _ p3)) hA, va_Zqof (tw q4) (tw q7) (hfl _ p4) hA⟩, ?_, ?_⟩
    · exact vk_R.of (hts _ (strT_mem (q := (900001, "JuniorPews$Reader", 86, "person seats arrives sulks minds or and not age pew seat moved away sunday theirs ")) (by decide))) (hvE 0 (by decide))
    · exact vk_R.of (hts _ (strT_mem (q := (900002, "JuniorPews$Reader", 78, ";()+-*/<=")) (by decide))) (hvE 1 (by decide))
  have hG : ∀ q, 900001 ≤ q → G.2.2.2.2 q = adK (ix2 q) := fun q _ => rfl
  have hw := snd_all (l := l) (G := G) (X := (xs, L)) chk_all (EX_c SXF_c) EX_n (thr_R hst) (str_R chk_all hG) (cat_R chk_all) n 60 333 _ _ (by decide) hrun p e room_1 s m #[Value.ref b] below meth c 0 0 (cz h') (slz h') F hE (Nat.le_refl _) (by rw [Nat.add_zero]; exact hcz) (by rw [Nat.add_zero]; exact hslz) rfl rfl
  have hH0 : HW G h0 s.heap := ⟨fun k q h => by simp [wl, h0] at h, Nat.zero_le _, fun q kd n rf k p h => by simp [h0] at h⟩
  have hL0 : LR G (ent 333 [.ref aSCR]) (mxl 333) ((lg_sl ([Value.ref aSCR].map (rv G)) ++ List.replicate (mxl 333 - (lg_sl ([Value.ref aSCR].map (rv G))).length) Slot.unset).toArray) := LR_entry (fun v hv => by rw [List.mem_singleton.mp hv]; rfl) (by decide)
  have hw := hw s.heap [] 0 0 _ hH0 va_S.rf hL0 rfl rfl
  have er : [Value.ref aSCR].map (rv G) = [Value.ref b] := by
    show [Value.ref (rho G aSCR)] = _
    rw [rho_scr]
  rw [er] at hw
  rw [lg_entry_eq]
  dsimp only at hw
  rw [e7, e2] at hw
  intro T hT Y
  obtain ⟨t, a1, o, g1, g2, g3, L1, g4, g5⟩ := hw T hT Y
  obtain ⟨g6, -, -⟩ := g3
  refine ⟨t, a1, o, g1, g2, g6, g4.1, g4.2.1, lw_forget g4.2.2 (fun q hq => g5 q hq) hcz hslz⟩
set_option maxHeartbeats 4000000 in
theorem lw_walk (hAM : AMR) (l : Launch) (hflags : l.flags = flags0) (b : Addr) (xs : List Int32) : MetFree l x (headSpec (Jvm.Cond.code x code maxLocals ret :: tables_1) room_1) (lw_P b xs) (fun _ _ _ _ _ => True) lw_Q := by
  refine MetFree.of_bodyS (code := code) (maxLocals := maxLocals) (ret := ret) (by decide) ?_ ?_
  · intro args s m h hn
    obtain ⟨meth, c, h1, h2, h3, h4, h5, h6, -, -⟩ := Cond.code_spec hn (atoms_spec (ws := Jvm.Cond.code x code maxLocals ret :: tables_1) h _ List.mem_cons_self)
    exact ⟨meth, c, h1, h2, h3, h4, h5, h6⟩
  · intro p e s m args below meth c s₁ B hml0 hP _
    obtain ⟨rfl, hx, hbd, hgv⟩ := hP
    obtain ⟨scr, harrAt, hlist, hof, hsmall⟩ := hx
    obtain ⟨hcb, hkn, -, -⟩ := State.arrayAt?_spec harrAt
    have hown : s.vm.findClass R_law = some m.cls := findClass_of_methodNamed B.named
    have hts0 : ∀ c ∈ (Jvm.Cond.code x code maxLocals ret :: tables_1), c.before #[Value.ref b] s = true := atoms_spec (ws := Jvm.Cond.code x code maxLocals ret :: tables_1) B.pre
    have hts : ∀ w ∈ lw_tbl, w.before #[Value.ref b] s = true := k2_hts_sels lw_privs (fun w hw => hts0 w (List.mem_cons_of_mem _ hw)) lw_privs_ok
    have hml : c.maxLocals = 7 := B.maxLocals_eq (hts0 _ List.mem_cons_self)
    have X₀ : Stand p l e room_1 s m #[Value.ref b] below meth c s₁ [] 0 0 := Stand.of_body B
    have hh0 : s₁.heap = s.heap := by rw [B.state]; rfl
    have hsz : scr.slots.size = xs.length := by rw [← Array.length_toList, hlist, List.length_map]
    have hval : ∀ j : Nat, j < xs.length → scr.slots[j]? = some (.int (xs.getD j 0)) := fun j hj => by
      rw [← Array.getElem?_toList, hlist]
      simp [hj]
    have hbl : b < s.heap.size := (Array.getElem?_eq_some_iff.mp hcb).1
    have hX : va_X b xs.length (fun j => xs.getD j 0) s s.heap := ⟨scr, hcb, hof, hkn, hsz, hval⟩
    have htab : c.exceptionTable.toList = [] := by
      obtain ⟨meth9, c9, h1, h2, -, -, -, -, h7, -⟩ := Cond.code_spec B.named (hts0 _ List.mem_cons_self)
      cases Option.some.inj (h1.symm.trans B.method)
      cases Option.some.inj (h2.symm.trans X₀.code)
      rw [Array.isEmpty_iff.mp h7]
    have K : W p l e room_1 s m #[Value.ref b] below meth c s₁.heap [] 0 0 (lw_Z below #[Value.ref b] s) (entryFrame m ([Value.ref b] : List Value).toArray 7) := by
      rw [hh0]
      exact whole_start hAM l hflags hbd ⟨B.exec, B.bytes, B.returns, hml, hown, hts, hX, hbl, B.notSynchronized, hgv, (name_of_methodNamed B.named B.method).1, htab⟩
    obtain ⟨t, a1, o, b1, b2, b3⟩ := K s₁ rfl X₀
    exact ⟨t, o, a1, b1, b2, b3⟩
theorem lw_pre_spec {args : Array Value} {s : State} (h : (Jvm.Cond.and given_1 narrow_1).before args s = true) (hr : rest_1_c.before args s = true) : ∃ (b : Addr) (xs : List Int32), lw_P b xs args s := by
  have hs := flat_of_before _ h
  have hq := flat_of_before _ hr
  have hc : (Cond.count 1).before args s = true := hs _ (by decide +kernel)
  have harr : (Cond.arrayOf (.arg 0) .int).before args s = true := hs _ (by decide +kernel)
  have hle : (Cond.le (.length (.arg 0)) (.int 3072)).before args s = true := hs _ (by decide +kernel)
  have hlen : (Cond.isInt (.length (.arg 0))).before args s = true := hq _ (by decide +kernel)
  have hall : (Cond.all (.arg 0) (.isInt (.elem (.arg 0) (.index 0)))).before args s = true := hq _ (by decide +kernel)
  obtain ⟨b, xs, hb, hx⟩ := State.ints_of_pre rfl harr hlen hall
  have hsm : xs.length < 2 ^ 31 := hx.choose_spec.2.2.2
  have hev : (Term.length (.arg 0)).eval args s none [] s = some (.int xs.length.toInt32) := hx.length_eval hb
  have hv := Cond.le_ints hev (show (Term.int 3072).eval args s none [] s = some (.int 3072) from rfl)
  have hd : xs.length.toInt32 ≤ 3072 := by
    simpa [Cond.before, Cond.holds, hv] using hle
  have hN : xs.length ≤ 3072 := (Int32.ofNat_le_ofNat hsm (by decide)).mp (show Int32.ofNat xs.length ≤ Int32.ofNat 3072 from hd)
  exact ⟨b, xs, Cond.one_arg hc (show args[0]? = some (.ref b) from hb), hx, hN, h⟩
theorem lw_comes (hAM : AMR) (l : Launch) (hflags : l.flags = flags0) : Comes l x (Jvm.Cond.code x code maxLocals ret :: tables_1) room_1 (fun tb e args s => Calls_1 tb e args s ∧ rest_1 tb e args s ∧ Pre_1 tb e args s)
    (fun _ _ args s o t => lw_Q args s o t) := by
  intro p e ha hc hk s m args below hf hfit hheap happ hpre
  obtain ⟨b, xs, hP⟩ := lw_pre_spec hpre.2.2 hpre.2.1
  obtain ⟨k, o, h1, h2, h3, hQ⟩ := lw_walk hAM l hflags b xs p e ha hc hk s m args below hf ((Spec.applies_iff_loose hf).mp happ).1 hP trivial
  exact ⟨k, o, h1, h2, h3, hQ⟩
theorem lw_frame {s t : State} {o : Outcome} {args : Array Value} (h : Framed s o t [] 601024 7293034) :
    Framed s o t (fieldLocs frame_1_writes args s ++ arrayLocs frame_1_arrays args s ++ staticLocs frame_1_statics s) 601024 7293034 := h
theorem lw_limb (hAM : AMR) (L : Cond) (hL : ∀ (args : Array Value) (s t : State), L.after args s (.returned (some (.int 1))) t = true) :
    ArmFor flags0 classFile x code maxLocals ret World_1 tables_1 room_1 Calls_1 rest_1 Pre_1
      (fun tb e a s o t => postC L tb e a s o t ∧ Framed s o t (fieldLocs frame_1_writes a s ++ arrayLocs frame_1_arrays a s ++ staticLocs frame_1_statics s) 601024 7293034) := by
  intro l hflags _ _ p e ha hc hk s m args below hf hfit hheap happ hpre
  obtain ⟨k, o, h1, h2, h3, rfl, hF⟩ := lw_comes hAM l hflags p e ha hc hk s m args below hf hfit hheap happ hpre
  exact ⟨k, _, h1, h2, h3, hL args s _, lw_frame hF⟩
theorem vc_of (hAM : AMR) : Claimed_1_1 ∧ Claimed_1_2 := ⟨lw_limb hAM limb_1_1 (fun args s t => by simp [limb_1_1, Cond.after, Cond.holds, Cond.value]), lw_limb hAM limb_1_2 (fun args s t => Cond.after_iff.mpr (by
  first | (rw [show limb_1_2 = Cond.eq .result (.int 1) from rfl, Cond.eq_ints (x := 1) (y := 1) rfl rfl]; simp; done) | (simp [limb_1_2, Cond.value, Term.eval]; done)))⟩
