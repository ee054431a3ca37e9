/-! ===== the JDK's String methods: they write nothing and make nothing ===== -/
def rmJ (d : Nat) : Room := { frames := d + 1, cells := 0, slots := 0, locals := 40 * d + 40 }
def Jw (y : MethodName) (cc : ByteArray) (nl : Nat) (ret : Option FieldType) : List Cond := Cond.code y cc nl ret :: TBg
def PJ (SX : State → Heap → Prop) (as : List Value) : Array Value → State → Prop := fun a U => a = as.toArray ∧ SX U U.heap
def QJ (v : Option Value) : Array Value → State → Outcome → State → Prop := fun _ st o t => o = .returned v ∧ t.heap = st.heap
def JMet (l : Launch) (SX : State → Heap → Prop) (y : MethodName) (cc : ByteArray) (nl : Nat) (ret : Option FieldType) (d : Nat) (as : List Value) (v : Option Value) : Prop := Met l y (Jw y cc nl ret) (rmJ d) (PJ SX as) (QJ v) 0 0 (fun _ => False)
def JXc (SX : State → Heap → Prop) (B : Nat) : Prop := ∀ (U V : State) (H H' : Heap), SX U H → U.WarmedH V.vm → (∀ q, q < B → H'[q]? = H[q]?) → SX V H'
/-- where a body stands -/
def FJ (SX : State → Heap → Prop) (p : Program) (s : State) (m : MethodId) (args : Array Value) (meth : Method) (c : Code) (own : String) (cc : ByteArray) (nl : Nat) (ret : Option FieldType) : Prop :=
  p.tables.exec = Jvm.exec ∧ c.code = cc ∧ c.maxLocals = nl ∧ meth.sig.returnType = ret ∧ meth.locks = false ∧ s.vm.findClass own = some m.cls ∧ (∀ w ∈ TBg, w.before args s = true) ∧ SX s s.heap
theorem tb (i : Nat) {w : Cond} (h : lw_tbl[i]? = some w) (hg : goodWord w = true) : w ∈ TBg := List.mem_filter.mpr ⟨List.mem_of_getElem? h, hg⟩
theorem j_of {l : Launch} {SX : State → Heap → Prop} {y : MethodName} {cc : ByteArray} {nl d : Nat} {ret : Option FieldType} {as : List Value} {v : Option Value} (hpl : plainName y.cls = true)
    (body : ∀ (p : Program) (e : Env) (s : State) (m : MethodId) (below : List Frame) (meth : Method) (c : Code), FJ SX p s m as.toArray meth c y.cls cc nl ret → W p l e (rmJ d) s m as.toArray below meth c s.heap [] 0 0 (MQ below (QJ v) as.toArray s 0 0 (fun _ => False)) (F0 m 0 (lg_sl as ++ List.replicate (nl - (lg_sl as).length) Slot.unset).toArray [])) :
    JMet l SX y cc nl ret d as v := by
  refine met_vx (vx_ofW (cc := cc) (maxL := nl) (ret := ret) hpl (ws' := TBg) rfl (fun p e s m args below meth c s₁ B hml ht hv => ?_))
  obtain ⟨rfl, hE⟩ := hv
  have hts := atoms_spec (ws := Jw y cc nl ret) B.pre
  rw [lg_entry_eq]
  exact vx_ret (body p e s m below meth c ⟨B.exec, B.bytes, hml, B.returns, B.notSynchronized, findClass_of_methodNamed B.named, fun w hw => hts w (List.mem_cons_of_mem _ hw), hE⟩)
section J
variable {p : Program} {l : Launch} {e : Env} {R : Room} {s : State} {m : MethodId} {args : Array Value} {below : List Frame} {meth : Method} {c : Code} {H : Heap} {locs : List Loc} {cells slots : Nat} {Q : State → Prop} {pc : Nat} {ls : Array Slot} {rest st0 : List Value} {SX : State → Heap → Prop} {av : Array Value}
theorem j_after {v : Option Value} (hr : va_Run p l e R s m args below meth c H locs cells slots 0 0 (F0 m pc ls st0) rest (QJ v av) (fun _ => False))
    (kk : W p l e R s m args below meth c H locs cells slots Q (F0 m (pc + 3) ls (v.toList ++ rest))) : W p l e R s m args below meth c H locs cells slots Q (F0 m pc ls st0) := by
  intro T hT Y
  obtain ⟨v', st₀, t, T', L, h0, Y', hL, e1, e2, ⟨hv, hh⟩, st⟩ := hr T hT Y
  cases hv
  cases L with
  | cons q L => exact (hL q List.mem_cons_self).elim
  | nil =>
    rw [List.append_nil] at Y'
    obtain ⟨t2, a1, b1⟩ := kk T' (e1.trans (hh.trans h0)) Y'
    exact ⟨t2, st t2 a1, b1⟩
theorem pj_pre {B : Nat} {as : List Value} (hc : JXc SX B) (hE : SX s s.heap) (hH : ∀ q, q < B → H[q]? = s.heap[q]?) : PreS s H (PJ SX as) as := by
  refine ⟨?_, fun U hU hW => ⟨rfl, by rw [hU]; exact hc s U s.heap H hE hW hH⟩⟩
  intro av U g mk ⟨h1, h2⟩
  exact ⟨h1, hc U (U.calling g mk av) U.heap U.heap h2 (State.WarmedH.refl U) (fun _ _ => rfl)⟩
theorem jw_good {y : MethodName} {cc : ByteArray} {nl : Nat} {ret : Option FieldType} (h : Cond.code y cc nl ret ∈ TBg) : GoodIn TBg (Jw y cc nl ret) := by
  intro w hw
  have hm : w ∈ TBg := by
    rcases List.mem_cons.mp hw with q | q
    · rw [q]; exact h
    · exact q
  exact ⟨hm, good_of_word (List.mem_filter.mp hm).2⟩
theorem j_callS {B nl' d n ix nL : Nat} {own : String} {cc cc' : ByteArray} {y : MethodName} {ret : Option FieldType} {as : List Value} {v : Option Value} (hx : p.tables.exec = Jvm.exec) (hb : c.code = cc) (hml : c.maxLocals = nL) (hsz : ls.size = nL) (hown : s.vm.findClass own = some m.cls) (hT : ∀ w ∈ TBg, w.before args s = true) (hc : JXc SX B) (hE : SX s s.heap) (hH : ∀ q, q < B → H[q]? = s.heap[q]?)
    (hM : JMet l SX y cc' nl' ret d as v) (w1 : Cond.code y cc' nl' ret ∈ TBg) (w2 : Cond.initialized y.cls ∈ TBg) (w3 : Cond.methodLink own ix y ∈ TBg) (w4 : Cond.static y ∈ TBg)
    (hd : y.cls ≠ "java/lang/invoke/MethodHandle" ∧ y.cls ≠ "java/lang/invoke/VarHandle" ∧ Option.map (fun d => d.parameters.length) (parseMethodDescriptor y.desc) = some n) (hR : d + 1 + 1 ≤ R.frames ∧ 8 + (nl' + 11) + (40 * d + 40) ≤ R.locals) (hn : as.length = n) (hst : st0 = as.reverse ++ rest)
    (hW : (rest.map fun v => v.category).sum ≤ 8) (hdg : decode cc pc = .ok (.invokestatic ix, 3)) (hf : cells ≤ R.cells ∧ slots ≤ R.slots)
    (kk : W p l e R s m args below meth c H locs cells slots Q (F0 m (pc + 3) ls (v.toList ++ rest))) : W p l e R s m args below meth c H locs cells slots Q (F0 m pc ls st0) :=
  j_after (va_runS (As := as) ⟨hx, hb, hml, hown, hT⟩ hM ⟨callB_of n hT (jw_good w1) rfl rfl rfl (hT _ w2) (hT _ w3) hd hR, hT _ w4⟩ (pj_pre hc hE hH) rfl hn hsz hst (lv_room hW) hdg hf) kk
theorem j_callV {B nl' d n ix nL b : Nat} {own C : String} {cc cc' : ByteArray} {y : MethodName} {ret : Option FieldType} {as : List Value} {v : Option Value} (hx : p.tables.exec = Jvm.exec) (hb : c.code = cc) (hml : c.maxLocals = nL) (hsz : ls.size = nL) (hown : s.vm.findClass own = some m.cls) (hT : ∀ w ∈ TBg, w.before args s = true) (hc : JXc SX B) (hE : SX s s.heap) (hH : ∀ q, q < B → H[q]? = s.heap[q]?)
    (hM : JMet l SX y cc' nl' ret d (.ref b :: as) v) (w1 : Cond.code y cc' nl' ret ∈ TBg) (w2 : Cond.initialized y.cls ∈ TBg) (w3 : Cond.methodLink own ix y ∈ TBg) (w4 : Cond.instanceMethod y ∈ TBg) (w5 : Cond.selects C y y ∈ TBg)
    (hd : y.cls ≠ "java/lang/invoke/MethodHandle" ∧ y.cls ≠ "java/lang/invoke/VarHandle" ∧ Option.map (fun d => d.parameters.length) (parseMethodDescriptor y.desc) = some n) (hR : d + 1 + 1 ≤ R.frames ∧ 8 + (nl' + 11) + (40 * d + 40) ≤ R.locals) (hn : as.length = n) (hst : st0 = as.reverse ++ .ref b :: rest)
    (hrc : ∃ cellB, H[b]? = some cellB ∧ cellB.vm.isStatics = false ∧ s.vm.findClass C = some cellB.cls)
    (hW : (rest.map fun v => v.category).sum ≤ 8) (hdg : decode cc pc = .ok (.invokevirtual ix, 3)) (hf : cells ≤ R.cells ∧ slots ≤ R.slots)
    (kk : W p l e R s m args below meth c H locs cells slots Q (F0 m (pc + 3) ls (v.toList ++ rest))) : W p l e R s m args below meth c H locs cells slots Q (F0 m pc ls st0) := by
  have hp := pj_pre (as := .ref b :: as) hc hE hH
  exact j_after (va_runV (As := as) (C := C) ⟨hx, hb, hml, hown, hT⟩ hM ⟨callB_of n hT (jw_good w1) rfl rfl rfl (hT _ w2) (hT _ w3) hd hR, hT _ w4, hT _ w5⟩ ⟨hp.1, hrc, hp.2⟩ rfl hn hsz hst (lv_room hW) hdg hf) kk
end J
/-- the two texts -/
def lenS : List Nat := [(txt 900001).length, (txt 900002).length]
def bytS : List (List Int32) := [(txt 900001).map Int32.ofNat, (txt 900002).map Int32.ofNat]
def gAt (B : Nat) : Nat → Prop := fun q => B ≤ q
def SP (B : Nat) (adK adV : Nat → Nat) : State → Heap → Prop := fun U H => vk_S 2 lenS bytS adK adV (gAt B) U H ∧ va_Z "java/lang/String" "COMPACT_STRINGS" "Z" (.int 1) (gAt B) U H ∧ va_Zq "jdk/internal/util/Preconditions" "SIOOBE_FORMATTER" "Ljava/util/function/BiFunction;" (gAt B) U H
theorem SP_c {B : Nat} {adK adV : Nat → Nat} : JXc (SP B adK adV) B := by
  intro U V H H' ⟨h1, h2, h3⟩ hW hq
  have hk : ∀ a : Nat, a < H.size → ¬ gAt B a → H'[a]? = H[a]? := fun a _ h => hq a (Nat.not_le.mp h)
  exact ⟨(h1.moved hW.alike).kept hk, (h2.moved hW.alike).kept hk, (h3.moved hW.alike).kept hk⟩
section JS
variable {l : Launch} {B d : Nat} {adK adV : Nat → Nat}
def yCoder : MethodName := ⟨"java/lang/String", "coder", "()B"⟩
def yLatin : MethodName := ⟨"java/lang/String", "isLatin1", "()Z"⟩
theorem hC {p : Nat} {H : Heap} : ∀ q, q < p → H[q]? = H[q]? := fun _ _ => rfl
theorem j_coder {i : Nat} (hi : i < 2) : JMet l (SP B adK adV) yCoder prog_23_method_152_code 1 (some .byte) d [.ref (adK i)] (some (.int 0)) := by
  refine j_of (by decide +kernel) (fun p e s m below meth c F => ?_)
  obtain ⟨hx, hb, hml, hret, hlk, hown, hT, hS⟩ := F
  refine va_gets (index := 38) (ref := "java/lang/String") hx hb hS.2.1 va_S.rf hown (hT _ (tb 800 (by decide +kernel) rfl)) (fun x h => h) (by decide +kernel) ?_
  refine lv_if_eq hx hb (tgt := 13) (off := 10) (by decide +kernel) (by decide) (fun h => absurd h (by decide)) (fun _ => ?_)
  refine lv_aload_n hx hb (k := 0) (i := 0) (x := adK i) (by decide +kernel) rfl rfl ?_
  refine vk_getf (index := 15) (ref := "java/lang/String") hx hb (hS.1.1 i hi).2.1 va_S.rf hown (hT _ (tb 2197 (by decide +kernel) rfl)) (fun x h => h) (by decide +kernel) ?_
  refine lv_goto hx hb (off := 4) (tgt := 14) (by decide +kernel) (by decide) ?_
  exact W.zret hx hb hret rfl (fun t ht _ => ⟨rfl, ht⟩) (fun q hq => absurd hq List.not_mem_nil) (by decide +kernel) hlk
def yLen : MethodName := ⟨"java/lang/String", "length", "()I"⟩
theorem lenS_b {i : Nat} (hi : i < 2) : lenS.getD i 0 < 100 := by
  have : ∀ i, i < 2 → lenS.getD i 0 < 100 := by decide +kernel
  exact this i hi
theorem j_length {i : Nat} (hi : i < 2) : JMet l (SP B adK adV) yLen prog_23_method_54_code 1 (some .int) (d + 1) [.ref (adK i)] (some (.int (Int32.ofNat (lenS.getD i 0)))) := by
  refine j_of (by decide +kernel) (fun p e s m below meth c F => ?_)
  obtain ⟨hx, hb, hml, hret, hlk, hown, hT, hS⟩ := F
  refine lv_aload_n hx hb (k := 0) (i := 0) (x := adK i) (by decide +kernel) rfl rfl ?_
  refine vk_getf (index := 9) (ref := "java/lang/String") hx hb (hS.1.1 i hi).2.2.1 va_S.rf hown (hT _ (tb 2196 (by decide +kernel) rfl)) (fun x h => h) (by decide +kernel) ?_
  refine va_tlen hx hb (hS.1.1 i hi).2.2.2 va_S.rf rfl (by decide +kernel) ?_
  refine lv_aload_n hx hb (k := 0) (i := 0) (x := adK i) (by decide +kernel) rfl rfl ?_
  refine j_callV (B := B) (y := yCoder) (C := "java/lang/String") (ix := 335) (n := 0) (nl' := 1) (d := d) (as := []) hx hb hml rfl hown hT SP_c hS hC (j_coder hi) (tb 799 (by decide +kernel) rfl) (tb 138 (by decide +kernel) rfl) (tb 796 (by decide +kernel) rfl) (tb 797 (by decide +kernel) rfl) (tb 798 (by decide +kernel) rfl)
    ⟨by decide, by decide, by decide +kernel⟩ (by simp only [rmJ]; omega) rfl rfl (vk_recv hS.1 hi va_S.rf) (Nat.le_of_ble_eq_true rfl) (by decide +kernel) ⟨Nat.le_refl _, Nat.le_refl _⟩ ?_
  refine lv_ishr hx hb (by decide +kernel) ?_
  have e0 : (Int32.ofNat (lenS.getD i 0)) >>> ((0 : Int32) &&& 31) = Int32.ofNat (lenS.getD i 0) := by
    have : ∀ i, i < 2 → (Int32.ofNat (lenS.getD i 0)) >>> ((0 : Int32) &&& 31) = Int32.ofNat (lenS.getD i 0) := by decide +kernel
    exact this i hi
  rw [e0]
  exact W.iret hx hb hret (fun t ht _ => ⟨rfl, ht⟩) (fun q hq => absurd hq List.not_mem_nil) (by decide +kernel) hlk
theorem j_latin {i : Nat} (hi : i < 2) : JMet l (SP B adK adV) yLatin prog_23_method_154_code 1 (some .boolean) d [.ref (adK i)] (some (.int 1)) := by
  refine j_of (by decide +kernel) (fun p e s m below meth c F => ?_)
  obtain ⟨hx, hb, hml, hret, hlk, hown, hT, hS⟩ := F
  refine va_gets (index := 38) (ref := "java/lang/String") hx hb hS.2.1 va_S.rf hown (hT _ (tb 800 (by decide +kernel) rfl)) (fun x h => h) (by decide +kernel) ?_
  refine lv_if_eq hx hb (tgt := 17) (off := 14) (by decide +kernel) (by decide) (fun h => absurd h (by decide)) (fun _ => ?_)
  refine lv_aload_n hx hb (k := 0) (i := 0) (x := adK i) (by decide +kernel) rfl rfl ?_
  refine vk_getf (index := 15) (ref := "java/lang/String") hx hb (hS.1.1 i hi).2.1 va_S.rf hown (hT _ (tb 2197 (by decide +kernel) rfl)) (fun x h => h) (by decide +kernel) ?_
  refine lv_if_ne hx hb (tgt := 17) (off := 7) (by decide +kernel) (by decide) (fun h => absurd rfl h) (fun _ => ?_)
  refine lv_iconst hx hb (n := 1) (v := 1) (by decide +kernel) rfl ?_
  refine lv_goto hx hb (off := 4) (tgt := 18) (by decide +kernel) (by decide) ?_
  exact W.zret hx hb hret rfl (fun t ht _ => ⟨rfl, ht⟩) (fun q hq => absurd hq List.not_mem_nil) (by decide +kernel) hlk
def yChkP : MethodName := ⟨"jdk/internal/util/Preconditions", "checkIndex", "(IILjava/util/function/BiFunction;)I"⟩
theorem j_chkP {x y : Int32} {v : Value} (h0 : ¬ x < 0) (h1 : x < y) : v.category = 1 → JMet l (SP B adK adV) yChkP prog_32_method_11_code 3 (some .int) d [.int x, .int y, v] (some (.int x)) := by
  intro hv
  refine j_of (by decide +kernel) (fun p e s m below meth c F => ?_)
  obtain ⟨hx, hb, hml, hret, hlk, hown, hT, hS⟩ := F
  refine lv_iload_n hx hb (k := 0) (i := 0) (x := x) (by decide +kernel) rfl rfl ?_
  refine lv_if_lt hx hb (tgt := 9) (off := 8) (by decide +kernel) (by decide) (fun h => absurd h h0) (fun _ => ?_)
  refine lv_iload_n hx hb (k := 0) (i := 0) (x := x) (by decide +kernel) rfl rfl ?_
  refine lv_iload_n hx hb (k := 1) (i := 1) (x := y) (by decide +kernel) rfl rfl ?_
  refine lv_icmp_lt hx hb (tgt := 16) (off := 10) (by decide +kernel) (by decide) (fun _ => ?_) (fun h => absurd h1 h)
  refine lv_iload_n hx hb (k := 0) (i := 0) (x := x) (by decide +kernel) rfl rfl ?_
  exact W.iret hx hb hret (fun t ht _ => ⟨rfl, ht⟩) (fun q hq => absurd hq List.not_mem_nil) (by decide +kernel) hlk
def yChkS : MethodName := ⟨"java/lang/String", "checkIndex", "(II)V"⟩
theorem j_chkS {x y : Int32} (h0 : ¬ x < 0) (h1 : x < y) : JMet l (SP B adK adV) yChkS prog_23_method_155_code 2 none (d + 1) [.int x, .int y] none := by
  refine j_of (by decide +kernel) (fun p e s m below meth c F => ?_)
  obtain ⟨hx, hb, hml, hret, hlk, hown, hT, hS⟩ := F
  refine lv_iload_n hx hb (k := 0) (i := 0) (x := x) (by decide +kernel) rfl rfl ?_
  refine lv_iload_n hx hb (k := 1) (i := 1) (x := y) (by decide +kernel) rfl rfl ?_
  have go : ∀ v : Value, v.category = 1 → va_Z "jdk/internal/util/Preconditions" "SIOOBE_FORMATTER" "Ljava/util/function/BiFunction;" v (gAt B) s s.heap → W p l e (rmJ (d + 1)) s m [Value.int x, .int y].toArray below meth c s.heap [] 0 0 (MQ below (QJ none) [Value.int x, .int y].toArray s 0 0 (fun _ => False)) (F0 m 2 (lg_sl [Value.int x, .int y] ++ List.replicate (2 - (lg_sl [Value.int x, .int y]).length) Slot.unset).toArray [.int y, .int x]) := by
    intro v hv hZ
    refine va_gets (index := 1053) (ref := "jdk/internal/util/Preconditions") hx hb hZ va_S.rf hown (hT _ (tb 816 (by decide +kernel) rfl)) (fun x h => h) (by decide +kernel) ?_
    refine j_callS (B := B) (y := yChkP) (ix := 1059) (n := 3) (nl' := 3) (d := d) (as := [.int x, .int y, v]) (rest := []) hx hb hml rfl hown hT SP_c hS hC (j_chkP h0 h1 hv) (tb 820 (by decide +kernel) rfl) (tb 140 (by decide +kernel) rfl) (tb 818 (by decide +kernel) rfl) (tb 819 (by decide +kernel) rfl)
      ⟨by decide, by decide, by decide +kernel⟩ (by simp only [rmJ]; omega) rfl rfl (Nat.le_of_ble_eq_true rfl) (by decide +kernel) ⟨Nat.le_refl _, Nat.le_refl _⟩ ?_
    refine lv_pop hx hb (by decide +kernel) rfl ?_
    exact W.vret hx hb hret (fun t ht _ => ⟨rfl, ht⟩) (fun q hq => absurd hq List.not_mem_nil) (by decide +kernel) hlk
  rcases hS.2.2 with h | ⟨t, h⟩
  · exact go _ rfl h
  · exact go _ rfl h
def txS (i : Nat) : List Nat := txt (900001 + i)
theorem byt_ch : ∀ i, i < 2 → ∀ n, n < lenS.getD i 0 → ((((bytS.getD i []).getD n 0) &&& 255).toUInt32 % 65536).toInt32 = Int32.ofNat ((txS i).getD n 0) ∧ narrow .char (.int (Int32.ofNat ((txS i).getD n 0))) = .int (Int32.ofNat ((txS i).getD n 0)) := by decide +kernel
def yCharL : MethodName := ⟨"java/lang/StringLatin1", "charAt", "([BI)C"⟩
theorem j_charL {i : Nat} (hi : i < 2) {x : Int32} (hin : vp_in x (lenS.getD i 0)) (h0 : ¬ x < 0) (h1 : x < Int32.ofNat (lenS.getD i 0)) (hn : x.toNatClampNeg < lenS.getD i 0) : JMet l (SP B adK adV) yCharL prog_24_method_2_code 2 (some .char) (d + 2) [.ref (adV i), .int x] (some (.int (Int32.ofNat ((txS i).getD x.toNatClampNeg 0)))) := by
  refine j_of (by decide +kernel) (fun p e s m below meth c F => ?_)
  obtain ⟨hx, hb, hml, hret, hlk, hown, hT, hS⟩ := F
  obtain ⟨b1, b2⟩ := byt_ch i hi _ hn
  refine lv_iload_n hx hb (k := 1) (i := 1) (x := x) (by decide +kernel) rfl rfl ?_
  refine lv_aload_n hx hb (k := 0) (i := 0) (x := adV i) (by decide +kernel) rfl rfl ?_
  refine va_tlen hx hb (hS.1.1 i hi).2.2.2 va_S.rf rfl (by decide +kernel) ?_
  refine j_callS (B := B) (y := yChkS) (ix := 9) (n := 2) (nl' := 2) (d := d + 1) (as := [.int x, .int (Int32.ofNat (lenS.getD i 0))]) (rest := []) hx hb hml rfl hown hT SP_c hS hC (j_chkS h0 h1) (tb 815 (by decide +kernel) rfl) (tb 138 (by decide +kernel) rfl) (tb 813 (by decide +kernel) rfl) (tb 814 (by decide +kernel) rfl)
    ⟨by decide, by decide, by decide +kernel⟩ (by simp only [rmJ]; omega) rfl rfl (Nat.le_of_ble_eq_true rfl) (by decide +kernel) ⟨Nat.le_refl _, Nat.le_refl _⟩ ?_
  refine lv_aload_n hx hb (k := 0) (i := 0) (x := adV i) (by decide +kernel) rfl rfl ?_
  refine lv_iload_n hx hb (k := 1) (i := 1) (x := x) (by decide +kernel) rfl rfl ?_
  refine va_tb hx hb (hS.1.1 i hi).2.2.2 va_S.rf hin rfl (by decide +kernel) ?_
  refine lv_sipush hx hb (n := 255) (v := 255) (by decide +kernel) (by decide) ?_
  refine lv_iand hx hb (by decide +kernel) ?_
  refine lv_i2c hx hb (by decide +kernel) b1 ?_
  exact W.zret hx hb hret b2 (fun t ht _ => ⟨rfl, ht⟩) (fun q hq => absurd hq List.not_mem_nil) (by decide +kernel) hlk
def yCharAt : MethodName := ⟨"java/lang/String", "charAt", "(I)C"⟩
theorem j_charAt {i : Nat} (hi : i < 2) {x : Int32} (hin : vp_in x (lenS.getD i 0)) (h0 : ¬ x < 0) (h1 : x < Int32.ofNat (lenS.getD i 0)) (hn : x.toNatClampNeg < lenS.getD i 0) : JMet l (SP B adK adV) yCharAt prog_23_method_56_code 2 (some .char) (d + 3) [.ref (adK i), .int x] (some (.int (Int32.ofNat ((txS i).getD x.toNatClampNeg 0)))) := by
  refine j_of (by decide +kernel) (fun p e s m below meth c F => ?_)
  obtain ⟨hx, hb, hml, hret, hlk, hown, hT, hS⟩ := F
  obtain ⟨b1, b2⟩ := byt_ch i hi _ hn
  refine lv_aload_n hx hb (k := 0) (i := 0) (x := adK i) (by decide +kernel) rfl rfl ?_
  refine j_callV (B := B) (y := yLatin) (C := "java/lang/String") (ix := 492) (n := 0) (nl' := 1) (d := d + 2) (as := []) (rest := []) hx hb hml rfl hown hT SP_c hS hC (j_latin hi) (tb 809 (by decide +kernel) rfl) (tb 138 (by decide +kernel) rfl) (tb 806 (by decide +kernel) rfl) (tb 807 (by decide +kernel) rfl) (tb 808 (by decide +kernel) rfl)
    ⟨by decide, by decide, by decide +kernel⟩ (by simp only [rmJ]; omega) rfl rfl (vk_recv hS.1 hi va_S.rf) (Nat.le_of_ble_eq_true rfl) (by decide +kernel) ⟨Nat.le_refl _, Nat.le_refl _⟩ ?_
  refine lv_if_eq hx hb (tgt := 16) (off := 12) (by decide +kernel) (by decide) (fun h => absurd h (by decide)) (fun _ => ?_)
  refine lv_aload_n hx hb (k := 0) (i := 0) (x := adK i) (by decide +kernel) rfl rfl ?_
  refine vk_getf (index := 9) (ref := "java/lang/String") hx hb (hS.1.1 i hi).2.2.1 va_S.rf hown (hT _ (tb 2196 (by decide +kernel) rfl)) (fun x h => h) (by decide +kernel) ?_
  refine lv_iload_n hx hb (k := 1) (i := 1) (x := x) (by decide +kernel) rfl rfl ?_
  refine j_callS (B := B) (y := yCharL) (ix := 495) (n := 2) (nl' := 2) (d := d + 2) (as := [.ref (adV i), .int x]) (rest := []) hx hb hml rfl hown hT SP_c hS hC (j_charL hi hin h0 h1 hn) (tb 812 (by decide +kernel) rfl) (tb 139 (by decide +kernel) rfl) (tb 810 (by decide +kernel) rfl) (tb 811 (by decide +kernel) rfl)
    ⟨by decide, by decide, by decide +kernel⟩ (by simp only [rmJ]; omega) rfl rfl (Nat.le_of_ble_eq_true rfl) (by decide +kernel) ⟨Nat.le_refl _, Nat.le_refl _⟩ ?_
  exact W.zret hx hb hret b2 (fun t ht _ => ⟨rfl, ht⟩) (fun q hq => absurd hq List.not_mem_nil) (by decide +kernel) hlk
theorem n256 : ∀ n, n < 256 → (Int32.ofNat n).toNatClampNeg = n ∧ ((n < 128 ∧ (Int32.ofNat n).toInt8.toInt32 = Int32.ofNat n) ∨ (128 ≤ n ∧ (Int32.ofNat n).toInt8.toInt32 < 0)) ∧ ¬ Int32.ofNat n < 0 ∧ ¬ 255 < Int32.ofNat n := by decide +kernel
theorem n100 : ∀ k, k < 100 → Int32.ofNat k + Int32.ofInt 1 = Int32.ofNat (k + 1) ∧ Int32.ofNat k ≤ Int32.ofNat k := by decide +kernel
theorem nle : ∀ k, k < 100 → ∀ n, n < 100 → (Int32.ofNat n ≤ Int32.ofNat k ↔ n ≤ k) := by decide +kernel
theorem bytE : ∀ i, i < 2 → ∀ k, k < lenS.getD i 0 → (bytS.getD i []).getD k 0 = Int32.ofNat ((txS i).getD k 0) ∧ (txS i).getD k 0 < 128 := by decide +kernel
theorem lenE : ∀ i, i < 2 → (txS i).length = lenS.getD i 0 := by decide +kernel
theorem n_eq {n a : Nat} (hn : n < 256) (ha : a < 128) : Int32.ofNat a = (Int32.ofNat n).toInt8.toInt32 ↔ Int32.ofNat n = Int32.ofNat a := by
  obtain ⟨h1, h2, -, -⟩ := n256 n hn
  obtain ⟨g1, -, g2, -⟩ := n256 a (by omega)
  constructor
  · intro h
    rcases h2 with ⟨-, h2⟩ | ⟨-, h2⟩
    · rw [h2] at h; exact h.symm
    · rw [← h] at h2; exact absurd h2 g2
  · intro h
    have : n = a := by rw [← h1, ← g1, h]
    subst this
    rcases h2 with ⟨-, h2⟩ | ⟨h3, -⟩
    · exact h2.symm
    · omega
def yIdxC : MethodName := ⟨"java/lang/StringLatin1", "indexOfChar", "([BIII)I"⟩
theorem j_idxC {i n : Nat} (hi : i < 2) (hn : n < 256) : JMet l (SP B adK adV) yIdxC prog_24_method_23_code 6 (some .int) d [.ref (adV i), .int (Int32.ofNat n), .int 0, .int (Int32.ofNat (lenS.getD i 0))] (some (.int (ixo (txS i) (Int32.ofNat n) 0))) := by
  refine j_of (by decide +kernel) (fun p e s m below meth c F => ?_)
  obtain ⟨hx, hb, hml, hret, hlk, hown, hT, hS⟩ := F
  have hl := lenS_b hi
  have hle := lenE i hi
  have loop : ∀ (r : List Nat) (k : Nat) (ls : Array Slot), (txS i).drop k = r → k + r.length = lenS.getD i 0 → ixo (txS i) (Int32.ofNat n) 0 = ixo r (Int32.ofNat n) k → lv_has ls 6 [(5, .int (Int32.ofNat k)), (4, .int (Int32.ofNat n).toInt8.toInt32), (0, .ref (adV i)), (3, .int (Int32.ofNat (lenS.getD i 0)))] →
      W p l e (rmJ d) s m [Value.ref (adV i), .int (Int32.ofNat n), .int 0, .int (Int32.ofNat (lenS.getD i 0))].toArray below meth c s.heap [] 0 0 (MQ below (QJ (some (.int (ixo (txS i) (Int32.ofNat n) 0)))) [Value.ref (adV i), .int (Int32.ofNat n), .int 0, .int (Int32.ofNat (lenS.getD i 0))].toArray s 0 0 (fun _ => False)) (F0 m 7 ls []) := by
    intro r
    induction r with
    | nil =>
      intro k ls hd hk hq hh
      have hk : k = lenS.getD i 0 := by simpa using hk
      refine lv_iload hx hb (i := 5) (by decide +kernel) (lv_at hh 0 rfl) ?_
      refine lv_iload_n hx hb (k := 3) (i := 3) (by decide +kernel) rfl (lv_at hh 3 rfl) ?_
      refine lv_icmp_ge hx hb (tgt := 31) (off := 21) (by decide +kernel) (by decide) (fun _ => ?_) (fun h => absurd ((nle k (by omega) _ hl).mpr (by omega)) h)
      refine lv_iconst hx hb (n := -1) (v := -1) (by decide +kernel) rfl ?_
      rw [hq]
      exact W.iret hx hb hret (fun t ht _ => ⟨rfl, ht⟩) (fun q hq => absurd hq List.not_mem_nil) (by decide +kernel) hlk
    | cons a r ih =>
      intro k ls hd hk hq hh
      have hkl : k < lenS.getD i 0 := by simp only [List.length_cons] at hk; omega
      have hga : (txS i).getD k 0 = a := by
        have : (txS i)[k]? = some a := by
          have h9 : ((txS i).drop k)[0]? = some a := by rw [hd]; rfl
          rwa [List.getElem?_drop, Nat.add_zero] at h9
        simp only [List.getD, this, Option.getD_some]
      obtain ⟨b1, b2⟩ := bytE i hi k hkl
      rw [hga] at b1 b2
      obtain ⟨c1, -, c3, -⟩ := n256 k (by omega)
      refine lv_iload hx hb (i := 5) (by decide +kernel) (lv_at hh 0 rfl) ?_
      refine lv_iload_n hx hb (k := 3) (i := 3) (by decide +kernel) rfl (lv_at hh 3 rfl) ?_
      refine lv_icmp_ge hx hb (tgt := 31) (off := 21) (by decide +kernel) (by decide) (fun h => absurd ((nle k (by omega) _ hl).mp h) (by omega)) (fun _ => ?_)
      refine lv_aload_n hx hb (k := 0) (i := 0) (by decide +kernel) rfl (lv_at hh 2 rfl) ?_
      refine lv_iload hx hb (i := 5) (by decide +kernel) (lv_at hh 0 rfl) ?_
      refine va_tb hx hb (hS.1.1 i hi).2.2.2 va_S.rf (i := Int32.ofNat k) (by unfold vp_in; rw [c1]; rintro (h | h); exact c3 h; omega) (v := .int (Int32.ofNat a)) (by rw [c1, b1]) (by decide +kernel) ?_
      refine lv_iload hx hb (i := 4) (by decide +kernel) (lv_at hh 1 rfl) ?_
      refine lv_icmp_ne hx hb (tgt := 25) (off := 6) (by decide +kernel) (by decide) (fun h => ?_) (fun h => ?_)
      · refine lv_iinc hx hb (i := 5) (n := 1) (k := 0) (by decide +kernel) hh rfl (n100 k (by omega)).1 (by decide) rfl (fun ls' hh' => ?_)
        refine lv_goto hx hb (off := -21) (tgt := 7) (by decide +kernel) (by decide) ?_
        refine ih (k + 1) ls' (by rw [← List.drop_drop, hd]; rfl) (by simp only [List.length_cons] at hk; omega) ?_ hh'
        rw [hq, ixo, if_neg (fun z => h ((n_eq hn b2).mpr z))]
      · refine lv_iload hx hb (i := 5) (by decide +kernel) (lv_at hh 0 rfl) ?_
        rw [hq, ixo, if_pos ((n_eq hn b2).mp h)]
        exact W.iret hx hb hret (fun t ht _ => ⟨rfl, ht⟩) (fun q hq => absurd hq List.not_mem_nil) (by decide +kernel) hlk
  have h0 := lv_entry [Value.ref (adV i), .int (Int32.ofNat n), .int 0, .int (Int32.ofNat (lenS.getD i 0))] (n := 6) (Nat.le_of_ble_eq_true rfl)
  refine lv_iload_n hx hb (k := 1) (i := 1) (by decide +kernel) rfl rfl ?_
  refine lv_i2b hx hb (by decide +kernel) rfl ?_
  refine lv_istore hx hb (i := 4) (by decide +kernel) h0 (by decide) rfl (fun ls1 h1 => ?_)
  refine lv_iload_n hx hb (k := 2) (i := 2) (x := 0) (by decide +kernel) rfl (lv_at h1 3 rfl) ?_
  refine lv_istore hx hb (i := 5) (by decide +kernel) h1 (by decide) rfl (fun ls2 h2 => ?_)
  exact loop (txS i) 0 ls2 rfl (by rw [hle]; omega) rfl ⟨h2.1, h2.2.1, fun q hq => by
    simp only [List.mem_cons, List.not_mem_nil, or_false] at hq
    rcases hq with rfl | rfl | rfl | rfl
    · exact lv_at h2 0 rfl
    · exact lv_at h2 1 rfl
    · exact lv_at h2 2 rfl
    · exact lv_at h2 5 rfl⟩
def yCanE : MethodName := ⟨"java/lang/StringLatin1", "canEncode", "(I)Z"⟩
theorem j_canE {x : Int32} (h0 : ¬ x < 0) : JMet l (SP B adK adV) yCanE prog_24_method_4_code 1 (some .boolean) d [.int x] (some (.int (if 255 < x then 0 else 1))) := by
  refine j_of (by decide +kernel) (fun p e s m below meth c F => ?_)
  obtain ⟨hx, hb, hml, hret, hlk, hown, hT, hS⟩ := F
  refine lv_iload_n hx hb (k := 0) (i := 0) (x := x) (by decide +kernel) rfl rfl ?_
  refine lv_if_lt hx hb (tgt := 15) (off := 14) (by decide +kernel) (by decide) (fun h => absurd h h0) (fun _ => ?_)
  refine lv_iload_n hx hb (k := 0) (i := 0) (x := x) (by decide +kernel) rfl rfl ?_
  refine lv_sipush hx hb (n := 255) (v := 255) (by decide +kernel) (by decide) ?_
  refine lv_icmp_gt hx hb (tgt := 15) (off := 7) (by decide +kernel) (by decide) (fun h => ?_) (fun h => ?_)
  · rw [if_pos h]
    refine lv_iconst hx hb (n := 0) (v := 0) (by decide +kernel) rfl ?_
    exact W.zret hx hb hret rfl (fun t ht _ => ⟨rfl, ht⟩) (fun q hq => absurd hq List.not_mem_nil) (by decide +kernel) hlk
  · rw [if_neg h]
    refine lv_iconst hx hb (n := 1) (v := 1) (by decide +kernel) rfl ?_
    refine lv_goto hx hb (off := 4) (tgt := 16) (by decide +kernel) (by decide) ?_
    exact W.zret hx hb hret rfl (fun t ht _ => ⟨rfl, ht⟩) (fun q hq => absurd hq List.not_mem_nil) (by decide +kernel) hlk
theorem x256 {x : Int32} (h0 : ¬ x < 0) (h1 : ¬ 255 < x) : ∃ n, n < 256 ∧ x = Int32.ofNat n := by
  rw [Int32.lt_iff_toInt_lt] at h0 h1
  have e0 : (0 : Int32).toInt = 0 := rfl
  have e1 : (255 : Int32).toInt = 255 := rfl
  rw [e0] at h0
  rw [e1] at h1
  refine ⟨x.toInt.toNat, by omega, ?_⟩
  apply Int32.toInt_inj.mp
  rw [show (Int32.ofNat x.toInt.toNat).toInt = ((x.toInt.toNat : Nat) : Int) from nI_toInt (by omega)]
  omega
theorem ixo_out {x : Int32} : ∀ (r : List Nat) (k : Nat), (∀ a ∈ r, ¬ x = Int32.ofNat a) → ixo r x k = -1
  | [], _, _ => rfl
  | a :: r, k, h => by
    rw [ixo, if_neg (h a List.mem_cons_self)]
    exact ixo_out r (k + 1) (fun b hb => h b (List.mem_cons_of_mem _ hb))
theorem tx128 : ∀ i, i < 2 → ∀ a ∈ txS i, a < 128 := by decide +kernel
theorem lenPos : ∀ i, i < 2 → (0 : Int32) < Int32.ofNat (lenS.getD i 0) := by decide +kernel
def yIdxL : MethodName := ⟨"java/lang/StringLatin1", "indexOf", "([BIII)I"⟩
theorem j_idxL {i : Nat} {x : Int32} (hi : i < 2) (h0 : ¬ x < 0) : JMet l (SP B adK adV) yIdxL prog_24_method_22_code 4 (some .int) (d + 1) [.ref (adV i), .int x, .int 0, .int (Int32.ofNat (lenS.getD i 0))] (some (.int (ixo (txS i) x 0))) := by
  refine j_of (by decide +kernel) (fun p e s m below meth c F => ?_)
  obtain ⟨hx, hb, hml, hret, hlk, hown, hT, hS⟩ := F
  refine lv_iload_n hx hb (k := 1) (i := 1) (x := x) (by decide +kernel) rfl rfl ?_
  refine j_callS (B := B) (y := yCanE) (ix := 88) (n := 1) (nl' := 1) (d := d) (as := [.int x]) (rest := []) hx hb hml rfl hown hT SP_c hS hC (j_canE h0) (tb 859 (by decide +kernel) rfl) (tb 139 (by decide +kernel) rfl) (tb 857 (by decide +kernel) rfl) (tb 858 (by decide +kernel) rfl)
    ⟨by decide, by decide, by decide +kernel⟩ (by simp only [rmJ]; omega) rfl rfl (Nat.le_of_ble_eq_true rfl) (by decide +kernel) ⟨Nat.le_refl _, Nat.le_refl _⟩ ?_
  by_cases h1 : 255 < x
  · rw [if_pos h1, ixo_out (txS i) 0 (fun a ha z => (n256 a (by have := tx128 i hi a ha; omega)).2.2.2 (by rw [← z]; exact h1))]
    refine lv_if_ne hx hb (tgt := 9) (off := 5) (by decide +kernel) (by decide) (fun h => absurd rfl h) (fun _ => ?_)
    refine lv_iconst hx hb (n := -1) (v := -1) (by decide +kernel) rfl ?_
    exact W.iret hx hb hret (fun t ht _ => ⟨rfl, ht⟩) (fun q hq => absurd hq List.not_mem_nil) (by decide +kernel) hlk
  rw [if_neg h1]
  obtain ⟨n, hn, hxn⟩ := x256 h0 h1
  refine lv_if_ne hx hb (tgt := 9) (off := 5) (by decide +kernel) (by decide) (fun _ => ?_) (fun h => absurd h (by decide))
  have g0 := lv_entry [Value.ref (adV i), .int x, .int 0, .int (Int32.ofNat (lenS.getD i 0))] (n := 4) (Nat.le_of_ble_eq_true rfl)
  refine lv_iload_n hx hb (k := 2) (i := 2) (x := 0) (by decide +kernel) rfl rfl ?_
  refine lv_iconst hx hb (n := 0) (v := 0) (by decide +kernel) rfl ?_
  refine va_mmax (index := 92) (rest := []) hx hb (hml.trans g0.1.symm) hown (hT _ (tb 860 (by decide +kernel) rfl)) (hT _ (tb 861 (by decide +kernel) rfl)) (hT _ (tb 137 (by decide +kernel) rfl)) (hT _ (tb 862 (by decide +kernel) rfl)) (by simp only [rmJ]; omega) (by simp only [rmJ, List.map_nil, List.sum_nil]; omega) (Nat.le_refl _) (Nat.le_refl _) (by decide +kernel) ?_
  rw [ite_self]
  refine lv_istore_n hx hb (k := 2) (i := 2) (by decide +kernel) rfl g0 (by decide) rfl (fun ls1 g1 => ?_)
  refine lv_iload_n hx hb (k := 3) (i := 3) (by decide +kernel) rfl (lv_at g1 3 rfl) ?_
  refine lv_aload_n hx hb (k := 0) (i := 0) (by decide +kernel) rfl (lv_at g1 1 rfl) ?_
  refine va_tlen hx hb (hS.1.1 i hi).2.2.2 va_S.rf rfl (by decide +kernel) ?_
  refine va_mmin (index := 38) (rest := []) hx hb (hml.trans g1.1.symm) hown (hT _ (tb 863 (by decide +kernel) rfl)) (hT _ (tb 622 (by decide +kernel) rfl)) (hT _ (tb 137 (by decide +kernel) rfl)) (hT _ (tb 623 (by decide +kernel) rfl)) (by simp only [rmJ]; omega) (by simp only [rmJ, List.map_nil, List.sum_nil]; omega) (Nat.le_refl _) (Nat.le_refl _) (by decide +kernel) ?_
  rw [ite_self]
  refine lv_istore_n hx hb (k := 3) (i := 3) (by decide +kernel) rfl g1 (by decide) rfl (fun ls2 g2 => ?_)
  refine lv_iload_n hx hb (k := 2) (i := 2) (x := 0) (by decide +kernel) rfl (lv_at g2 1 rfl) ?_
  refine lv_iload_n hx hb (k := 3) (i := 3) (by decide +kernel) rfl (lv_at g2 0 rfl) ?_
  refine lv_icmp_lt hx hb (tgt := 29) (off := 5) (by decide +kernel) (by decide) (fun _ => ?_) (fun h => absurd (lenPos i hi) h)
  refine lv_aload_n hx hb (k := 0) (i := 0) (by decide +kernel) rfl (lv_at g2 2 rfl) ?_
  refine lv_iload_n hx hb (k := 1) (i := 1) (x := x) (by decide +kernel) rfl (lv_at g2 3 rfl) ?_
  refine lv_iload_n hx hb (k := 2) (i := 2) (x := 0) (by decide +kernel) rfl (lv_at g2 1 rfl) ?_
  refine lv_iload_n hx hb (k := 3) (i := 3) (by decide +kernel) rfl (lv_at g2 0 rfl) ?_
  subst hxn
  refine j_callS (B := B) (y := yIdxC) (ix := 95) (n := 4) (nl' := 6) (d := d) (as := [.ref (adV i), .int (Int32.ofNat n), .int 0, .int (Int32.ofNat (lenS.getD i 0))]) (rest := []) hx hb hml g2.1 hown hT SP_c hS hC (j_idxC hi hn) (tb 866 (by decide +kernel) rfl) (tb 139 (by decide +kernel) rfl) (tb 864 (by decide +kernel) rfl) (tb 865 (by decide +kernel) rfl)
    ⟨by decide, by decide, by decide +kernel⟩ (by simp only [rmJ]; omega) rfl rfl (Nat.le_of_ble_eq_true rfl) (by decide +kernel) ⟨Nat.le_refl _, Nat.le_refl _⟩ ?_
  exact W.iret hx hb hret (fun t ht _ => ⟨rfl, ht⟩) (fun q hq => absurd hq List.not_mem_nil) (by decide +kernel) hlk
def yIdx2 : MethodName := ⟨"java/lang/String", "indexOf", "(II)I"⟩
theorem j_idx2 {i : Nat} {x : Int32} (hi : i < 2) (h0 : ¬ x < 0) : JMet l (SP B adK adV) yIdx2 prog_23_method_80_code 3 (some .int) (d + 2) [.ref (adK i), .int x, .int 0] (some (.int (ixo (txS i) x 0))) := by
  refine j_of (by decide +kernel) (fun p e s m below meth c F => ?_)
  obtain ⟨hx, hb, hml, hret, hlk, hown, hT, hS⟩ := F
  refine lv_aload_n hx hb (k := 0) (i := 0) (x := adK i) (by decide +kernel) rfl rfl ?_
  refine j_callV (B := B) (y := yLatin) (C := "java/lang/String") (ix := 492) (n := 0) (nl' := 1) (d := d + 1) (as := []) (rest := []) hx hb hml rfl hown hT SP_c hS hC (j_latin hi) (tb 809 (by decide +kernel) rfl) (tb 138 (by decide +kernel) rfl) (tb 806 (by decide +kernel) rfl) (tb 807 (by decide +kernel) rfl) (tb 808 (by decide +kernel) rfl)
    ⟨by decide, by decide, by decide +kernel⟩ (by simp only [rmJ]; omega) rfl rfl (vk_recv hS.1 hi va_S.rf) (Nat.le_of_ble_eq_true rfl) (by decide +kernel) ⟨Nat.le_refl _, Nat.le_refl _⟩ ?_
  refine lv_if_eq hx hb (tgt := 23) (off := 19) (by decide +kernel) (by decide) (fun h => absurd h (by decide)) (fun _ => ?_)
  refine lv_aload_n hx hb (k := 0) (i := 0) (x := adK i) (by decide +kernel) rfl rfl ?_
  refine vk_getf (index := 9) (ref := "java/lang/String") hx hb (hS.1.1 i hi).2.2.1 va_S.rf hown (hT _ (tb 2196 (by decide +kernel) rfl)) (fun x h => h) (by decide +kernel) ?_
  refine lv_iload_n hx hb (k := 1) (i := 1) (x := x) (by decide +kernel) rfl rfl ?_
  refine lv_iload_n hx hb (k := 2) (i := 2) (x := 0) (by decide +kernel) rfl rfl ?_
  refine lv_aload_n hx hb (k := 0) (i := 0) (x := adK i) (by decide +kernel) rfl rfl ?_
  refine j_callV (B := B) (y := yLen) (C := "java/lang/String") (ix := 505) (n := 0) (nl' := 1) (d := d + 1) (as := []) hx hb hml rfl hown hT SP_c hS hC (j_length hi) (tb 795 (by decide +kernel) rfl) (tb 138 (by decide +kernel) rfl) (tb 853 (by decide +kernel) rfl) (tb 793 (by decide +kernel) rfl) (tb 794 (by decide +kernel) rfl)
    ⟨by decide, by decide, by decide +kernel⟩ (by simp only [rmJ]; omega) rfl rfl (vk_recv hS.1 hi va_S.rf) (Nat.le_of_ble_eq_true rfl) (by decide +kernel) ⟨Nat.le_refl _, Nat.le_refl _⟩ ?_
  refine j_callS (B := B) (y := yIdxL) (ix := 637) (n := 4) (nl' := 4) (d := d + 1) (as := [.ref (adV i), .int x, .int 0, .int (Int32.ofNat (lenS.getD i 0))]) (rest := []) hx hb hml rfl hown hT SP_c hS hC (j_idxL hi h0) (tb 856 (by decide +kernel) rfl) (tb 139 (by decide +kernel) rfl) (tb 854 (by decide +kernel) rfl) (tb 855 (by decide +kernel) rfl)
    ⟨by decide, by decide, by decide +kernel⟩ (by simp only [rmJ]; omega) rfl rfl (Nat.le_of_ble_eq_true rfl) (by decide +kernel) ⟨Nat.le_refl _, Nat.le_refl _⟩ ?_
  refine lv_goto hx hb (off := 16) (tgt := 36) (by decide +kernel) (by decide) ?_
  exact W.iret hx hb hret (fun t ht _ => ⟨rfl, ht⟩) (fun q hq => absurd hq List.not_mem_nil) (by decide +kernel) hlk
def yIdx1 : MethodName := ⟨"java/lang/String", "indexOf", "(I)I"⟩
theorem j_idx1 {i : Nat} {x : Int32} (hi : i < 2) (h0 : ¬ x < 0) : JMet l (SP B adK adV) yIdx1 prog_23_method_79_code 2 (some .int) (d + 3) [.ref (adK i), .int x] (some (.int (ixo (txS i) x 0))) := by
  refine j_of (by decide +kernel) (fun p e s m below meth c F => ?_)
  obtain ⟨hx, hb, hml, hret, hlk, hown, hT, hS⟩ := F
  refine lv_aload_n hx hb (k := 0) (i := 0) (x := adK i) (by decide +kernel) rfl rfl ?_
  refine lv_iload_n hx hb (k := 1) (i := 1) (x := x) (by decide +kernel) rfl rfl ?_
  refine lv_iconst hx hb (n := 0) (v := 0) (by decide +kernel) rfl ?_
  refine j_callV (B := B) (y := yIdx2) (C := "java/lang/String") (ix := 633) (n := 2) (nl' := 3) (d := d + 2) (as := [.int x, .int 0]) (rest := []) hx hb hml rfl hown hT SP_c hS hC (j_idx2 hi h0) (tb 852 (by decide +kernel) rfl) (tb 138 (by decide +kernel) rfl) (tb 849 (by decide +kernel) rfl) (tb 850 (by decide +kernel) rfl) (tb 851 (by decide +kernel) rfl)
    ⟨by decide, by decide, by decide +kernel⟩ (by simp only [rmJ]; omega) rfl rfl (vk_recv hS.1 hi va_S.rf) (Nat.le_of_ble_eq_true rfl) (by decide +kernel) ⟨Nat.le_refl _, Nat.le_refl _⟩ ?_
  exact W.iret hx hb hret (fun t ht _ => ⟨rfl, ht⟩) (fun q hq => absurd hq List.not_mem_nil) (by decide +kernel) hlk
end JS
