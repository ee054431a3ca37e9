/-! ===== the links are words of the tables ===== -/
def TBg : List Cond := lw_tbl.filter goodWord
def memF (l : List (Nat × Nat × Nat × Nat × Nat)) (o ix a b : Nat) : Bool := l.any fun q => Nat.beq q.1 o && Nat.beq q.2.1 ix && Nat.beq q.2.2.1 a && Nat.beq q.2.2.2.1 b
def memM (l : List (Nat × Nat × Nat × Nat)) (o ix a : Nat) : Bool := l.any fun q => Nat.beq q.1 o && Nat.beq q.2.1 ix && Nat.beq q.2.2.1 a
def memC (l : List (Nat × Nat × Int32 × Nat)) (o ix : Nat) (c : Int32) : Bool := l.any fun q => Nat.beq q.1 o && Nat.beq q.2.1 ix && decide (q.2.2.1 = c)
theorem flk_ok : ∀ q ∈ flk, lw_tbl[q.2.2.2.2]? = some (Cond.fieldLink (cnm q.1) q.2.1 (Tc q.2.2.1 q.2.2.2.1).1 (Tc q.2.2.1 q.2.2.2.1).2.1 (Tc q.2.2.1 q.2.2.2.1).2.2.1) := by decide +kernel
theorem flkN_ok : ∀ q ∈ flkN, lw_tbl[q.2.2.2.2]? = some (Cond.fieldLinkNest (cnm q.1) q.2.1 (Tc q.2.2.1 q.2.2.2.1).1 (Tc q.2.2.1 q.2.2.2.1).2.1 (Tc q.2.2.1 q.2.2.2.1).2.2.1 "JuniorPews") := by decide +kernel
theorem mlk_ok : ∀ q ∈ mlk, lw_tbl[q.2.2.2]? = some (Cond.methodLink (cnm q.1) q.2.1 (yM q.2.2.1)) := by decide +kernel
theorem mlkN_ok : ∀ q ∈ mlkN, lw_tbl[q.2.2.2]? = some (Cond.methodLinkNest (cnm q.1) q.2.1 (yM q.2.2.1) "JuniorPews") := by decide +kernel
theorem clk_ok : ∀ q ∈ clk, lw_tbl[q.2.2.2]? = some (Cond.classLink (cnm q.1) q.2.1 (cnm q.2.2.1)) := by decide +kernel
theorem cst_ok : ∀ q ∈ cst, lw_tbl[q.2.2.2]? = some (Cond.constant (cnm q.1) q.2.1 q.2.2.1) := by decide +kernel
theorem cstJ_ok : ∀ q ∈ cstJ, lw_tbl[q.2.2.2]? = some (Cond.constantLong (cnm q.1) q.2.1 (Int64.ofNat q.2.2.1)) := by decide +kernel
def nnm (a : Nat) : MethodName := if a = 1000 then Lib.Math.max.name else if a = 1001 then Lib.Math.min.name else if a = 1002 then Lib.Math.abs.name else if a = 1003 then arraycopyName else if a = 1020 then Lib.objectInit else if a = 1010 then ⟨"java/lang/String", "length", "()I"⟩ else if a = 1011 then ⟨"java/lang/String", "charAt", "(I)C"⟩ else ⟨"java/lang/String", "indexOf", "(I)I"⟩
theorem nlk_ok : ∀ q ∈ nlk, lw_tbl[q.2.2.2]? = some (Cond.methodLink (cnm q.1) q.2.1 (nnm q.2.2.1)) := by decide +kernel
theorem tbg {w : Cond} (h : w ∈ lw_tbl) (hg : goodWord w = true) : w ∈ TBg := List.mem_filter.mpr ⟨h, hg⟩
theorem memF_spec {l : List (Nat × Nat × Nat × Nat × Nat)} {o ix a b : Nat} (h : memF l o ix a b = true) : ∃ pl, (o, ix, a, b, pl) ∈ l := by
  simp only [memF, List.any_eq_true, Bool.and_eq_true] at h
  obtain ⟨⟨o', ix', a', b', pl⟩, hm, ⟨⟨h1, h2⟩, h3⟩, h4⟩ := h
  have e1 := Nat.eq_of_beq_eq_true h1
  have e2 := Nat.eq_of_beq_eq_true h2
  have e3 := Nat.eq_of_beq_eq_true h3
  have e4 := Nat.eq_of_beq_eq_true h4
  dsimp only at e1 e2 e3 e4
  subst e1; subst e2; subst e3; subst e4
  exact ⟨pl, hm⟩
theorem memM_spec {l : List (Nat × Nat × Nat × Nat)} {o ix a : Nat} (h : memM l o ix a = true) : ∃ pl, (o, ix, a, pl) ∈ l := by
  simp only [memM, List.any_eq_true, Bool.and_eq_true] at h
  obtain ⟨⟨o', ix', a', pl⟩, hm, ⟨h1, h2⟩, h3⟩ := h
  have e1 := Nat.eq_of_beq_eq_true h1
  have e2 := Nat.eq_of_beq_eq_true h2
  have e3 := Nat.eq_of_beq_eq_true h3
  dsimp only at e1 e2 e3
  subst e1; subst e2; subst e3
  exact ⟨pl, hm⟩
theorem memC_spec {l : List (Nat × Nat × Int32 × Nat)} {o ix : Nat} {v : Int32} (h : memC l o ix v = true) : ∃ pl, (o, ix, v, pl) ∈ l := by
  simp only [memC, List.any_eq_true, Bool.and_eq_true, decide_eq_true_eq] at h
  obtain ⟨⟨o', ix', a', pl⟩, hm, ⟨h1, h2⟩, h3⟩ := h
  have e1 := Nat.eq_of_beq_eq_true h1
  have e2 := Nat.eq_of_beq_eq_true h2
  dsimp only at e1 e2 h3
  subst e1; subst e2; subst h3
  exact ⟨pl, hm⟩
theorem w_flk {o ix a b : Nat} (h : memF flk o ix a b = true) : Cond.fieldLink (cnm o) ix (Tc a b).1 (Tc a b).2.1 (Tc a b).2.2.1 ∈ TBg := by
  obtain ⟨pl, hm⟩ := memF_spec h
  exact tbg (List.mem_of_getElem? (flk_ok _ hm)) rfl
theorem w_flkN {o ix a b : Nat} (h : memF flkN o ix a b = true) : Cond.fieldLinkNest (cnm o) ix (Tc a b).1 (Tc a b).2.1 (Tc a b).2.2.1 "JuniorPews" ∈ lw_tbl := by
  obtain ⟨pl, hm⟩ := memF_spec h
  exact List.mem_of_getElem? (flkN_ok _ hm)
theorem w_mlk {o ix a : Nat} (h : memM mlk o ix a = true) : Cond.methodLink (cnm o) ix (yM a) ∈ TBg := by
  obtain ⟨pl, hm⟩ := memM_spec h
  exact tbg (List.mem_of_getElem? (mlk_ok _ hm)) rfl
theorem w_mlkN {o ix a : Nat} (h : memM mlkN o ix a = true) : Cond.methodLinkNest (cnm o) ix (yM a) "JuniorPews" ∈ lw_tbl := by
  obtain ⟨pl, hm⟩ := memM_spec h
  exact List.mem_of_getElem? (mlkN_ok _ hm)
theorem w_clk {o ix a : Nat} (h : memM clk o ix a = true) : Cond.classLink (cnm o) ix (cnm a) ∈ TBg := by
  obtain ⟨pl, hm⟩ := memM_spec h
  exact tbg (List.mem_of_getElem? (clk_ok _ hm)) rfl
theorem w_nlk {o ix a : Nat} (h : memM nlk o ix a = true) : Cond.methodLink (cnm o) ix (nnm a) ∈ TBg := by
  obtain ⟨pl, hm⟩ := memM_spec h
  exact tbg (List.mem_of_getElem? (nlk_ok _ hm)) rfl
theorem w_cst {o ix : Nat} {v : Int32} (h : memC cst o ix v = true) : Cond.constant (cnm o) ix v ∈ TBg := by
  obtain ⟨pl, hm⟩ := memC_spec h
  exact tbg (List.mem_of_getElem? (cst_ok _ hm)) rfl
theorem w_cstJ {o ix a : Nat} (h : memM cstJ o ix a = true) : Cond.constantLong (cnm o) ix (Int64.ofNat a) ∈ TBg := by
  obtain ⟨pl, hm⟩ := memM_spec h
  exact tbg (List.mem_of_getElem? (cstJ_ok _ hm)) rfl
theorem in12b : (List.range 12).all (fun c => (u_ws (cnm c) (Tc c) (Nf c)).all (fun w => lw_tbl.any (fun z => decide (z = w)) && goodWord w)) = true := by decide +kernel
theorem in12 {c : Nat} (hc : c < 12) : ∀ w ∈ u_ws (cnm c) (Tc c) (Nf c), w ∈ TBg := by
  intro w hw
  have h1 := List.all_eq_true.mp in12b c (List.mem_range.mpr hc)
  have h2 := List.all_eq_true.mp h1 w hw
  simp only [Bool.and_eq_true, List.any_eq_true, decide_eq_true_eq] at h2
  obtain ⟨⟨z, hz, rfl⟩, hg⟩ := h2
  exact tbg hz hg
theorem ty12 : ∀ c, c < 12 → ∀ k, k < Nf c → parseFieldDescriptor (Tc c k).2.2.1 = some (tyc c k) := by decide +kernel
theorem nm12 : ∀ c, c < 12 → ∀ a, a < Nf c → ∀ b, b < Nf c → a ≠ b → (Tc c a).2.1 ≠ (Tc c b).2.1 := by decide +kernel
theorem ins12 : ∀ c, c < 12 → Cond.instantiable (cnm c) (Nf c) ∈ lw_tbl ∧ Cond.initialized (cnm c) ∈ lw_tbl := by decide +kernel
theorem w_ins {c : Nat} (hc : c < 12) : Cond.instantiable (cnm c) (Nf c) ∈ TBg := tbg (ins12 c hc).1 rfl
theorem w_ini {c : Nat} (hc : c < 12) : Cond.initialized (cnm c) ∈ TBg := tbg (ins12 c hc).2 rfl
theorem w_arrI : Cond.arrayClass .int ∈ TBg := tbg (by decide +kernel) rfl
theorem w_arrZ : Cond.arrayClass .boolean ∈ TBg := tbg (by decide +kernel) rfl
theorem w_arrJ : Cond.arrayClass .long ∈ TBg := tbg (by decide +kernel) rfl
theorem w_max : Cond.static Lib.Math.max.name ∈ TBg ∧ Cond.initialized "java/lang/Math" ∈ TBg ∧ Cond.code Lib.Math.max.name Lib.Math.max.code 2 (some .int) ∈ TBg := ⟨tbg (by decide +kernel) rfl, tbg (by decide +kernel) rfl, tbg (by decide +kernel) rfl⟩
theorem w_min : Cond.static Lib.Math.min.name ∈ TBg ∧ Cond.code Lib.Math.min.name Lib.Math.min.code 2 (some .int) ∈ TBg := ⟨tbg (by decide +kernel) rfl, tbg (by decide +kernel) rfl⟩
theorem w_abs : Cond.static Lib.Math.abs.name ∈ TBg ∧ Cond.code Lib.Math.abs.name Lib.Math.abs.code 1 (some .int) ∈ TBg := ⟨tbg (by decide +kernel) rfl, tbg (by decide +kernel) rfl⟩
theorem w_cpy : Cond.static arraycopyName ∈ TBg ∧ Cond.initialized "java/lang/System" ∈ TBg ∧ Cond.native arraycopyName ∈ TBg := ⟨tbg (by decide +kernel) rfl, tbg (by decide +kernel) rfl, tbg (by decide +kernel) rfl⟩
theorem w_obj : Cond.instanceMethod Lib.objectInit ∈ TBg ∧ Cond.code Lib.objectInit ⟨#[0xb1]⟩ 1 none ∈ TBg := ⟨tbg (by decide +kernel) rfl, tbg (by decide +kernel) rfl⟩
