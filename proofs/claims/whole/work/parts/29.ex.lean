/-! ===== what is kept beside the good words; links of nest mates; catches ===== -/
/-- words that aren't good, yet stay -/
def nbk : Cond → Bool
  | .fieldLinkNest _ _ _ _ _ _ => true
  | .methodLinkNest _ _ _ _ => true
  | .castable _ _ => true
  | .declares _ => true
  | _ => false
theorem nbk_warm {w : Cond} {U V : State} (hw : nbk w = true) (hW : U.WarmedH V.vm) (h : va_Nw w U) : va_Nw w V := by
  cases w <;> first | (cases hw; done) | exact va_Nw.warmF hW h | exact va_Nw.warmM hW h | exact va_Nw.warmC hW h | exact va_Nw.warmD hW h
def IAEn : String := "java/lang/IllegalArgumentException"
def NSEn : String := "java/util/NoSuchElementException"
/-- the String constants: number, class, entry, text -/
def strT : List (Nat × String × Nat × String) := [(900001, "JuniorPews$Reader", 86, "person seats arrives sulks minds or and not age pew seat moved away sunday theirs "), (900002, "JuniorPews$Reader", 78, ";()+-*/<="), (900113, "JuniorPews", 113, "the tape has not so many bytes"), (900179, "JuniorPews", 179, "no such what"), (900429, "JuniorPews", 429, "no such person"), (900218, "JuniorPews", 218, "no such pew"), (900431, "JuniorPews", 431, "out of bounds"), (900318, "JuniorPews", 318, "the row is not so long"), (900364, "JuniorPews", 364, "both are one")]
/-- SX: what the String methods want (to come) -/
def EX (SX : State → Heap → Prop) (G : GC) (U : State) (H : Heap) : Prop :=
  (∀ w ∈ lw_tbl, nbk w = true → va_Nw w U) ∧ (∀ q ∈ strT, ∃ a, vk_R q.2.1 q.2.2.1 q.2.2.2 a U) ∧ (vx_Zq Bundle.tN "UNASSIGNED_STACK" Bundle.steD (gA G) U H ∧ vx_Zq Bundle.tN "SUPPRESSED_SENTINEL" Bundle.listD (gA G) U H) ∧ va_Nc IAEn NSEn U ∧ SX U H
theorem EX_c {SX : State → Heap → Prop} {G : GC} (hSX : EXc SX G) : EXc (EX SX G) G := by
  intro U V H H' ⟨h1, h2, ⟨h3, h4⟩, h5, h6⟩ hW hq
  have hk : ∀ a : Nat, a < H.size → ¬ gA G a → H'[a]? = H[a]? := fun a _ h => hq a (Nat.not_le.mp h)
  exact ⟨fun w hw hn => nbk_warm hn hW (h1 w hw hn), fun q hq => (h2 q hq).imp (fun _ ha => ha.warm hW), ⟨(h3.moved hW.alike).kept hk, (h4.moved hW.alike).kept hk⟩, h5.moved hW.alike, hSX U V H H' h6 hW hq⟩
theorem EX_n {SX : State → Heap → Prop} {G : GC} : NstR (EX SX G) := by
  intro U H h w hw hn
  refine h.1 w hw ?_
  cases w <;> first | (cases hn; done) | rfl
/-- which handler takes exception e: rows of the table against the call's own list -/
def excn (e : Nat) : String := enm e
def hlE : List (Nat × Nat × Nat × Nat) := [(13, 2, 687, 694), (18, 1, 991, 1022)]
theorem hlE_ok : ∀ q ∈ hlE, lw_tbl[q.2.2.1]? = some (Cond.classLink "JuniorPewsLaw" q.1 (enm q.2.1)) ∧ lw_tbl[q.2.2.2]? = some (Cond.castable (enm q.2.1) (enm q.2.1)) := by decide +kernel
/-- handler (e, j, kk) is the table's row (s, t, hp, ct): it covers pc, its class is e's, at j - 1 stands the astore kk -/
def chkH1 (k pc e j kk : Nat) (row : Nat × Nat × Nat × Nat) : Bool :=
  Nat.ble row.1 pc && Nat.blt pc row.2.1 && Nat.beq row.2.2.1 (pcf k (j - 1)) && Nat.blt 0 j && hlE.any (fun q => Nat.beq q.1 row.2.2.2 && Nat.beq q.2.1 e) && Nat.blt 0 row.2.2.2 && Nat.blt kk (mxl k) &&
  (match (code0 k)[j - 1]? with
   | some (.astore _, a, _) => Nat.beq a kk
   | some (.astore_n _, a, _) => Nat.beq a kk
   | _ => false)
def chkH (k i : Nat) (ai : AIns) : Bool := match ai with
  | (.invokevirtual _, _, _, _, tl) => (match tl.drop 2, hM k with
    | [], _ => true
    | [e1, j1, k1, 0], [r1] => Nat.beq (mown k) 12 && chkH1 k (pcf k i) e1 j1 k1 r1
    | [e1, j1, k1, e2, j2, k2, 0], [r1, r2] => Nat.beq (mown k) 12 && Nat.beq e1 1 && Nat.beq e2 2 && chkH1 k (pcf k i) e1 j1 k1 r1 && chkH1 k (pcf k i) e2 j2 k2 r2
    | _, _ => false)
  | _ => true
def chkHA (k : Nat) : List AIns → Nat → Bool
  | [], _ => true
  | ai :: l, i => chkH k i ai && chkHA k l (i + 1)
theorem chkHA_at {k : Nat} : ∀ {l : List AIns} {i j : Nat} {ai : AIns}, chkHA k l i = true → l[j]? = some ai → chkH k (i + j) ai = true
  | [], _, _, _, _, h => by simp at h
  | a :: l, i, 0, ai, hc, h => by
    simp only [chkHA, Bool.and_eq_true] at hc
    simp only [List.getElem?_cons_zero, Option.some.injEq] at h
    subst h
    exact hc.1
  | a :: l, i, j + 1, ai, hc, h => by
    simp only [chkHA, Bool.and_eq_true] at hc
    rw [List.getElem?_cons_succ] at h
    have := chkHA_at hc.2 h
    rwa [Nat.add_right_comm, Nat.add_assoc] at this
theorem chkH_w1 : (List.range' 0 120).all (fun k => chkHA k (code0 k) 0) = true := by decide +kernel
theorem chkH_w2 : (List.range' 120 120).all (fun k => chkHA k (code0 k) 0) = true := by decide +kernel
theorem chkH_w3 : (List.range' 240 93).all (fun k => chkHA k (code0 k) 0) = true := by decide +kernel
theorem chkH_w4 : (List.range' 333 1).all (fun k => chkHA k (code0 k) 0) = true := by decide +kernel
theorem chkH_all {k : Nat} (hk : k < NM) : chkHA k (code0 k) 0 = true := by
  have hk : k < 334 := hk
  by_cases h1 : k < 120
  · exact List.all_eq_true.mp chkH_w1 k (List.mem_range'_1.mpr ⟨by omega, by omega⟩)
  · by_cases h2 : k < 240
    · exact List.all_eq_true.mp chkH_w2 k (List.mem_range'_1.mpr ⟨by omega, by omega⟩)
    · by_cases h3 : k < 333
      · exact List.all_eq_true.mp chkH_w3 k (List.mem_range'_1.mpr ⟨by omega, by omega⟩)
      · exact List.all_eq_true.mp chkH_w4 k (List.mem_range'_1.mpr ⟨by omega, by omega⟩)
theorem chkH_at {k i n a b : Nat} {cv : Int32} {tl : List Nat} (hk : k < NM) (hcode : (code0 k)[i]? = some (.invokevirtual n, a, b, cv, tl)) : chkH k i (.invokevirtual n, a, b, cv, tl) = true := by
  have := chkHA_at (chkH_all hk) hcode
  rwa [Nat.zero_add] at this
/-- what chkH1 says of the classes -/
theorem chkH1_w {k pc e j kk : Nat} {row : Nat × Nat × Nat × Nat} (hc : chkH1 k pc e j kk row = true) : covers ⟨row.1, row.2.1, row.2.2.1, row.2.2.2⟩ pc = true ∧ row.2.2.2 ≠ 0 ∧ Cond.classLink "JuniorPewsLaw" row.2.2.2 (enm e) ∈ TBg ∧ Cond.castable (enm e) (enm e) ∈ lw_tbl := by
  simp only [chkH1, Bool.and_eq_true] at hc
  obtain ⟨⟨⟨⟨⟨⟨⟨g1, g2⟩, g3⟩, g4⟩, g5⟩, g6⟩, g7⟩, g8⟩ := hc
  have g1 := Nat.le_of_ble_eq_true g1
  have g2 : pc < row.2.1 := blt_lt g2
  have g6 : 0 < row.2.2.2 := blt_lt g6
  obtain ⟨q, hq, hq2⟩ := List.any_eq_true.mp g5
  rw [Bool.and_eq_true] at hq2
  have a1 := Nat.eq_of_beq_eq_true hq2.1
  have a2 := Nat.eq_of_beq_eq_true hq2.2
  obtain ⟨w1, w2⟩ := hlE_ok q hq
  rw [a1, a2] at w1
  rw [a2] at w2
  refine ⟨?_, Nat.pos_iff_ne_zero.mp g6, List.mem_filter.mpr ⟨List.mem_of_getElem? w1, rfl⟩, List.mem_of_getElem? w2⟩
  show (decide (row.1 ≤ pc) && decide (pc < row.2.1)) = true
  rw [decide_eq_true g1, decide_eq_true g2]; rfl
section CAT
variable {l : Launch} {G : GC} {X : XS} {SX : State → Heap → Prop} {p : Program} {e : Env} {R : Room} {s : State} {m : MethodId} {args : Array Value} {below : List Frame} {meth : Method} {c : Code} {Q : State → Prop} {k d i c0 s0 x : Nat} {ls rest : List Value} {h' : Hp}
/-- at a handler: the astore, and on -/
theorem cat_on {j kk : Nat} {H1 : Heap} {locs1 : List Loc} {cells slots : Nat} {lsM : Array Slot} {q : Addr} {row : Nat × Nat × Nat × Nat} (hCA : ∀ k, k < NM → chkM k = true) (hk : k < NM) (F : FC l G X p R s m args meth c k d) (hc : chkH1 k (pcf k i) x j kk row = true) (hP : WA l G p e R s m args below meth c Q k c0 s0 (j, (ls.map fun v => cond (lng v) .null v).set kk .null, [], h'))
    (hH : HW G h' H1) (hS : va_S (gA G) s.heap H1 locs1) (hL : LR G ls (mxl k) lsM) (h1 : cells + c0 = cz h') (h2 : slots + s0 = slz h') : W p l e R s m args below meth c H1 locs1 cells slots Q (F0 m row.2.2.1 lsM [.ref q]) := by
  obtain ⟨hx, hb, -⟩ := F
  simp only [chkH1, Bool.and_eq_true] at hc
  obtain ⟨⟨⟨⟨⟨⟨⟨g1, g2⟩, g3⟩, g4⟩, g5⟩, g6⟩, g7⟩, g8⟩ := hc
  have g3 := Nat.eq_of_beq_eq_true g3
  have g4 : 0 < j := blt_lt g4
  have g7 : kk < mxl k := blt_lt g7
  obtain ⟨j', rfl⟩ : ∃ j', j = j' + 1 := ⟨j - 1, by omega⟩
  rw [Nat.add_sub_cancel] at g3 g8
  rw [g3]
  -- the locals behind the astore
  have hL0 : LR G (ls.map fun v => cond (lng v) .null v) (mxl k) lsM := by
    refine ⟨by rw [List.length_map]; exact hL.1, hL.2.1, hL.2.2.1, fun jj v hv hn => ?_⟩
    rw [List.getElem?_map] at hv
    cases hq : ls[jj]? with
    | none => rw [hq] at hv; cases hv
    | some w =>
      rw [hq] at hv
      simp only [Option.map_some, Option.some.injEq] at hv
      cases hlw : lng w with
      | true => rw [hlw] at hv; exact absurd hv.symm hn
      | false => rw [hlw] at hv; rw [← hv]; exact hL.2.2.2 jj w hq (fun z => hn (by rw [← hv, z]; rfl))
  have hlen : kk < (ls.map fun v => cond (lng v) .null v).length := by rw [List.length_map, hL.1]; exact g7
  have hnl : kk = 0 ∨ lng ((ls.map fun v => cond (lng v) .null v).getD (kk - 1) .null) = false := by
    right
    simp only [List.getD, List.getElem?_map]
    cases hq : ls[kk - 1]? with
    | none => rfl
    | some w =>
      simp only [Option.map_some, Option.getD_some]
      cases hlw : lng w with
      | true => rfl
      | false => exact hlw
  have fin : ∀ ls' : Array Slot, lv_has ls' (mxl k) ((kk, .ref q) :: (lvl G (ls.map fun v => cond (lng v) .null v)).filter (fun q => !(q.1 == kk) && !(q.1 + 1 == kk && q.2.category == 2))) → LR G ((ls.map fun v => cond (lng v) .null v).set kk .null) (mxl k) ls' := by
    intro ls' h9
    have h10 : LR G ((ls.map fun v => cond (lng v) .null v).set kk (.int 0)) (mxl k) ls' → True := fun _ => trivial
    refine ⟨by rw [List.length_set, List.length_map]; exact hL.1, h9.1, h9.2.1, fun i2 w hi hw => ?_⟩
    by_cases hij : i2 = kk
    · subst hij
      rw [List.getElem?_set_self hlen] at hi
      cases hi
      exact absurd rfl hw
    · rw [List.getElem?_set_ne (Ne.symm hij)] at hi
      refine h9.2.2 (i2, rv G w) (List.mem_cons_of_mem _ (List.mem_filter.mpr ⟨lvl_mem.mpr ⟨w, hi, hw, rfl⟩, ?_⟩))
      have q1 : (i2 == kk) = false := by simp [hij]
      have q2 : (i2 + 1 == kk && (rv G w).category == 2) = false := by
        rw [Bool.and_eq_false_iff]
        by_cases hi1 : i2 + 1 = kk
        · right
          rcases hnl with z | z
          · omega
          · have hg : (ls.map fun v => cond (lng v) .null v).getD (kk - 1) .null = w := by
              rw [show kk - 1 = i2 by omega]
              simp only [List.getD, hi, Option.getD_some]
            rw [hg] at z
            simp only [rv_cat, beq_eq_false_iff_ne, ne_eq]
            exact lng_cat z
        · left
          simp [hi1]
      simp only [q1, q2]; rfl
  split at g8
  · next ix a bc heq =>
    obtain ⟨b, cv, tl⟩ := bc
    have hchk := chkM_at (hCA k hk) heq
    have ha := Nat.eq_of_beq_eq_true g8
    subst ha
    have hd := chk_dec hchk
    simp only [chk, Bool.and_eq_true] at hchk
    obtain ⟨e1, d1⟩ := pc_n hchk.2.1 hd
    have hn := Nat.eq_of_beq_eq_true hchk.2.2
    subst hn
    refine lv_astore hx hb d1 hL0.has g7 rfl (fun ls' h9 => ?_)
    rw [← e1]
    exact hP H1 locs1 cells slots ls' hH hS (fin ls' h9) h1 h2
  · next ix a bc heq =>
    obtain ⟨b, cv, tl⟩ := bc
    have hchk := chkM_at (hCA k hk) heq
    have ha := Nat.eq_of_beq_eq_true g8
    subst ha
    have hd := chk_dec hchk
    simp only [chk, Bool.and_eq_true, decide_eq_true_eq] at hchk
    obtain ⟨e1, d1⟩ := pc_n hchk.2.1 hd
    refine lv_astore_n hx hb d1 hchk.2.2 hL0.has g7 rfl (fun ls' h9 => ?_)
    rw [← e1]
    exact hP H1 locs1 cells slots ls' hH hS (fin ls' h9) h1 h2
  · cases g8
theorem cat_row {j kk : Nat} {H1 : Heap} {locs1 : List Loc} {cells slots : Nat} {lsM : Array Slot} {q : Addr} {ce : Cell} {row : Nat × Nat × Nat × Nat} {pre suf : List ExceptionTableEntry} (hCA : ∀ k, k < NM → chkM k = true) (hk : k < NM) (F : FC l G X p R s m args meth c k d) (hE : EX SX G s s.heap) (hlaw : mown k = 12)
    (hc : chkH1 k (pcf k i) x j kk row = true) (hP : WA l G p e R s m args below meth c Q k c0 s0 (j, (ls.map fun v => cond (lng v) .null v).set kk .null, [], h'))
    (hsplit : tableOf (hM k) = pre ++ ⟨row.1, row.2.1, row.2.2.1, row.2.2.2⟩ :: suf)
    (hpass : ∀ z ∈ pre, covers z (pcf k i) = false ∨ (z.catchType ≠ 0 ∧ ∃ nm : String, (Cond.classLink "JuniorPewsLaw" z.catchType nm).before args s = true ∧ va_Nc (enm x) nm s))
    (hH : HW G h' H1) (hS : va_S (gA G) s.heap H1 locs1) (hL : LR G ls (mxl k) lsM) (h1 : cells + c0 = cz h') (h2 : slots + s0 = slz h') (hq : H1[q]? = some ce) (hv : ce.vm = .none) (hcl : s.vm.findClass (enm x) = some ce.cls) :
    vx_W p l e R s m args below meth c H1 locs1 cells slots Q (F0 m (pcf k i) lsM rest) q := by
  have on := cat_on (q := q) hCA hk F hc hP hH hS hL h1 h2
  obtain ⟨-, -, -, -, -, -, hown, hT, -, -, -, -, -, htab⟩ := F
  obtain ⟨w1, w2, w3, w4⟩ := chkH1_w hc
  rw [hlaw] at hown
  have hca : (Cond.castable (enm x) (enm x)).before args s = true := va_Nw.use rfl (hE.1 _ w4 rfl)
  exact vx_catch (own := "JuniorPewsLaw") hown pre ⟨row.1, row.2.1, row.2.2.1, row.2.2.2⟩ suf (htab.trans hsplit) hpass w1 w2 (hT _ w3) hca hq hv hcl on
end CAT
theorem cat_R {l : Launch} {G : GC} {X : XS} {SX : State → Heap → Prop} (hCA : ∀ k, k < NM → chkM k = true) : CatR l G X (EX SX G) := by
  intro p e R s m args below meth c Q k d i c0 s0 x ls rest h' n a b cv tl f r F hEX hk hcode hne hthr hf H1 locs1 cells slots lsM q ce hH hS hL h1 h2 hq hv hcl
  have hck := chkH_at hk hcode
  have hT := F.2.2.2.2.2.2.2.1
  simp only [chkH] at hck
  split at hck
  · next heq => exact absurd heq hne
  · next e1 j1 k1 r1 heq htb =>
    rw [Bool.and_eq_true] at hck
    rw [heq] at hthr
    simp only [thr] at hthr
    split at hthr
    · next hx =>
      subst hx
      exact cat_row (pre := []) (suf := []) hCA hk F hEX (Nat.eq_of_beq_eq_true hck.1) hck.2 (hf _ hthr) (by rw [htb]; rfl) (fun z hz => absurd hz List.not_mem_nil) hH hS hL h1 h2 hq hv hcl
    · cases hthr
  · next e1 j1 k1 e2 j2 k2 r1 r2 heq htb =>
    simp only [Bool.and_eq_true] at hck
    obtain ⟨⟨⟨⟨c1, c2⟩, c3⟩, c4⟩, c5⟩ := hck
    have c2 := Nat.eq_of_beq_eq_true c2
    have c3 := Nat.eq_of_beq_eq_true c3
    subst c2 c3
    rw [heq] at hthr
    simp only [thr] at hthr
    split at hthr
    · next hx =>
      subst hx
      exact cat_row (pre := []) (suf := tableOf [r2]) hCA hk F hEX (Nat.eq_of_beq_eq_true c1) c4 (hf _ hthr) (by rw [htb]; rfl) (fun z hz => absurd hz List.not_mem_nil) hH hS hL h1 h2 hq hv hcl
    · split at hthr
      · next hx =>
        subst hx
        obtain ⟨w1, w2, w3, w4⟩ := chkH1_w c4
        refine cat_row (pre := tableOf [r1]) (suf := []) hCA hk F hEX (Nat.eq_of_beq_eq_true c1) c5 (hf _ hthr) (by rw [htb]; rfl) (fun z hz => ?_) hH hS hL h1 h2 hq hv hcl
        have hz : z = ⟨r1.1, r1.2.1, r1.2.2.1, r1.2.2.2⟩ := by simpa [tableOf] using hz
        subst hz
        exact Or.inr ⟨w2, enm 1, hT _ w3, hEX.2.2.2.1⟩
      · cases hthr
  · cases hck
