/-! ===== throws: the ten places ===== -/
theorem nbk_ot {w : Cond} (h : nbk w = true) : w.onTables = true := by
  cases w <;> first | (cases h; done) | rfl
def nse6 : ByteArray := ⟨#[0x2a, 0x2b, 0xb7, 0x00, 0x0d, 0xb1]⟩
def thN : List String := ["java/lang/RuntimeException", "java/lang/Exception"]
def thIk (e : Nat) : Nat := cond (Nat.beq e 1) 177 111
def thIc (e : Nat) : Nat := cond (Nat.beq e 1) 181 115
def thIx (e : Nat) : Nat := cond (Nat.beq e 1) 13 7
def thRx (e : Nat) : ByteArray := cond (Nat.beq e 1) nse6 Bundle.six
def thAt (e : Nat) : List Cond := (Bundle.ownAtomsX "JuniorPews" (thIc e) (enm e) (thIx e) (thRx e) thN).filter vx_no
def thL (e : Nat) : List Cond := Cond.classLink "JuniorPews" (thIk e) (enm e) :: Cond.initialized (enm e) :: thAt e
/-- their places in the table -/
def thPl (e : Nat) : List Nat := cond (Nat.beq e 1)
  [1020, 144, 133, 714, 723, 726, 729, 731, 715, 716, 152, 153, 717, 722, 727, 747, 704, 748, 706, 749, 708, 718, 720, 710, 743, 744, 746, 710, 1031, 1032, 1033, 737, 696, 737, 738, 739, 740, 698, 740, 741, 742, 743, 700, 1030, 1021, 1022, 1023, 725, 1024, 1025, 1026, 1027, 713, 712, 1028]
  [692, 136, 133, 714, 723, 726, 729, 731, 715, 716, 152, 153, 717, 722, 727, 747, 704, 748, 706, 749, 708, 718, 720, 710, 743, 744, 746, 710, 734, 735, 736, 737, 696, 737, 738, 739, 740, 698, 740, 741, 742, 743, 700, 733, 693, 694, 701, 702, 703, 705, 707, 709, 713, 712, 711]
theorem th_tab : ∀ e ∈ [1, 2], (thL e).map some = (thPl e).map (fun i => lw_tbl[i]?) := by decide +kernel
theorem th_gd : ∀ e ∈ [1, 2], (thL e).all (fun w => vx_ot w && (goodWord w || nbk w)) = true := by decide +kernel
theorem th_dec : ∀ e ∈ [1, 2], Bundle.fit (enm e) = true ∧ (thN.all Bundle.fit) = true ∧ decode (thRx e) 0 = .ok (.aload_n 0, 1) ∧ decode (thRx e) 1 = .ok (.aload_n 1, 1) ∧ decode (thRx e) 2 = .ok (.invokespecial (thIx e), 3) ∧ decode (thRx e) 5 = .ok (.return_, 1) := by decide +kernel
theorem th_mem {e : Nat} (he : e ∈ [1, 2]) {w : Cond} (hw : w ∈ thL e) : w ∈ lw_tbl := by
  have h1 : some w ∈ (thL e).map some := List.mem_map.mpr ⟨w, hw, rfl⟩
  rw [th_tab e he] at h1
  obtain ⟨i, -, h2⟩ := List.mem_map.mp h1
  exact List.mem_of_getElem? h2
/-- the places: method, instruction, exception, the text's entry, where the constructor is called -/
def thS : List (Nat × Nat × Nat × Nat × Nat) := [(102, 6, 2, 113, 6), (105, 66, 1, 179, 6), (108, 83, 1, 179, 6), (109, 11, 1, 218, 6), (109, 58, 1, 179, 6), (132, 23, 1, 318, 7), (143, 12, 2, 364, 7), (164, 7, 1, 429, 7), (165, 5, 1, 179, 6), (166, 6, 2, 431, 7)]
def thTx (is : Nat) : String := ((strT.find? (fun z => Nat.beq z.2.2.1 is)).map (fun z => z.2.2.2)).getD ""
theorem thS_ok : ∀ q ∈ thS, mown q.1 = 10 ∧ hM q.1 = [] ∧ q.2.2.1 ∈ [1, 2] ∧ (900000 + q.2.2.2.1, "JuniorPews", q.2.2.2.1, thTx q.2.2.2.1) ∈ strT := by decide +kernel
theorem thS_dec : ∀ q ∈ thS, decode (bM q.1) (pcf q.1 q.2.1) = .ok (.new (thIk q.2.2.1), 3) ∧ decode (bM q.1) (pcf q.1 q.2.1 + 3) = .ok (.dup, 1) ∧
    ((q.2.2.2.2 = 6 ∧ decode (bM q.1) (pcf q.1 q.2.1 + 4) = .ok (.ldc q.2.2.2.1, 2)) ∨ (q.2.2.2.2 = 7 ∧ decode (bM q.1) (pcf q.1 q.2.1 + 4) = .ok (.ldc_w q.2.2.2.1, 3))) ∧
    decode (bM q.1) (pcf q.1 q.2.1 + q.2.2.2.2) = .ok (.invokespecial (thIc q.2.2.1), 3) ∧ decode (bM q.1) (pcf q.1 q.2.1 + q.2.2.2.2 + 3) = .ok (.athrow, 1) := by decide +kernel
def chkN1 (k i : Nat) (ai : AIns) : Bool := match ai with
  | (.new _, a, _, _, _) => !(Nat.ble 1000 a) || thS.any (fun q => Nat.beq q.1 k && Nat.beq q.2.1 i && Nat.beq (q.2.2.1 + 1000) a)
  | _ => true
def chkNA (k : Nat) : List AIns → Nat → Bool
  | [], _ => true
  | ai :: l, i => chkN1 k i ai && chkNA k l (i + 1)
theorem chkNA_at {k : Nat} : ∀ {l : List AIns} {i j : Nat} {ai : AIns}, chkNA k l i = true → l[j]? = some ai → chkN1 k (i + j) ai = true
  | [], _, _, _, _, h => by simp at h
  | a :: l, i, 0, ai, hc, h => by
    simp only [chkNA, Bool.and_eq_true] at hc
    simp only [List.getElem?_cons_zero, Option.some.injEq] at h
    subst h
    exact hc.1
  | a :: l, i, j + 1, ai, hc, h => by
    simp only [chkNA, Bool.and_eq_true] at hc
    rw [List.getElem?_cons_succ] at h
    have := chkNA_at hc.2 h
    rwa [Nat.add_right_comm, Nat.add_assoc] at this
theorem chkN_w1 : (List.range' 0 120).all (fun k => chkNA k (code0 k) 0) = true := by decide +kernel
theorem chkN_w2 : (List.range' 120 120).all (fun k => chkNA k (code0 k) 0) = true := by decide +kernel
theorem chkN_w3 : (List.range' 240 93).all (fun k => chkNA k (code0 k) 0) = true := by decide +kernel
theorem chkN_w4 : (List.range' 333 1).all (fun k => chkNA k (code0 k) 0) = true := by decide +kernel
theorem chkN_all {k : Nat} (hk : k < NM) : chkNA k (code0 k) 0 = true := by
  have hk : k < 334 := hk
  by_cases h1 : k < 120
  · exact List.all_eq_true.mp chkN_w1 k (List.mem_range'_1.mpr ⟨by omega, by omega⟩)
  · by_cases h2 : k < 240
    · exact List.all_eq_true.mp chkN_w2 k (List.mem_range'_1.mpr ⟨by omega, by omega⟩)
    · by_cases h3 : k < 333
      · exact List.all_eq_true.mp chkN_w3 k (List.mem_range'_1.mpr ⟨by omega, by omega⟩)
      · exact List.all_eq_true.mp chkN_w4 k (List.mem_range'_1.mpr ⟨by omega, by omega⟩)
theorem th_o1 {c c0 z r n : Nat} (h1 : c + c0 = z) (h2 : z + n ≤ r + c0) : c + n ≤ r := by omega
theorem th_o2 {c c0 z mc n : Nat} (h1 : c + c0 = z) (h2 : mc + c0 = z + n) : c + n ≤ mc := by omega
theorem th_o3 {d r : Nat} (h : d + 10 ≤ r) : 2 + 3 < r := by omega
theorem th_o4 {d r x : Nat} (h : 100 * d + 400 ≤ r) (hx : x ≤ 200) : x + (13 * (2 + 1) + 43) ≤ r := by omega
theorem thr_R {l : Launch} {G : GC} {X : XS} {SX : State → Heap → Prop} (hl : l.stackTraces = false) : ThrR l G X (EX SX G) := by
  intro p e R s m args below meth c k d i c0 s0 mc ms ls st h n a b cv tl F hE hk hcode ha hst hc1 hs1 hmc hms
  have hsite := chkNA_at (chkN_all hk) hcode
  rw [Nat.zero_add] at hsite
  simp only [chkN1, Nat.ble_eq_true_of_le ha, Bool.not_true, Bool.false_or] at hsite
  obtain ⟨⟨k', i', e', is, w⟩, hq, hqq⟩ := List.any_eq_true.mp hsite
  simp only [Bool.and_eq_true] at hqq
  have g1 := Nat.eq_of_beq_eq_true hqq.1.1
  have g2 := Nat.eq_of_beq_eq_true hqq.1.2
  have g3 := Nat.eq_of_beq_eq_true hqq.2
  subst g1 g2 g3
  obtain ⟨o1, o2, o3, o4⟩ := thS_ok _ hq
  obtain ⟨t1, t2, t3, t4, t5⟩ := thS_dec _ hq
  dsimp only at o1 o2 o3 o4 t1 t2 t3 t4 t5
  clear hq hsite hqq
  obtain ⟨hexec, hb, hml, -, hlk, -, hown, hT, -, -, -, hfr, hlo, htab⟩ := F
  obtain ⟨y1, y2, y3, y4, y5, y6⟩ := th_dec e' o3
  have wd : ∀ v ∈ thL e', v.before args s = true := by
    intro v hv
    have hg := List.all_eq_true.mp (th_gd e' o3) v hv
    rw [Bool.and_eq_true, Bool.or_eq_true] at hg
    rcases hg.2 with hg2 | hg2
    · exact hT v (List.mem_filter.mpr ⟨th_mem o3 hv, hg2⟩)
    · exact va_Nw.use (nbk_ot hg2) (hE.1 v (th_mem o3 hv) hg2)
  have ot : ∀ v ∈ thL e', vx_ot v = true := by
    intro v hv
    have hg := List.all_eq_true.mp (th_gd e' o3) v hv
    rw [Bool.and_eq_true] at hg
    exact hg.1
  rw [Nat.add_sub_cancel]
  intro H locs cells slots lsM hH hS hL h1 h2
  rw [o1] at hown
  obtain ⟨aT, hstr⟩ := hE.2.1 _ o4
  dsimp only at hstr h1 h2
  refine nse_throw (w := pcf k' i' + w) (own := "JuniorPews") (names := thN) (ik := thIk e') (ic := thIc e') (ix := thIx e') (A := gA G) hexec hb hl y3 y4 y5 y6 hown y1 (fun z hz => List.all_eq_true.mp y2 z hz)
    (wd _ List.mem_cons_self) (wd _ (List.mem_cons_of_mem _ List.mem_cons_self)) hstr (fun v hv => wd v (List.mem_cons_of_mem _ (List.mem_cons_of_mem _ hv))) ot
    hE.2.2.1.1 hE.2.2.1.2 hS (hL.2.1.trans hml.symm) t1 t2 (t3.imp (fun z => ⟨by rw [z.1], z.2⟩) (fun z => ⟨by rw [z.1], z.2⟩)) t4 t5
    (fun x hx => by rw [htab, o2] at hx; exact absurd hx List.not_mem_nil) (th_o3 hfr) (th_o4 hlo (cat_rest hst)) (th_o1 h1 hc1) (th_o1 h2 hs1) hlk ?_ hS.2.2 (th_o2 h1 hmc) (th_o2 h2 hms)
  intro t _ u1 u2
  refine ⟨rfl, ⟨?_, hH.2.1, hH.2.2⟩, Nat.le_trans hS.1 u1, fun q hq hA => (u2 q (Nat.lt_of_lt_of_le hq hS.1)).trans (hS.2.1 q hq hA)⟩
  exact hH.1.kept (fun kk q hq => u2 q.1 ((hH.1 kk q hq).lt))
