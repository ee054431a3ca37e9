/-! ===== soundness: new cells ===== -/
def hNew (h : Hp) (x : ACell) : Hp := (h.1 ++ [x], h.2.1, uz h.2.2.1 h.1.length, ujz h.2.2.2 h.1.length)
theorem hNew_cz (h : Hp) (x : ACell) : cz (hNew h x) = cz h + 1 := by simp only [hNew, cz, List.length_append, List.length_cons, List.length_nil]; omega
theorem hNew_slz (h : Hp) (x : ACell) : slz (hNew h x) = slz h + x.2.1 := by simp only [hNew, slz, List.map_append, List.sum_append, List.map_cons, List.map_nil, List.sum_cons, List.sum_nil]; omega
theorem hNew_at (h : Hp) (x : ACell) : (hNew h x).1[h.1.length]? = some x := by
  show (h.1 ++ [x])[h.1.length]? = some x
  rw [List.getElem?_append_right (Nat.le_refl _), Nat.sub_self]; rfl
theorem hNew_D (h : Hp) (x : ACell) (b : Nat) : (hNew h x).2.2.1 h.1.length b = 0 := by simp [hNew, uz]
theorem hNew_J (h : Hp) (x : ACell) (b : Nat) : (hNew h x).2.2.2 h.1.length b = 0 := by simp [hNew, ujz]
theorem new_size {h : Hp} {H : Heap} {g1 : Nat} (hu : h.2.1 = 0) (a1 : H.size ≤ g1 + cz h) (a2 : g1 + h.1.length ≤ H.size) : H.size = g1 + h.1.length := by
  have : cz h = h.1.length := by simp [cz, hu]
  omega
section NEW
variable {l : Launch} {G : GC} {X : XS} {p : Program} {e : Env} {R : Room} {s : State} {m : MethodId} {args : Array Value} {below : List Frame} {meth : Method} {c : Code} {Q : State → Prop} {k d c0 s0 : Nat} {i : Nat} {ls st : List Value} {h : Hp} {a b : Nat} {cv : Int32} {tl : List Nat} {lb : List (Bool × FS)}

set_option maxHeartbeats 200000 in
/-- behind a new cell: the frame goes on -/
theorem new_on {H H1 : Heap} {locs : List Loc} {cells slots len : Nat} {lsM : Array Slot} {r : List Value} {x : ACell} (hz0 : G.1 ≤ s.heap.size) (hz : H.size = G.1 + h.1.length) (hlen : h.1.length < aSCR) (hH : HW G h H) (hS : va_S (gA G) s.heap H locs) (hL : LR G ls (mxl k) lsM) (h1 : cells + c0 = cz h) (h2 : slots + s0 = slz h) (hx : ∀ (k p : Nat), x.2.2[k]? ≠ some (some p))
    (hP : WA l G p e R s m args below meth c Q k c0 s0 (i + 1, ls, .ref h.1.length :: r, hNew h x)) (e1 : pcf k (i + 1) = pcf k i + len) (z1 : H1.size = H.size + 1) (o1 : ∀ q, q < H.size → H1[q]? = H[q]?) (hat : va_at G.2.1 cls12 (G.1 + h.1.length, cE G (hNew h x) h.1.length) H1) :
    W p l e R s m args below meth c H1 locs (cells + 1) (slots + x.2.1) Q (F0 m (pcf k i + len) lsM (.ref H.size :: r.map (rv G))) := by
  have hS0 := hS.1
  have hW := hP H1 locs (cells + 1) (slots + x.2.1) lsM (hH.push hz hlen hx o1 hat) ⟨by omega, fun q g1 g2 => (o1 q (Nat.lt_of_lt_of_le g1 hS.1)).trans (hS.2.1 q g1 g2), hS.2.2⟩ hL (by rw [hNew_cz]; omega) (by rw [hNew_slz]; omega)
  have e2 : rho G h.1.length = H.size := by rw [rho_lt hlen, hz]
  rw [← e1, ← e2]
  exact hW
theorem new_obj {H1 : Heap} {kC : Class} (hts : ∀ w ∈ TBg, w.before args s = true) (hK : va_K G.2.1 cls12 (gT G) s) (ha12 : a < 12) (hkC : s.vm.classes[G.2.1.1 a]? = some kC) (q1 : H1[G.1 + h.1.length]? = some (blank (G.2.1.1 a) kC)) : va_at G.2.1 cls12 (G.1 + h.1.length, cE G (hNew h (a, Nf a, List.replicate (Nf a) none)) h.1.length) H1 := by
  rw [cE_o (hNew_at h (a, Nf a, List.replicate (Nf a) none)) ha12]
  have hKn := hK.1 a _ (cls12_at ha12)
  refine ⟨_, cls12_at ha12, (u_born (tyc a) hts (in12 ha12) hKn hkC q1 (ty12 a ha12)).to (fun j hj => ?_)⟩
  unfold vp_V
  rw [List.getD, fvs_at hj]
  have hrep : (List.replicate (Nf a) (none : Option Nat)).getD j none = none := by simp [List.getD, List.getElem?_replicate, hj]
  rw [hNew_D, hNew_J, hrep]
  rcases ty_in a ha12 j hj with q | q | q | ⟨z, q⟩ | ⟨z, q⟩ <;> rw [q] <;> rfl
set_option maxHeartbeats 200000 in
theorem ok_new {n : Nat} (F : FC l G X p R s m args meth c k d) (hc0 : s.heap.size ≤ G.1 + c0) (hc : chk k i (.new n, a, b, cv, tl) = true) (h10 : ¬ 1000 ≤ a) (ha : act X (.new n, a, b, cv, tl) i ls st h = .inl lb) (hk : WSel (PW l G p e R s m args below meth c Q k c0 s0) lb) : WA l G p e R s m args below meth c Q k c0 s0 (i, ls, st, h) := by
  obtain ⟨hx, hb, hml, -, -, -, hown, hts, hK, hz0, -, hfr, hlo, -⟩ := F
  have hd := chk_dec hc
  have hble : Nat.ble 1000 a = false := by
    rw [Bool.eq_false_iff]
    exact fun q => h10 (Nat.le_of_ble_eq_true q)
  simp only [chk, hble, Bool.false_or, Bool.and_eq_true] at hc
  obtain ⟨-, hpc, ⟨hlk, hbN⟩, ha12⟩ := hc
  obtain ⟨e1, d1⟩ := pc_n hpc hd
  have hbN := Nat.eq_of_beq_eq_true hbN
  have ha12 : a < 12 := blt_lt ha12
  subst hbN
  have ha : cond (Nat.beq h.2.1 0 && Nat.blt h.1.length 900000) (go1 (i + 1, ls, .ref h.1.length :: st, hNew h (a, Nf a, List.replicate (Nf a) none))) stk = .inl lb := by
    rw [← ha]
    show _ = cond (Nat.ble 1000 a) _ _
    rw [hble]
    rfl
  obtain ⟨hg, ha1⟩ := cond_inv ha hk
  rw [Bool.and_eq_true] at hg
  have hu := Nat.eq_of_beq_eq_true hg.1
  have hlen : h.1.length < aSCR := scr_lt hg.2
  have hP := go1_inv ha1 hk
  have r1 : cz (hNew h (a, Nf a, List.replicate (Nf a) none)) ≤ R.cells + c0 := hP.2.1
  have r2 : slz (hNew h (a, Nf a, List.replicate (Nf a) none)) ≤ R.slots + s0 := hP.2.2
  rw [hNew_cz] at r1
  rw [hNew_slz] at r2
  have r2 : slz h + Nf a ≤ R.slots + s0 := r2
  have hP := hP.1
  intro H locs cells slots lsM hH hS hL h1 h2 T hT Y
  have h1 : cells + c0 = cz h := h1
  have h2 : slots + s0 = slz h := h2
  have hz : H.size = G.1 + h.1.length := new_size hu (heap_at hc0 hT Y h1) (hH.sz (Nat.le_trans hz0 hS.1))
  have key : W p l e R s m args below meth c H locs cells slots Q (F0 m (pcf k i) lsM (st.map (rv G))) :=
    W.newcK hx hb hown (hts _ (w_clk hlk)) (hts _ (w_ins ha12)) (hts _ (w_ini ha12)) rfl d1 (by omega) (by omega) (hK.1 a _ (cls12_at ha12)).2.1 rfl (fun H1 kC hkC q1 z1 o1 =>
      new_on (x := (a, Nf a, List.replicate (Nf a) none)) hz0 hz hlen hH hS hL h1 h2 (fun kk pp => by simp [List.getElem?_replicate]) hP e1 z1 o1 (new_obj hts hK ha12 hkC (by rw [← hz]; exact q1)))
  exact key T hT Y
set_option maxHeartbeats 200000 in
theorem new_row {H : Heap} {locs : List Loc} {cells slots : Nat} {lsM : Array Slot} {x : Int32} {r : List Value} {ty : ArrayType} {cA0 : ClassId} (hx : p.tables.exec = Jvm.exec) (hb' : c.code = bM k) (harr : (Cond.arrayClass (newarray.typeOf ty)).before args s = true) (d1 : decode (bM k) (pcf k i) = .ok (.newarray ty, 2)) (hn0 : ¬ x < 0) (hnb : x.toNatClampNeg = b) (hbl : b ≤ 100000) (hcb : componentBytes (newarray.typeOf ty) ≤ 8) (hr1 : cells + 1 ≤ R.cells) (hr2 : slots + b ≤ R.slots)
    (hRA : s.vm.findClass ("[" ++ (newarray.typeOf ty).toString) = some cA0)
    (fin : ∀ H1 : Heap, H1[H.size]? = some (arrV cA0 b (fun _ => defaultValue (newarray.typeOf ty))) → H1.size = H.size + 1 → (∀ q, q < H.size → H1[q]? = H[q]?) → W p l e R s m args below meth c H1 locs (cells + 1) (slots + b) Q (F0 m (pcf k i + 2) lsM (.ref H.size :: r))) : W p l e R s m args below meth c H locs cells slots Q (F0 m (pcf k i) lsM (.int x :: r)) := by
  refine va_newaK (atype := ty) hx hb' harr (g := F0 m (pcf k i) lsM (.int x :: r)) rfl d1 (n := x) (N := b) (rest := r) rfl hn0 hnb ?_ hr1 hr2 (h := H.size) rfl (fun H1 cA q1 z1 o1 hAr hNm => ?_)
  · exact Nat.le_trans (Nat.mul_le_mul hbl hcb) (by decide +kernel)
  · have hcA : cA0 = cA := Option.some.inj (hRA.symm.trans hNm)
    subst hcA
    exact fin H1 q1 z1 o1
set_option maxHeartbeats 200000 in
theorem ok_newarray {ty : ArrayType} (F : FC l G X p R s m args meth c k d) (hc0 : s.heap.size ≤ G.1 + c0) (hc : chk k i (.newarray ty, a, b, cv, tl) = true) (ha : act X (.newarray ty, a, b, cv, tl) i ls st h = .inl lb) (hk : WSel (PW l G p e R s m args below meth c Q k c0 s0) lb) : WA l G p e R s m args below meth c Q k c0 s0 (i, ls, st, h) := by
  obtain ⟨hx, hb, hml, -, -, -, hown, hts, hK, hz0, -, hfr, hlo, -⟩ := F
  have hd := chk_dec hc
  simp only [chk, Bool.and_eq_true] at hc
  obtain ⟨-, hpc, hty⟩ := hc
  obtain ⟨e1, d1⟩ := pc_n hpc hd
  have ha : pI st (fun x r => cond (Nat.beq h.2.1 0 && decide (x = Int32.ofNat b) && Nat.ble b 100000 && Nat.blt h.1.length 900000) (go1 (i + 1, ls, .ref h.1.length :: r, hNew h (a, b, []))) stk) = .inl lb := ha
  obtain ⟨x, r, rfl, ha0⟩ := pI_inv ha hk
  obtain ⟨hg, ha1⟩ := cond_inv ha0 hk
  rw [Bool.and_eq_true, Bool.and_eq_true, Bool.and_eq_true] at hg
  obtain ⟨⟨⟨hu, hxb⟩, hbl⟩, hlen⟩ := hg
  have hxb := of_decide_eq_true hxb
  have hu := Nat.eq_of_beq_eq_true hu
  have hbl := Nat.le_of_ble_eq_true hbl
  have hlen : h.1.length < aSCR := scr_lt hlen
  have hP := go1_inv ha1 hk
  have r1 : cz (hNew h (a, b, [])) ≤ R.cells + c0 := hP.2.1
  have r2 : slz (hNew h (a, b, [])) ≤ R.slots + s0 := hP.2.2
  rw [hNew_cz] at r1
  rw [hNew_slz] at r2
  have r2 : slz h + b ≤ R.slots + s0 := r2
  have hP := hP.1
  have hn0 : ¬ x < 0 := by rw [hxb]; exact nI_pos (by omega)
  have hnb : x.toNatClampNeg = b := by rw [hxb]; exact nI_clamp (by omega)
  intro H locs cells slots lsM hH hS hL h1 h2 T hT Y
  have h1 : cells + c0 = cz h := h1
  have h2 : slots + s0 = slz h := h2
  have hz : H.size = G.1 + h.1.length := new_size hu (heap_at hc0 hT Y h1) (hH.sz (Nat.le_trans hz0 hS.1))
  have hr1 : cells + 1 ≤ R.cells := by omega
  have hr2 : slots + b ≤ R.slots := by omega
  have eD : (hNew h (a, b, [])).2.2.1 h.1.length = fun _ => 0 := funext fun _ => hNew_D h _ _
  have eJ : (hNew h (a, b, [])).2.2.2 h.1.length = fun _ => 0 := funext fun _ => hNew_J h _ _
  have on : ∀ H1 : Heap, H1.size = H.size + 1 → (∀ q, q < H.size → H1[q]? = H[q]?) → va_at G.2.1 cls12 (G.1 + h.1.length, cE G (hNew h (a, b, [])) h.1.length) H1 → W p l e R s m args below meth c H1 locs (cells + 1) (slots + b) Q (F0 m (pcf k i + 2) lsM (.ref H.size :: r.map (rv G))) := fun H1 z1 o1 hat =>
    new_on (x := (a, b, [])) hz0 hz hlen hH hS hL h1 h2 (fun kk pp => by simp) hP e1 z1 o1 hat
  have key : W p l e R s m args below meth c H locs cells slots Q (F0 m (pcf k i) lsM (.int x :: r.map (rv G))) := by
    cases ty with
    | boolean =>
      have := Nat.eq_of_beq_eq_true hty
      subst this
      refine new_row (ty := .boolean) hx hb (hts _ w_arrZ) d1 hn0 hnb hbl (by decide) hr1 hr2 ((hK.2 1 _ rfl).2) (fun H1 q1 z1 o1 => on H1 z1 o1 ?_)
      rw [cE_13 (hNew_at h (13, b, [])), eD]
      show H1[G.1 + h.1.length]? = some (vp_cell _ _)
      rw [← hz, q1, vp_cell_i]
      rfl
    | int =>
      have := Nat.eq_of_beq_eq_true hty
      subst this
      refine new_row (ty := .int) hx hb (hts _ w_arrI) d1 hn0 hnb hbl (by decide) hr1 hr2 ((hK.2 0 _ rfl).2) (fun H1 q1 z1 o1 => on H1 z1 o1 ?_)
      rw [cE_12 (hNew_at h (12, b, [])), eD]
      show H1[G.1 + h.1.length]? = some (vp_cell _ _)
      rw [← hz, q1, vp_cell_i]
      rfl
    | long =>
      have := Nat.eq_of_beq_eq_true hty
      subst this
      refine new_row (ty := .long) hx hb (hts _ w_arrJ) d1 hn0 hnb hbl (by decide) hr1 hr2 ((hK.2 2 _ rfl).2) (fun H1 q1 z1 o1 => on H1 z1 o1 ?_)
      rw [cE_14 (hNew_at h (14, b, [])), eJ]
      show H1[G.1 + h.1.length]? = some (vp_cell _ _)
      rw [← hz, q1, vp_cell_l]
      rfl
    | _ => exact absurd hty Bool.false_ne_true
  exact key T hT Y
end NEW
