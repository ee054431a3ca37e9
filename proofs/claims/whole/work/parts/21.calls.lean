/-! ===== soundness: the three kinds of calls ===== -/
theorem mxl_le : (List.range 334).all (fun a => Nat.ble (mxl a) 20) = true := by decide +kernel
theorem mxl_20 {a : Nat} (ha : a < 334) : mxl a ≤ 20 := Nat.le_of_ble_eq_true (List.all_eq_true.mp mxl_le a (List.mem_range.mpr ha))
theorem hM_v : (List.range 334).all (fun k => List.isEmpty (hM k) || (code0 k).all (fun ai => match ai.1 with | .invokevirtual _ => !(List.isEmpty (ai.2.2.2.2.drop 2)) | _ => true)) = true := by decide +kernel
theorem hM_nil {k i n a b : Nat} {cv : Int32} {tl : List Nat} (hk : k < NM) (hcode : (code0 k)[i]? = some (.invokevirtual n, a, b, cv, tl)) (ht : tl.drop 2 = []) : hM k = [] := by
  have h1 := List.all_eq_true.mp hM_v k (List.mem_range.mpr hk)
  rw [Bool.or_eq_true] at h1
  rcases h1 with h1 | h1
  · exact List.isEmpty_iff.mp h1
  · have h2 := List.all_eq_true.mp h1 _ (List.mem_of_getElem? hcode)
    dsimp only at h2
    rw [ht] at h2
    cases h2
theorem hV_n : (List.range 334).all (fun k => (code0 k).all (fun ai => match ai.1 with | .invokevirtual _ => Nat.ble 1000 ai.2.1 || !(decide ((yM ai.2.1).name = "<init>")) | _ => true)) = true := by decide +kernel
theorem hV_name {k i n a b : Nat} {cv : Int32} {tl : List Nat} (hk : k < NM) (hcode : (code0 k)[i]? = some (.invokevirtual n, a, b, cv, tl)) (h10 : ¬ 1000 ≤ a) : (yM a).name ≠ "<init>" := by
  have h1 := List.all_eq_true.mp (List.all_eq_true.mp hV_n k (List.mem_range.mpr hk)) _ (List.mem_of_getElem? hcode)
  dsimp only at h1
  rw [Bool.or_eq_true] at h1
  rcases h1 with h1 | h1
  · exact absurd (Nat.le_of_ble_eq_true h1) h10
  · intro q
    rw [decide_eq_true q] at h1
    cases h1
theorem inv_inv {X : XS} {a b : Nat} {tl : List Nat} {i : Nat} {ls st : List Value} {h : Hp} {C : ACall} (hi : inv X a b tl i ls st h = .inr (.inr C)) : C = ((a, (st.take b).reverse, h), tl.getD 1 0, (i + 1, ls, st.drop b), tl.drop 2) ∧ b ≤ st.length ∧ rsOk (st.drop b) = true ∧ ∀ v ∈ (st.take b).reverse, lng v = false := by
  unfold inv at hi
  cases hb : (Nat.ble b st.length && rsOk (st.drop b) && (st.take b).all (fun v => !(lng v))) with
  | false => rw [hb] at hi; cases hi
  | true =>
    rw [hb] at hi
    rw [Bool.and_eq_true, Bool.and_eq_true] at hb
    refine ⟨?_, Nat.le_of_ble_eq_true hb.1.1, hb.1.2, fun v hv => ?_⟩
    · cases hi; rfl
    · have := List.all_eq_true.mp hb.2 v (List.mem_reverse.mp hv)
      simpa using this
theorem ntv_call {a i : Nat} {ls st : List Value} {h : Hp} {C : (Bool × Rs) ⊕ ACall} (hi : ntv a i ls st h = .inr C) : False := by
  have key : ∀ A : Act, (∃ l, A = .inl l) → A = .inr C → False := fun A ⟨l, e⟩ q => by rw [e] at q; cases q
  have s0 : ∃ l, stk = (.inl l : Act) := ⟨_, rfl⟩
  have g0 : ∀ s : FS, ∃ l, go1 s = (.inl l : Act) := fun s => ⟨_, rfl⟩
  have pi : ∀ (st : List Value) (k : Int32 → List Value → Act), (∀ x r, ∃ l, k x r = .inl l) → ∃ l, pI st k = .inl l := by
    intro st k hk; unfold pI; split
    · exact hk _ _
    · exact s0
  have pr : ∀ (st : List Value) (k : Nat → List Value → Act), (∀ x r, ∃ l, k x r = .inl l) → ∃ l, pR st k = .inl l := by
    intro st k hk; unfold pR; split
    · exact hk _ _
    · exact s0
  have pc : ∀ (b : Bool) (A : Act), (∃ l, A = .inl l) → ∃ l, cond b A stk = .inl l := by
    intro b A hA; cases b
    · exact s0
    · exact hA
  have ce : ∀ (h : Hp) (q : Nat) (k : Nat → Nat → List (Option Nat) → Act), (∀ x y r, ∃ l, k x y r = .inl l) → ∃ l, cel h q k = .inl l := by
    intro h q k hk; unfold cel; split
    · exact hk _ _ _
    · exact s0
  refine key _ ?_ hi
  unfold ntv
  refine pc _ _ ?_
  split
  · exact pi _ _ fun _ _ => pi _ _ fun _ _ => g0 _
  · exact pi _ _ fun _ _ => pi _ _ fun _ _ => g0 _
  · exact pi _ _ fun _ _ => g0 _
  · exact pi _ _ fun _ _ => pi _ _ fun _ _ => pr _ _ fun _ _ => pi _ _ fun _ _ => pr _ _ fun _ _ => ce _ _ _ fun _ _ _ => ce _ _ _ fun _ _ _ => pc _ _ ⟨_, rfl⟩
  · exact pr _ _ fun _ _ => pc _ _ (g0 _)
  · exact pi _ _ fun _ _ => pr _ _ fun _ _ => pc _ _ ⟨_, rfl⟩
  · exact pi _ _ fun _ _ => pr _ _ fun _ _ => pc _ _ ⟨_, rfl⟩
  · exact pr _ _ fun _ _ => g0 _
  · exact s0
theorem next_inl {f : FS → Option Rs} {rk i : Nat} {ls rest : List Value} {hs : List Nat} {v : Option Value} {h' : Hp} {r : Rs} (hc : cnt f rk i ls rest hs (some (.inl v, h')) = some r) : f (i, ls, v.toList ++ rest, h') = some r := by
  unfold cnt at hc
  split at hc
  · unfold bV at hc
    split at hc
    · next heq => cases heq; exact hc
    · next heq => cases heq
    · cases hc
  · unfold bI at hc
    split at hc
    · next heq => cases heq; exact hc
    · next heq => cases heq
    · cases hc
  · unfold bJ at hc
    split at hc
    · next heq => cases heq; exact hc
    · next heq => cases heq
    · cases hc
theorem next_inr {f : FS → Option Rs} {rk i x : Nat} {ls rest : List Value} {hs : List Nat} {h' : Hp} {r : Rs} (hc : cnt f rk i ls rest hs (some (.inr x, h')) = some r) : thr f ls x h' hs = some r := by
  unfold cnt at hc
  split at hc <;> exact hc
section CALLS
variable {l : Launch} {G : GC} {X : XS} {EX : State → Heap → Prop} {p : Program} {e : Env} {R : Room} {s : State} {m : MethodId} {args : Array Value} {below : List Frame} {meth : Method} {c : Code} {Q : State → Prop} {k d c0 s0 : Nat} {i : Nat} {ls st : List Value} {h : Hp} {H : Heap} {locs : List Loc} {cells slots mc ms ix a b n : Nat} {lsM : Array Slot} {as : List Value} {y : Rs}
theorem pc_blind (hEX : EXc EX G) : FrameBlind (PcM EX G X as h) := by
  intro av U g mk ⟨h1, h2, h3, ⟨h4, h5⟩, h6, h7, h8⟩
  exact ⟨h1, h2, va_K.moved (u := U) (U := U.calling g mk av) (Vm.Alike.refl U.vm) h3, ⟨va_X.moved (u := U) (U := U.calling g mk av) (Vm.Alike.refl U.vm) h4, h5⟩, hEX U (U.calling g mk av) U.heap U.heap h6 (State.WarmedH.refl U) (fun _ _ => rfl), h7, h8⟩
theorem pc_pre (hEX : EXc EX G) (F : FC l G X p R s m args meth c k d) (hE : EX s s.heap) (hH : HW G h H) (hS : va_S (gA G) s.heap H locs) (hz : H.size ≤ G.1 + cz h) : ∀ U : State, U.heap = H → s.WarmedH U.vm → PcM EX G X as h (as.map (rv G)).toArray U := by
  obtain ⟨-, -, -, -, -, -, -, -, hK, hz0, ⟨hX, hbl⟩, -⟩ := F
  intro U hU hW
  have hold : ∀ q, q < G.1 → H[q]? = s.heap[q]? := fun q hq => hS.2.1 q (Nat.lt_of_lt_of_le hq hz0) (by unfold gA; omega)
  refine ⟨rfl, by rw [hU]; exact hH, va_K.moved hW.alike hK, ⟨?_, hbl⟩, by rw [hU]; exact hEX s U s.heap H hE hW hold, by rw [hU]; exact Nat.le_trans hz0 hS.1, by rw [hU]; exact hz⟩
  rw [hU]
  exact va_X.moved hW.alike (hX.kept (hold _ hbl))
theorem callB_M (F : FC l G X p R s m args meth c k (d + 1)) (ha : a < 333) (hh : hM a = []) (hlink : (Cond.methodLink (cnm (mown k)) ix (yM a)).before args s = true) (hn : (parseMethodDescriptor (yM a).desc).map (fun d => d.parameters.length) = some n) : CallB R s args (cnm (mown k)) ix (yM a) (bM a) (mxl a) (rM a) (wsM a) (rmM d mc ms) mc ms n := by
  obtain ⟨-, -, -, -, -, -, -, hts, -, -, -, hfr, hlo, -⟩ := F
  obtain ⟨h1, h2, h3, h4, -, -, h7, -, -⟩ := mf ha
  have hm := mxl_20 (a := a) (Nat.lt_succ_of_lt ha)
  have hr : ∀ ma, ma ≤ 20 → (rmM d mc ms).frames + 1 ≤ R.frames ∧ 8 + (ma + 11) + (rmM d mc ms).locals ≤ R.locals := by
    intro ma hma
    clear h1 h2 h3 h4 h7 hts hlink hn hm
    simp only [rmM]
    omega
  exact callB_of n hts (goodIn_M h1) (by unfold wsM cw; rw [hh]) rfl rfl (hts _ h7) hlink ⟨h4.1, h4.2, hn⟩ (hr _ hm)
theorem stack_eq {q : Nat} {ps : List Value} (hb : b ≤ st.length) (he : (st.take b).reverse = .ref q :: ps) : st.map (rv G) = (ps.map (rv G)).reverse ++ .ref (rho G q) :: (st.drop b).map (rv G) := by
  have h1 : st.take b = ps.reverse ++ [.ref q] := by
    have := congrArg List.reverse he
    simpa using this
  have h2 : st = st.take b ++ st.drop b := (List.take_append_drop b st).symm
  have h3 : st.map (rv G) = (st.take b).map (rv G) ++ (st.drop b).map (rv G) := by rw [← List.map_append, ← h2]
  rw [h3, h1]
  simp [List.map_append, List.map_reverse, rv]
theorem stack_eqS (hb : b ≤ st.length) : st.map (rv G) = (((st.take b).reverse).map (rv G)).reverse ++ (st.drop b).map (rv G) := by
  have h2 : st = st.take b ++ st.drop b := (List.take_append_drop b st).symm
  have h3 : st.map (rv G) = (st.take b).map (rv G) ++ (st.drop b).map (rv G) := by rw [← List.map_append, ← h2]
  rw [h3]
  simp [List.map_reverse]
theorem cat_one {G : GC} {v : Value} (h : lng v = false) : (rv G v).category ≤ 1 := by
  cases v with
  | long x => cases h
  | double x => cases h
  | _ => exact Nat.le_refl 1
theorem cat_ones {G : GC} : ∀ (l : List Value), (∀ v ∈ l, lng v = false) → ((l.map (rv G)).map fun v => v.category).sum ≤ l.length
  | [], _ => by simp
  | v :: l, h => by
    have h1 := cat_ones (G := G) l (fun w hw => h w (List.mem_cons_of_mem _ hw))
    have h2 := cat_one (G := G) (h v List.mem_cons_self)
    simp only [List.map_cons, List.sum_cons, List.length_cons]
    omega
theorem rest_room (h4 : rsOk (st.drop b) = true) : (((st.drop b).map (rv G)).map fun v => v.category).sum ≤ 8 := by
  unfold rsOk at h4
  rw [Bool.or_eq_true, Bool.and_eq_true] at h4
  rcases h4 with h4 | ⟨h5, h6⟩
  · have h4 := Nat.le_of_ble_eq_true h4
    have := cat_sum ((st.drop b).map (rv G))
    rw [List.length_map] at this
    omega
  · have h5 := Nat.le_of_ble_eq_true h5
    have := cat_ones (G := G) (st.drop b) (fun v hv => by
      have := List.all_eq_true.mp h6 v hv
      simpa using this)
    omega
end CALLS
