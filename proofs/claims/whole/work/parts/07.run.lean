/-! ===== runs of the abstract machine; Ev, what a run comes to ===== -/
def ent (m : Nat) (as : List Value) : List Value := as ++ List.replicate (mxl m - as.length) .null
def runF (X : XS) : Nat → Nat → Nat → FS → Option Rs
  | 0, _, _, _ => none
  | n + 1, d, m, (i, ls, st, h) => match (code0 m)[i]? with
    | none => none
    | some ai => ex (runF X n d m) (fun k as h => match d with | 0 => none | d + 1 => runF X n d k (0, ent k as, [], h)) (act X ai i ls st h)
theorem sel_mono {f g : FS → Option Rs} (hfg : ∀ s r, f s = some r → g s = some r) : ∀ (l : List (Bool × FS)) (r : Rs), sel f l = some r → sel g l = some r
  | [], _, h => by cases h
  | (b, s) :: l, r, h => by
    simp only [sel] at h ⊢
    split at h
    · next hb => rw [if_pos hb]; exact hfg s r h
    · next hb => rw [if_neg hb]; exact sel_mono hfg l r h
theorem thr_form (ls : List Value) (e : Nat) (h : Hp) : ∀ (hs : List Nat), (∃ s, ∀ f, thr f ls e h hs = f s) ∨ (∃ c, ∀ f, thr f ls e h hs = c)
  | a :: j :: k :: l => by
    by_cases he : e = a
    · exact Or.inl ⟨(j, (ls.map fun v => cond (lng v) .null v).set k .null, [], h), fun f => by simp only [thr, if_pos he]⟩
    · rcases thr_form ls e h l with ⟨s, hs⟩ | ⟨c, hc⟩
      · exact Or.inl ⟨s, fun f => by simp only [thr, if_neg he]; exact hs f⟩
      · exact Or.inr ⟨c, fun f => by simp only [thr, if_neg he]; exact hc f⟩
  | [] => Or.inr ⟨_, fun f => rfl⟩
  | [_] => Or.inr ⟨_, fun f => rfl⟩
  | [_, _] => Or.inr ⟨_, fun f => rfl⟩
theorem cnt_none (f : FS → Option Rs) (rk i : Nat) (ls st : List Value) (hs : List Nat) : cnt f rk i ls st hs none = none := by
  unfold cnt
  split <;> rfl
theorem cnt_form (rk i : Nat) (ls st : List Value) (hs : List Nat) (y : Rs) : (∃ s, ∀ f, cnt f rk i ls st hs (some y) = f s) ∨ (∃ c, ∀ f, cnt f rk i ls st hs (some y) = c) := by
  obtain ⟨o, h⟩ := y
  cases o with
  | inr e =>
    have key : ∀ f, cnt f rk i ls st hs (some (.inr e, h)) = thr f ls e h hs := by
      intro f
      unfold cnt
      split <;> rfl
    rcases thr_form ls e h hs with ⟨s, hs'⟩ | ⟨c, hc'⟩
    · exact Or.inl ⟨s, fun f => (key f).trans (hs' f)⟩
    · exact Or.inr ⟨c, fun f => (key f).trans (hc' f)⟩
  | inl v =>
    match rk, v with
    | 0, none => exact Or.inl ⟨_, fun f => rfl⟩
    | 0, some _ => exact Or.inr ⟨none, fun f => rfl⟩
    | 1, some (.int x) => exact Or.inl ⟨_, fun f => rfl⟩
    | 1, none => exact Or.inr ⟨none, fun f => rfl⟩
    | 1, some (.long _) => exact Or.inr ⟨none, fun f => rfl⟩
    | 1, some (.float _) => exact Or.inr ⟨none, fun f => rfl⟩
    | 1, some (.double _) => exact Or.inr ⟨none, fun f => rfl⟩
    | 1, some .null => exact Or.inr ⟨none, fun f => rfl⟩
    | 1, some (.ref _) => exact Or.inr ⟨none, fun f => rfl⟩
    | 1, some (.retAddr _) => exact Or.inr ⟨none, fun f => rfl⟩
    | k + 2, some (.long x) => exact Or.inl ⟨_, fun f => rfl⟩
    | k + 2, none => exact Or.inr ⟨none, fun f => rfl⟩
    | k + 2, some (.int _) => exact Or.inr ⟨none, fun f => rfl⟩
    | k + 2, some (.float _) => exact Or.inr ⟨none, fun f => rfl⟩
    | k + 2, some (.double _) => exact Or.inr ⟨none, fun f => rfl⟩
    | k + 2, some .null => exact Or.inr ⟨none, fun f => rfl⟩
    | k + 2, some (.ref _) => exact Or.inr ⟨none, fun f => rfl⟩
    | k + 2, some (.retAddr _) => exact Or.inr ⟨none, fun f => rfl⟩
theorem ex_mono {f g : FS → Option Rs} {cf cg : Nat → List Value → Hp → Option Rs} (hfg : ∀ s r, f s = some r → g s = some r) (hc : ∀ m as h r, cf m as h = some r → cg m as h = some r) (a : Act) (r : Rs) (h : ex f cf a = some r) : ex g cg a = some r := by
  match a with
  | .inl l => exact sel_mono hfg l r h
  | .inr (.inl (b, x)) => exact h
  | .inr (.inr ((m, as, h0), rk, (i, ls, st), hs)) =>
    simp only [ex] at h ⊢
    cases hx : cf m as h0 with
    | none => rw [hx, cnt_none] at h; cases h
    | some y =>
      rw [hx] at h
      rw [hc _ _ _ _ hx]
      rcases cnt_form rk i ls st hs y with ⟨s, hs'⟩ | ⟨c, hc'⟩
      · rw [hs'] at h ⊢
        exact hfg _ _ h
      · rw [hc'] at h ⊢
        exact h
theorem runF_succ (X : XS) : ∀ (n d m : Nat) (s : FS) (r : Rs), runF X n d m s = some r → runF X (n + 1) d m s = some r := by
  intro n
  induction n with
  | zero => intro d m s r h; simp [runF] at h
  | succ n ih =>
    intro d m s r h
    obtain ⟨i, ls, st, hp⟩ := s
    rw [runF] at h ⊢
    cases hc : (code0 m)[i]? with
    | none => rw [hc] at h; cases h
    | some ai =>
      rw [hc] at h
      dsimp only at h ⊢
      refine ex_mono (fun s r h => ih d m s r h) ?_ _ _ h
      intro k as h0 r0 h1
      cases d with
      | zero => cases h1
      | succ d => exact ih d k _ _ h1
theorem runF_le (X : XS) {n k d m : Nat} {s : FS} {r : Rs} (h : runF X n d m s = some r) (hk : n ≤ k) : runF X k d m s = some r := by
  obtain ⟨j, rfl⟩ := Nat.le.dest hk
  clear hk
  induction j with
  | zero => exact h
  | succ j ih => exact runF_succ X _ _ _ _ _ ih
noncomputable def Ev (X : XS) (d m : Nat) (s : FS) : Option Rs :=
  @dite _ (∃ r : Rs, ∃ n, runF X n d m s = some r) (Classical.propDecidable _) (fun e => some e.choose) (fun _ => none)
theorem Ev_iff {X : XS} {d m : Nat} {s : FS} {r : Rs} : Ev X d m s = some r ↔ ∃ n, runF X n d m s = some r := by
  unfold Ev
  by_cases e : ∃ r : Rs, ∃ n, runF X n d m s = some r
  · rw [dif_pos e]
    constructor
    · intro h
      have h := Option.some.inj h
      rw [← h]
      exact e.choose_spec
    · intro ⟨n, h⟩
      obtain ⟨k, hk⟩ := e.choose_spec
      have h1 := runF_le X h (Nat.le_max_left n k)
      have h2 := runF_le X hk (Nat.le_max_right n k)
      exact h2.symm.trans h1
  · rw [dif_neg e]
    exact ⟨fun h => (by cases h), fun h => absurd ⟨r, h⟩ e⟩
/-- a run's answer comes out of finitely many steps of its parts -/
theorem sel_fin {X : XS} {d m : Nat} : ∀ (l : List (Bool × FS)) (r : Rs), sel (Ev X d m) l = some r → ∃ n, sel (runF X n d m) l = some r
  | [], _, h => by cases h
  | (b, s) :: l, r, h => by
    simp only [sel] at h
    split at h
    · next hb =>
      obtain ⟨n, hn⟩ := Ev_iff.mp h
      exact ⟨n, by simp only [sel]; rw [if_pos hb]; exact hn⟩
    · next hb =>
      obtain ⟨n, hn⟩ := sel_fin l r h
      exact ⟨n, by simp only [sel]; rw [if_neg hb]; exact hn⟩
noncomputable def EvC (X : XS) (d : Nat) : Nat → List Value → Hp → Option Rs := fun k as h => match d with | 0 => none | d + 1 => Ev X d k (0, ent k as, [], h)
def runC (X : XS) (n d : Nat) : Nat → List Value → Hp → Option Rs := fun k as h => match d with | 0 => none | d + 1 => runF X n d k (0, ent k as, [], h)
theorem runC_le {X : XS} {n k d : Nat} (hk : n ≤ k) (m : Nat) (as : List Value) (h : Hp) (r : Rs) (e : runC X n d m as h = some r) : runC X k d m as h = some r := by
  cases d with
  | zero => cases e
  | succ d => exact runF_le X e hk
theorem ex_fin {X : XS} {d m : Nat} (a : Act) (r : Rs) (h : ex (Ev X d m) (EvC X d) a = some r) : ∃ n, ex (runF X n d m) (runC X n d) a = some r := by
  match a with
  | .inl l => exact sel_fin l r h
  | .inr (.inl (b, x)) => exact ⟨0, h⟩
  | .inr (.inr ((k, as, h0), rk, (i, ls, st), hs)) =>
    simp only [ex] at h
    cases hx : EvC X d k as h0 with
    | none => rw [hx, cnt_none] at h; cases h
    | some y =>
      rw [hx] at h
      have hx0 : ∃ n1, runC X n1 d k as h0 = some y := by
        cases d with
        | zero => cases hx
        | succ d => exact Ev_iff.mp hx
      obtain ⟨n1, h1⟩ := hx0
      rcases cnt_form rk i ls st hs y with ⟨s, hs'⟩ | ⟨c, hc'⟩
      · rw [hs'] at h
        obtain ⟨n2, h2⟩ := Ev_iff.mp h
        refine ⟨max n1 n2, ?_⟩
        simp only [ex]
        rw [runC_le (Nat.le_max_left n1 n2) _ _ _ _ h1]
        rw [hs']
        exact runF_le X h2 (Nat.le_max_right n1 n2)
      · rw [hc'] at h
        refine ⟨n1, ?_⟩
        simp only [ex]
        rw [h1]
        rw [hc']
        exact h
/-- one step of what a run comes to -/
theorem Ev_step (X : XS) (d m i : Nat) (ls st : List Value) (h : Hp) : Ev X d m (i, ls, st, h) = match (code0 m)[i]? with
    | none => none
    | some ai => ex (Ev X d m) (EvC X d) (act X ai i ls st h) := by
  cases hc : (code0 m)[i]? with
  | none =>
    dsimp only
    cases he : Ev X d m (i, ls, st, h) with
    | none => rfl
    | some r =>
      obtain ⟨n, hn⟩ := Ev_iff.mp he
      cases n with
      | zero => simp [runF] at hn
      | succ n => rw [runF, hc] at hn; cases hn
  | some ai =>
    dsimp only
    apply Option.ext
    intro r
    constructor
    · intro he
      obtain ⟨n, hn⟩ := Ev_iff.mp he
      cases n with
      | zero => simp [runF] at hn
      | succ n =>
        rw [runF, hc] at hn
        dsimp only at hn
        refine ex_mono (fun s r h => Ev_iff.mpr ⟨n, h⟩) ?_ _ _ hn
        intro k as h0 r0 h1
        cases d with
        | zero => cases h1
        | succ d => exact Ev_iff.mpr ⟨n, h1⟩
    · intro he
      obtain ⟨n, hn⟩ := ex_fin _ _ he
      refine Ev_iff.mpr ⟨n + 1, ?_⟩
      rw [runF, hc]
      exact hn
/-- unfolding over many instructions: 'suf' are the instructions from i on; at a place of K it stops -/
noncomputable def sy (X : XS) (K : List Nat) (d m : Nat) : Nat → List AIns → FS → Option Rs
  | 0, _, s => Ev X d m s
  | n + 1, suf, (i, ls, st, h) => match suf with
    | [] => none
    | ai :: suf => ex (fun s => cond (K.contains s.1) (Ev X d m s) (cond (Nat.beq s.1 (i + 1)) (sy X K d m n suf s) (sy X K d m n ((code0 m).drop s.1) s))) (EvC X d) (act X ai i ls st h)
theorem sy_eq (X : XS) (K : List Nat) (d m : Nat) : ∀ (n : Nat) (suf : List AIns) (s : FS), suf = (code0 m).drop s.1 → sy X K d m n suf s = Ev X d m s := by
  intro n
  induction n with
  | zero => intro suf s _; rfl
  | succ n ih =>
    intro suf s hs
    obtain ⟨i, ls, st, h⟩ := s
    dsimp only at hs
    rw [Ev_step]
    cases suf with
    | nil =>
      have h0 : (code0 m)[i]? = none := by
        have := (List.drop_eq_nil_iff.mp hs.symm)
        exact List.getElem?_eq_none this
      rw [h0, sy]
    | cons ai suf =>
      have h1 : (code0 m)[i]? = some ai := by
        have := congrArg (fun l => l[0]?) hs
        simp only [List.getElem?_cons_zero, List.getElem?_drop, Nat.add_zero] at this
        exact this.symm
      have h2 : suf = (code0 m).drop (i + 1) := by
        have := congrArg List.tail hs
        simp only [List.tail_cons, List.tail_drop] at this
        exact this
      rw [h1, sy]
      dsimp only
      congr 1
      funext s
      cases K.contains s.1 with
      | true => rfl
      | false =>
        cases hb : Nat.beq s.1 (i + 1) with
        | true =>
          have := Nat.eq_of_beq_eq_true hb
          exact ih suf s (by rw [this]; exact h2)
        | false => exact ih _ s rfl
theorem sy_at (X : XS) (K : List Nat) (d m n : Nat) (s : FS) : Ev X d m s = sy X K d m n ((code0 m).drop s.1) s := (sy_eq X K d m n _ s rfl).symm
