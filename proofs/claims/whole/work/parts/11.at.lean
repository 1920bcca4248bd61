/-! walks of a method's body, by stretches -/
def mAt (d mid : Nat) (res : Option Value × mS) : mK6 := fun pc pl st S cu su => ∀ (G : mG) (p : Program) (l : Launch) (e : Env) (R : Room) (s : State) (m : MethodId) (args : Array Value) (below : List Frame) (meth : Method) (c : Code) (Q : State → Prop), mCx d mid G p R s m args meth c → mFin mid G p l e R s m args below meth c Q res → mGo mid G p l e R s m args below meth c Q pc pl st S cu su
theorem mwp_sound {d mid : Nat} {G : mG} {p : Program} {l : Launch} {e : Env} {R : Room} {s : State} {m : MethodId} {args : Array Value} {below : List Frame} {meth : Method} {c : Code} {Q : State → Prop} {res : Option Value × mS} {J : mK6} (C : mCx d mid G p R s m args meth c) (hF : mFin mid G p l e R s m args below meth c Q res) (hJ : ∀ pc pl st S cu su, J pc pl st S cu su → mGo mid G p l e R s m args below meth c Q pc pl st S cu su) :
    ∀ (is : List mI) (pc : Nat) (pl : mLoc) (st : List Value) (S : mS) (cu su : Nat), mChk mid pc is = true → mwp d mid res J is pc pl st S cu su → mGo mid G p l e R s m args below meth c Q pc pl st S cu su
  | [], pc, pl, st, S, cu, su, _, h => hJ _ _ _ _ _ _ h
  | I :: is, pc, pl, st, S, cu, su, hc, h => by
    simp only [mChk, Bool.and_eq_true] at hc
    have hlen : mil I.1 I.2.1 = I.2.1 := by
      have h1 := hc.1
      simp only [mOkB, Bool.and_eq_true] at h1
      exact (Nat.eq_of_beq_eq_true h1.1.2).symm
    refine mst_sound C hF hJ (fun pl st S cu su hK => ?_) hc.1 h
    exact mwp_sound C hF hJ is (pc + mil I.1 I.2.1) pl st S cu su (by rw [hlen]; exact hc.2) hK
/-- a stretch, then what is known where it ends -/
theorem mAt.blk {d mid : Nat} {res : Option Value × mS} {pc : Nat} {pl : mLoc} {st : List Value} {S : mS} {cu su : Nat} (is : List mI) (hc : mChk mid pc is = true) (h : mwp d mid res (mAt d mid res) is pc pl st S cu su) : mAt d mid res pc pl st S cu su := by
  intro G p l e R s m args below meth c Q C hF
  exact mwp_sound C hF (fun pc pl st S cu su hj => hj G p l e R s m args below meth c Q C hF) is pc pl st S cu su hc h
/-- fewer locals are known -/
def mlle : mLoc → mLoc → Bool
  | [], [] => true
  | none :: l, _ :: l' => mlle l l'
  | some v :: l, some w :: l' => decide (v = w) && mlle l l'
  | _, _ => false
def mlf : mLoc → mLoc → Prop
  | [], [] => True
  | none :: l, _ :: l' => mlf l l'
  | some v :: l, some w :: l' => v = w ∧ mlf l l'
  | _, _ => False
theorem mlf_at : ∀ {l l' : mLoc}, mlf l l' → l.length = l'.length ∧ ∀ (i : Nat) (v : Value), mnth l i = some (some v) → mnth l' i = some (some v)
  | [], [], _ => ⟨rfl, fun i v h => h⟩
  | [], _ :: _, h => h.elim
  | none :: l, [], h => h.elim
  | some v :: l, [], h => h.elim
  | none :: l, a :: l', h => by
    obtain ⟨h1, h2⟩ := mlf_at (l := l) (l' := l') h
    refine ⟨by simp [h1], fun i v hi => ?_⟩
    cases i with
    | zero => cases hi
    | succ i => exact h2 i v hi
  | some v :: l, none :: l', h => h.elim
  | some v :: l, some w :: l', h => by
    obtain ⟨h1, h2⟩ := mlf_at (l := l) (l' := l') h.2
    refine ⟨by simp [h1], fun i u hi => ?_⟩
    cases i with
    | zero => rw [← h.1]; exact hi
    | succ i => exact h2 i u hi
theorem mAt.less {d mid : Nat} {res : Option Value × mS} {pc : Nat} {pl pl' : mLoc} {st : List Value} {S : mS} {cu su : Nat} (hl : mlf pl pl') (h : mAt d mid res pc pl st S cu su) : mAt d mid res pc pl' st S cu su := by
  intro G p l e R s m args below meth c Q C hF H locs ls hP hS hv hcu
  obtain ⟨h1, h2⟩ := mlf_at hl
  exact h G p l e R s m args below meth c Q C hF H locs ls hP hS ⟨by rw [h1]; exact hv.1, hv.2.1, hv.2.2.1, fun i v hi => hv.2.2.2 i v (h2 i v hi)⟩ hcu
/-- the locals at a method's entry -/
def mloc : List Value → mLoc
  | [] => []
  | v :: l => match v.category with
    | 2 => some v :: none :: mloc l
    | _ => some v :: mloc l
def mpad (n : Nat) (l : mLoc) : mLoc := match n, l with
  | 0, l => l
  | n + 1, [] => none :: mpad n []
  | n + 1, a :: l => a :: mpad n l
theorem mloc_len (G : mG) : ∀ vs : List Value, (lg_sl (vs.map (mtr G))).length = (mloc vs).length
  | [] => rfl
  | v :: l => by
    have ih := mloc_len G l
    have e : lg_sl ((v :: l).map (mtr G)) = (if (mtr G v).category = 2 then [.val (mtr G v), .second] else [.val (mtr G v)]) ++ lg_sl (l.map (mtr G)) := by simp [lg_sl]
    rw [e, List.length_append, ih, mtr_cat]
    show _ = List.length (match v.category with
      | 2 => some v :: none :: mloc l
      | _ => some v :: mloc l)
    by_cases h : v.category = 2
    · rw [if_pos h, h]; simp; omega
    · rw [if_neg h]
      split
      · rename_i z; exact absurd z h
      · simp; omega
theorem mloc_at (G : mG) : ∀ (vs : List Value) (i : Nat) (v : Value), mnth (mloc vs) i = some (some v) → (lg_sl (vs.map (mtr G)))[i]? = some (.val (mtr G v))
  | [], i, v, h => by simp [mloc, mnth] at h
  | w :: l, i, v, h => by
    have ih := mloc_at G l
    have e : lg_sl ((w :: l).map (mtr G)) = (if (mtr G w).category = 2 then [.val (mtr G w), .second] else [.val (mtr G w)]) ++ lg_sl (l.map (mtr G)) := by simp [lg_sl]
    rw [e, mtr_cat]
    have h : mnth (match w.category with
      | 2 => some w :: none :: mloc l
      | _ => some w :: mloc l) i = some (some v) := h
    split at h
    · rename_i hc
      rw [if_pos hc]
      match i, h with
      | 0, h => cases h; rfl
      | 1, h => cases h
      | i + 2, h => simpa using ih i v h
    · rename_i hc
      rw [if_neg hc]
      match i, h with
      | 0, h => cases h; rfl
      | i + 1, h => simpa using ih i v h
theorem mpad_at : ∀ (n : Nat) (l : mLoc) (i : Nat) (v : Value), mnth (mpad n l) i = some (some v) → mnth l i = some (some v)
  | 0, l, i, v, h => by simpa [mpad] using h
  | n + 1, [], 0, v, h => by simp [mpad, mnth] at h
  | n + 1, [], i + 1, v, h => by
    have := mpad_at n [] i v (by simpa [mpad, mnth] using h)
    simp [mnth] at this
  | n + 1, a :: l, 0, v, h => by simpa [mpad, mnth] using h
  | n + 1, a :: l, i + 1, v, h => by
    have := mpad_at n l i v (by simpa [mpad, mnth] using h)
    simpa [mnth] using this
theorem mpad_len : ∀ (n : Nat) (l : mLoc), l.length ≤ n → (mpad n l).length = n
  | 0, l, h => by simp [mpad]; exact List.eq_nil_of_length_eq_zero (by omega)
  | n + 1, [], h => by simp [mpad, mpad_len n [] (by simp)]
  | n + 1, a :: l, h => by simp [mpad, mpad_len n l (by simpa using h)]
theorem mlv_entry {G : mG} {vs : List Value} {n : Nat} (h : (mloc vs).length ≤ n) : mlv G ((lg_sl (vs.map (mtr G)) ++ List.replicate (n - (lg_sl (vs.map (mtr G))).length) Slot.unset).toArray) n (mpad n (mloc vs)) := by
  have h0 := lv_entry (vs.map (mtr G)) (n := n) (by rw [mloc_len]; exact h)
  refine ⟨mpad_len n _ h, h0.1, h0.2.1, fun i v hi => ?_⟩
  have h1 := mloc_at G vs i v (mpad_at n _ i v hi)
  have h2 : i < (lg_sl (vs.map (mtr G))).length := (List.getElem?_eq_some_iff.mp h1).1
  simp only [List.getElem?_toArray]
  rw [List.getElem?_append_left h2]
  exact h1
/-- a method's contract out of the walk of its body -/
theorem mEv.of {d k : Nat} {vs : List Value} {S S' : mS} {r : Option Value} (hk : k < 229) (hn : S'.1.length = S.1.length + (mMc k).1) (hl : Nat.ble (mloc vs).length (mNl k) = true) (h : mAt d k (r, S') 0 (mpad (mNl k) (mloc vs)) [] S 0 0) : mEv d k vs S r S' := by
  refine ⟨hn, fun l G => ?_⟩
  obtain ⟨s1, s2, s3, s4, s5, s6, s7⟩ := mMr_say hk
  refine Met.ofW (cc := mCd k) (maxL := mNl k) (ret := mRt k) s1 rfl ?_
  intro p e s m args below meth c s₁ B hml hv
  obtain ⟨rfl, hP, hK, hz, hnk⟩ := hv
  have hx := B.exec
  have hb := B.bytes
  have hr := B.returns
  have hts0 := atoms_spec (ws := mWd k) B.pre
  have hts : ∀ w ∈ mTb, w.before (vs.map (mtr G)).toArray s = true := fun w hw => hts0 w (List.mem_cons_of_mem _ hw)
  have hown : s.vm.findClass (mY k).cls = some m.cls := findClass_of_methodNamed B.named
  have hlocks := B.notSynchronized
  have hname : meth.name = (mY k).name := (name_of_methodNamed B.named B.method).1
  have C : mCx d k G p (headSpec (mWd k) (mRm d k)).room s m (vs.map (mtr G)).toArray meth c := ⟨hx, hb, hml, hown, hts, hK, Nat.le_refl _, Nat.le_refl _, Nat.le_refl _, Nat.le_refl _, fun z => by rw [hname]; exact z, hlocks, hnk⟩
  have hl2 := Nat.le_of_ble_eq_true hl
  rw [lg_entry_eq]
  refine h G p l e _ s m _ below meth c _ C ?_ s.heap [] _ hP va_S.rf (mlv_entry hl2) (by simpa using hz)
  intro H locs ls pc cu su hP1 hS1 hz1 hcap hri
  obtain ⟨p1, p2⟩ := mcap_inv hcap
  refine W.widen (k := (mMc k).1) (n := (mMc k).2) p1 p2 ?_
  have hq : ∀ v', r = v' → ∀ t : State, t.heap = H → s.WarmedH t.vm → mQc G r S' (vs.map (mtr G)).toArray s (.returned (v'.map (mtr G))) t := by
    intro v' e1 t ht hW
    subst e1
    subst ht
    exact ⟨rfl, hP1, hS1.F rfl, hz1⟩
  rcases hri with ⟨x, e1, e2, e3⟩ | ⟨e1, e2, e3⟩ | ⟨x, e1, e2, e3, e4⟩
  · have e1' : r = some (.int x) := e1
    subst e1'
    show W _ _ _ _ _ _ _ _ _ _ _ _ _ _ _ (F0 m pc ls [.int x])
    have hrt : ∃ ty, mRt k = some ty ∧ narrow ty (.int x) = .int x := by
      unfold mrk at e2
      split at e2
      · rename_i hh; exact ⟨_, hh, rfl⟩
      · rename_i hh
        refine ⟨_, hh, ?_⟩
        rcases e2 with z | z <;> subst z <;> rfl
      · exact e2.elim
    obtain ⟨ty, hrt1, hrt2⟩ := hrt
    exact W.zret (ty := ty) hx hb (by rw [hr]; exact hrt1) hrt2 (hq (some (.int x)) rfl) hS1.2.2 e3
  · have e1' : r = none := e1
    subst e1'
    exact W.vret hx hb (by rw [hr]; exact e2) (hq none rfl) hS1.2.2 e3
  · have e1' : r = some x := e1
    subst e1'
    show W _ _ _ _ _ _ _ _ _ _ _ _ _ _ _ (F0 m pc ls [mtr G x])
    have hrt : ∃ n, mRt k = some (.object n) := by
      unfold mrq at e3
      split at e3
      · rename_i n hh; exact ⟨_, hh⟩
      · exact e3.elim
    obtain ⟨n, hrt⟩ := hrt
    exact W.aret (rt := .object n) hx hb (by rw [hr]; exact hrt) (Or.inl ⟨n, rfl⟩) (by
      rcases e2 with z | ⟨a, z⟩
      · subst z; exact Or.inl rfl
      · subst z; exact Or.inr ⟨_, rfl⟩) (hq (some x) rfl) hS1.2.2 e4
