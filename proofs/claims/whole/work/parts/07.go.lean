/-! where a walk stands, and the helpers of the step's rows -/
def mlv (G : mG) (ls : Array Slot) (n : Nat) (pl : mLoc) : Prop := pl.length = n ∧ ls.size = n ∧ lv_wf ls ∧ ∀ (i : Nat) (v : Value), mnth pl i = some (some v) → ls[i]? = some (.val (mtr G v))
def mll (G : mG) (pl : mLoc) : List (Nat × Value) := (List.range pl.length).filterMap (fun i => match mnth pl i with
  | some (some v) => some (i, mtr G v)
  | _ => none)
theorem mll_mem {G : mG} {pl : mLoc} {q : Nat × Value} : q ∈ mll G pl ↔ ∃ v, mnth pl q.1 = some (some v) ∧ q.2 = mtr G v := by
  constructor
  · intro h
    obtain ⟨i, -, hi⟩ := List.mem_filterMap.mp h
    split at hi
    · rename_i v hv
      cases hi
      exact ⟨v, hv, rfl⟩
    · cases hi
  · rintro ⟨v, h1, h2⟩
    refine List.mem_filterMap.mpr ⟨q.1, List.mem_range.mpr (mnth_lt h1), ?_⟩
    simp only [h1, ← h2]
theorem mlv.has {G : mG} {ls : Array Slot} {n : Nat} {pl : mLoc} (h : mlv G ls n pl) : lv_has ls n (mll G pl) := ⟨h.2.1, h.2.2.1, fun q hq => by
  obtain ⟨v, h1, h2⟩ := mll_mem.mp hq
  rw [h2]
  exact h.2.2.2 _ _ h1⟩
theorem mlv.of {G : mG} {ls' : Array Slot} {n : Nat} {pl : mLoc} {i : Nat} {v : Value} {x : Option Value} (hn : pl.length = n) (hi : mnth pl i = some x) (ho : mok1 pl i = true) (h : lv_has ls' n ((i, mtr G v) :: (mll G pl).filter (fun q => !(q.1 == i) && !(q.1 + 1 == i && q.2.category == 2)))) : mlv G ls' n (mset pl i v) := by
  refine ⟨by rw [mset_len]; exact hn, h.1, h.2.1, fun j w hj => ?_⟩
  rw [mset_eq, mnth_eq] at hj
  have hil := mnth_lt hi
  by_cases e : j = i
  · subst e
    rw [List.getElem?_set_self hil] at hj
    cases hj
    exact h.2.2 (j, mtr G v) List.mem_cons_self
  · rw [List.getElem?_set_ne (Ne.symm e)] at hj
    have hj' : mnth pl j = some (some w) := by rw [mnth_eq]; exact hj
    refine h.2.2 (j, mtr G w) (List.mem_cons_of_mem _ (List.mem_filter.mpr ⟨mll_mem.mpr ⟨w, hj', rfl⟩, ?_⟩))
    simp only [Bool.and_eq_true, Bool.not_eq_true', beq_eq_false_iff_ne, Bool.and_eq_false_iff]
    refine ⟨e, ?_⟩
    by_cases e2 : j + 1 = i
    · right
      subst e2
      simp only [mok1, hj', beq_iff_eq] at ho
      rw [mtr_cat, ho]
      decide
    · left
      exact e2
def mCx (d mid : Nat) (G : mG) (p : Program) (R : Room) (s : State) (m : MethodId) (args : Array Value) (meth : Method) (c : Code) : Prop :=
  p.tables.exec = Jvm.exec ∧ c.code = mCd mid ∧ c.maxLocals = mNl mid ∧ s.vm.findClass (mY mid).cls = some m.cls ∧ (∀ w ∈ mTb, w.before args s = true) ∧ mKs G s s.heap ∧ d ≤ R.frames ∧ 64 * d ≤ R.locals ∧ (mMc mid).1 ≤ R.cells ∧ (mMc mid).2 ≤ R.slots ∧ ((mY mid).name = "<init>" → meth.name = "<init>") ∧ meth.locks = false ∧ mNk s
def mGo (mid : Nat) (G : mG) (p : Program) (l : Launch) (e : Env) (R : Room) (s : State) (m : MethodId) (args : Array Value) (below : List Frame) (meth : Method) (c : Code) (Q : State → Prop) : mK6 := fun pc pl st S cu su => ∀ (H : Heap) (locs : List Loc) (ls : Array Slot), mP G S H → va_S (mA G) s.heap H locs → mlv G ls (mNl mid) pl → s.heap.size + cu = G.1 + S.1.length → W p l e R s m args below meth c H locs cu su Q (F0 m pc ls (st.map (mtr G)))
def mRi (mid pc : Nat) (v : Option Value) : Prop := (∃ x, v = some (.int x) ∧ mrk (mRt mid) x ∧ decode (mCd mid) pc = .ok (.ireturn, 1)) ∨ (v = none ∧ mRt mid = none ∧ decode (mCd mid) pc = .ok (.return_, 1)) ∨ (∃ x, v = some x ∧ (x = .null ∨ ∃ a, x = .ref a) ∧ mrq (mRt mid) ∧ decode (mCd mid) pc = .ok (.areturn, 1))
def mFin (mid : Nat) (G : mG) (p : Program) (l : Launch) (e : Env) (R : Room) (s : State) (m : MethodId) (args : Array Value) (below : List Frame) (meth : Method) (c : Code) (Q : State → Prop) (res : Option Value × mS) : Prop := ∀ (H : Heap) (locs : List Loc) (ls : Array Slot) (pc cu su : Nat), mP G res.2 H → va_S (mA G) s.heap H locs → H.size = G.1 + res.2.1.length → mcap mid cu su = true → mRi mid pc res.1 → W p l e R s m args below meth c H locs cu su Q (F0 m pc ls (res.1.toList.map (mtr G)))
theorem mW_size {p : Program} {l : Launch} {e : Env} {R : Room} {s : State} {m : MethodId} {args : Array Value} {below : List Frame} {meth : Method} {c : Code} {H : Heap} {locs : List Loc} {cells slots : Nat} {Q : State → Prop} {g : JFrame} (k : H.size ≤ s.heap.size + cells → W p l e R s m args below meth c H locs cells slots Q g) : W p l e R s m args below meth c H locs cells slots Q g := fun T hT X => k (by rw [← hT]; exact X.heapSize) T hT X
theorem mP_low {G : mG} {S : mS} {H : Heap} (hP : mP G S H) (hG : G.1 ≤ H.size) : G.1 + S.1.length ≤ H.size := by
  cases hn : S.1.length with
  | zero => omega
  | succ n =>
    have hl : n < S.1.length := by omega
    have h := hP.2.1 n _ (by rw [mWs_at, List.getElem?_eq_getElem hl]; rfl)
    have := h.lt
    simp only at this
    omega
theorem mP_eq {G : mG} {S : mS} {s : State} {H : Heap} {locs : List Loc} {cu : Nat} (hP : mP G S H) (hK : mKs G s s.heap) (hS : va_S (mA G) s.heap H locs) (hc : s.heap.size + cu = G.1 + S.1.length) (hz : H.size ≤ s.heap.size + cu) : H.size = G.1 + S.1.length := by
  have h1 := mP_low hP (Nat.le_trans hK.2.2.2.2.2.2.2 hS.1)
  omega
/-- a row of ints changes -/
theorem mEn_ne {G : mG} {σ : Nat → Nat → Int32} {k j : Nat} {f : Nat → Int32} {e : mE} (h : j ≠ k) : mEn G (mrow σ k f) j e = mEn G σ j e := by
  obtain ⟨a, b, c⟩ := e
  unfold mEn mFs mrow
  simp only [if_neg h]
theorem mWs_row {G : mG} {S : mS} {k : Nat} {f : Nat → Int32} {e : mE} (h : mnth S.1 k = some e) : mWs G (S.1, S.2.1, mrow S.2.2 k f) = (mWs G S).set k (G.1 + k, mEn G (mrow S.2.2 k f) k e) := by
  apply List.ext_getElem?
  intro j
  rw [mWs_at]
  by_cases hj : j = k
  · subst hj
    have hl : j < (mWs G S).length := by simp [mWs]; exact mnth_lt h
    rw [List.getElem?_set_self hl]
    rw [mnth_eq] at h
    simp only [h]; rfl
  · rw [List.getElem?_set_ne (Ne.symm hj), mWs_at]
    simp only
    cases S.1[j]? with
    | none => rfl
    | some x => simp only [Option.map_some, mEn_ne hj]
theorem mP_row {G : mG} {S : mS} {H H1 : Heap} {k : Nat} {f : Nat → Int32} {e : mE} (hP : mP G S H) (h : mnth S.1 k = some e) (h1 : va_P G.2.2.1 mCl ((mWs G S).set k (G.1 + k, mEn G (mrow S.2.2 k f) k e)) H1) : mP G (S.1, S.2.1, mrow S.2.2 k f) H1 := by
  have hl := mnth_lt h
  obtain ⟨a1, a2, a3, a4, a5, a6⟩ := hP
  have n0 : (1000000 : Nat) ≠ k := by omega
  have n1 : (1000001 : Nat) ≠ k := by omega
  have n2 : (1000002 : Nat) ≠ k := by omega
  refine ⟨a1, by rw [mWs_row h]; exact h1, a3, ?_, ?_, ?_⟩
  · show mrow S.2.2 k f 1000000 = _
    simp only [mrow, if_neg n0]; exact a4
  · show mrow S.2.2 k f 1000001 = _
    simp only [mrow, if_neg n1]; exact a5
  · show mrow S.2.2 k f 1000002 = _
    simp only [mrow, if_neg n2]; exact a6
/-- a cell's references change -/
theorem mWs_set {G : mG} {S : mS} {k : Nat} {e e' : mE} (h : mnth S.1 k = some e) : mWs G (S.1.set k e', S.2.1, S.2.2) = (mWs G S).set k (G.1 + k, mEn G S.2.2 k e') := by
  apply List.ext_getElem?
  intro j
  have hl := mnth_lt h
  rw [mWs_at]
  by_cases hj : j = k
  · subst hj
    have hl2 : j < (mWs G S).length := by simp [mWs]; exact hl
    rw [List.getElem?_set_self hl2]
    simp only [List.getElem?_set_self hl]; rfl
  · simp only [List.getElem?_set_ne (Ne.symm hj), mWs_at]
theorem mP_set {G : mG} {S : mS} {H H1 : Heap} {k : Nat} {e e' : mE} (hP : mP G S H) (h : mnth S.1 k = some e) (h1 : va_P G.2.2.1 mCl ((mWs G S).set k (G.1 + k, mEn G S.2.2 k e')) H1) : mP G (S.1.set k e', S.2.1, S.2.2) H1 := by
  obtain ⟨a1, a2, a3, a4, a5, a6⟩ := hP
  exact ⟨by simpa using a1, by rw [mWs_set h]; exact h1, a3, a4, a5, a6⟩
/-- a cell comes -/
theorem mP_push {G : mG} {S : mS} {H H1 : Heap} {e : mE} {f : Nat → Int32} (hP : mP G S H) (hn : S.1.length + 1 ≤ 1000) (ho : ∀ q, q < H.size → H1[q]? = H[q]?) (he : va_at G.2.2.1 mCl (G.1 + S.1.length, mEn G (mrow S.2.2 S.1.length f) S.1.length e) H1) : mP G (S.1 ++ [e], S.2.1, mrow S.2.2 S.1.length f) H1 := by
  obtain ⟨a1, a2, a3, a4, a5, a6⟩ := hP
  have n0 : (1000000 : Nat) ≠ S.1.length := by omega
  have n1 : (1000001 : Nat) ≠ S.1.length := by omega
  have n2 : (1000002 : Nat) ≠ S.1.length := by omega
  refine ⟨by simpa using hn, ?_, a3, ?_, ?_, ?_⟩
  · intro j q hq
    rw [mWs_at] at hq
    simp only at hq
    by_cases hj : j < S.1.length
    · rw [List.getElem?_append_left hj, List.getElem?_eq_getElem hj] at hq
      cases hq
      have hne : j ≠ S.1.length := by omega
      have h0 := a2 j _ (by rw [mWs_at, List.getElem?_eq_getElem hj]; rfl)
      show va_at _ _ (G.1 + j, mEn G (mrow S.2.2 S.1.length f) j S.1[j]) H1
      rw [mEn_ne hne]
      exact h0.kept (ho _ h0.lt)
    · rw [List.getElem?_append_right (by omega)] at hq
      by_cases hz : j = S.1.length
      · subst hz
        simp at hq
        subst hq
        exact he
      · have : ([e] : List mE)[j - S.1.length]? = none := by
          rw [List.getElem?_eq_none_iff]; simp; omega
        rw [this] at hq
        cases hq
  · show mrow _ _ f 1000000 = _
    simp only [mrow, if_neg n0]; exact a4
  · show mrow _ _ f 1000001 = _
    simp only [mrow, if_neg n1]; exact a5
  · show mrow _ _ f 1000002 = _
    simp only [mrow, if_neg n2]; exact a6
theorem va_S.grow {A : Nat → Prop} {H0 H H1 : Heap} {locs : List Loc} (h : va_S A H0 H locs) (z : H.size ≤ H1.size) (o : ∀ q, q < H.size → H1[q]? = H[q]?) : va_S A H0 H1 locs := ⟨Nat.le_trans h.1 z, fun q h1 h2 => (o q (Nat.lt_of_lt_of_le h1 h.1)).trans (h.2.1 q h1 h2), h.2.2⟩
theorem mFs_at {G : mG} {σ : Nat → Nat → Int32} {k ci j : Nat} {rs : List (Option Nat)} (h : j < mNf ci) : (mFs G σ k ci rs)[j]? = some (if mkd ci j = 2 then mrv G (rs.getD j none) else .int (σ k j)) := by
  simp [mFs, h]
theorem mFs_len {G : mG} {σ : Nat → Nat → Int32} {k ci : Nat} {rs : List (Option Nat)} : (mFs G σ k ci rs).length = mNf ci := by simp [mFs]
theorem mFs_int {G : mG} {σ : Nat → Nat → Int32} {k ci j : Nat} {rs : List (Option Nat)} {x : Int32} (h : j < mNf ci) (hk : mkd ci j ≠ 2) : mFs G (mup σ k j x) k ci rs = (mFs G σ k ci rs).set j (.int x) := by
  apply List.ext_getElem?
  intro i
  by_cases hi : i < mNf ci
  · rw [mFs_at hi]
    by_cases e : i = j
    · subst e
      rw [List.getElem?_set_self (by rw [mFs_len]; exact hi), if_neg hk]
      simp [mup, mrow, upd]
    · rw [List.getElem?_set_ne (Ne.symm e), mFs_at hi]
      simp [mup, mrow, upd, e]
  · rw [List.getElem?_eq_none (by rw [mFs_len]; omega), List.getElem?_eq_none (by rw [List.length_set, mFs_len]; omega)]
theorem mFs_ref {G : mG} {σ : Nat → Nat → Int32} {k ci j v : Nat} {rs : List (Option Nat)} (h : j < mNf ci) (hk : mkd ci j = 2) (hl : rs.length = mNf ci) : mFs G σ k ci (rs.set j (some v)) = (mFs G σ k ci rs).set j (.ref (mad G v)) := by
  apply List.ext_getElem?
  intro i
  by_cases hi : i < mNf ci
  · rw [mFs_at hi]
    by_cases e : i = j
    · subst e
      rw [List.getElem?_set_self (by rw [mFs_len]; exact hi), if_pos hk]
      simp [hl, hi, mrv]
    · rw [List.getElem?_set_ne (Ne.symm e), mFs_at hi]
      have e2 : j ≠ i := fun z => e z.symm
      simp [List.getD_eq_getElem?_getD, List.getElem?_set_ne e2]
  · rw [List.getElem?_eq_none (by rw [mFs_len]; omega), List.getElem?_eq_none (by rw [List.length_set, mFs_len]; omega)]
