/-! THE LAYER: a small pure machine (cells by numbers, ints in one table of rows) over which the methods' walks are said. -/
abbrev mE : Type := Nat × Nat × List (Option Nat)
abbrev mS : Type := List mE × Nat × (Nat → Nat → Int32)
abbrev mLoc : Type := List (Option Value)
abbrev mI : Type := Instr × Nat × Nat × Nat × Nat × List (Int32 × Nat)
abbrev mK6 : Type := Nat → mLoc → List Value → mS → Nat → Nat → Prop
def mnth {α : Type} : List α → Nat → Option α
  | [], _ => none
  | a :: _, 0 => some a
  | _ :: l, n + 1 => mnth l n
theorem mnth_eq {α : Type} : ∀ (l : List α) (n : Nat), mnth l n = l[n]?
  | [], n => by simp [mnth]
  | a :: l, 0 => by simp [mnth]
  | a :: l, n + 1 => by simp [mnth, mnth_eq l n]
theorem mnth_lt {α : Type} {l : List α} {n : Nat} {a : α} (h : mnth l n = some a) : n < l.length := by
  rw [mnth_eq] at h
  exact (List.getElem?_eq_some_iff.mp h).1
def mset : mLoc → Nat → Value → mLoc
  | [], _, _ => []
  | _ :: l, 0, v => some v :: l
  | a :: l, n + 1, v => a :: mset l n v
theorem mset_len : ∀ (l : mLoc) (n : Nat) (v : Value), (mset l n v).length = l.length
  | [], _, _ => rfl
  | _ :: l, 0, v => rfl
  | a :: l, n + 1, v => by simp [mset, mset_len l n v]
theorem mset_eq : ∀ (l : mLoc) (n : Nat) (v : Value), mset l n v = l.set n (some v)
  | [], _, _ => by simp [mset]
  | _ :: l, 0, v => by simp [mset]
  | a :: l, n + 1, v => by simp [mset, mset_eq l n v]
def mY (k : Nat) : MethodName := match mnth mM k with
  | some q => q.1
  | none => ⟨"", "", ""⟩
def mCd (k : Nat) : ByteArray := match mnth mM k with
  | some q => q.2.1
  | none => ByteArray.empty
def mNl (k : Nat) : Nat := match mnth mM k with
  | some q => q.2.2.1
  | none => 0
def mRt (k : Nat) : Option FieldType := match mnth mM k with
  | some q => q.2.2.2
  | none => none
def mKd (k : Nat) : Nat := match mnth mMr k with
  | some r => r.1
  | none => 9
def mNa (k : Nat) : Nat := match mnth mMr k with
  | some r => r.2.1
  | none => 0
def mkd (ci j : Nat) : Nat := match mnth mFk ci with
  | some l => (match mnth l j with
    | some x => x
    | none => 0)
  | none => 0
def mNf (ci : Nat) : Nat := match mnth mFk ci with
  | some l => l.length
  | none => 0
def mCq (ci : Nat) : vw_C := match mnth mCl ci with
  | some q => q
  | none => ("", TX0, 0)
def mka : Nat → Int32 := fun j => ([-1, 0, 0, 0, 1, 0, 2] : List Int32).getD j 0
def mbod : Nat → Int32 := fun j => ([10, 11, 12, 13, 0, 20, 0, 0, 30, 0, 0, 0, 0, 0, 40, 0, 0, 50, 0, 0, 0, 0, 0, 60, 70, 0, 0, 71] : List Int32).getD j 0
/-- rows of ints -/
def mrow (σ : Nat → Nat → Int32) (k : Nat) (f : Nat → Int32) : Nat → Nat → Int32 := fun a => if a = k then f else σ a
def mup (σ : Nat → Nat → Int32) (k j : Nat) (v : Int32) : Nat → Nat → Int32 := mrow σ k (upd (σ k) j v)
/-- where the pure cells lie: base, the three old arrays, class numbers, array classes, the script -/
abbrev mG : Type := Nat × (Nat → Nat) × va_G × (ClassId × ClassId × ClassId) × Nat × (Nat → Int32)
def mA (G : mG) : Nat → Prop := fun q => G.1 ≤ q
def mad (G : mG) (k : Nat) : Nat := if k < 1000000 then G.1 + k else G.2.1 (k - 1000000)
def mtr (G : mG) (v : Value) : Value := match v with
  | .ref k => .ref (mad G k)
  | .int x => .int x
  | .long x => .long x
  | .float x => .float x
  | .double x => .double x
  | .null => .null
  | .retAddr x => .retAddr x
def mrv (G : mG) (r : Option Nat) : Value := match r with
  | none => .null
  | some k => .ref (mad G k)
def mpv (r : Option Nat) : Value := match r with
  | none => .null
  | some k => .ref k
theorem mtr_pv (G : mG) (r : Option Nat) : mtr G (mpv r) = mrv G r := by cases r <;> rfl
theorem mtr_cat (G : mG) (v : Value) : (mtr G v).category = v.category := by cases v <;> rfl
def mFs (G : mG) (σ : Nat → Nat → Int32) (k ci : Nat) (rs : List (Option Nat)) : List Value := (List.range (mNf ci)).map fun j => if mkd ci j = 2 then mrv G (rs.getD j none) else .int (σ k j)
def mEn (G : mG) (σ : Nat → Nat → Int32) (k : Nat) (e : mE) : va_E := match e with
  | (0, ci, rs) => .inr (ci, mFs G σ k ci rs)
  | (1, n, _) => .inl (G.2.2.2.1.1, n, .inl (σ k))
  | (2, n, _) => .inl (G.2.2.2.1.2.1, n, .inl (σ k))
  | (_, n, rs) => .inl (G.2.2.2.1.2.2, n, .inr (.inr (.inr (.inr (fun j => (rs.getD j none).map (mad G))))))
def mWs (G : mG) (S : mS) : va_W := S.1.mapIdx (fun k e => (G.1 + k, mEn G S.2.2 k e))
theorem mWs_at (G : mG) (S : mS) (k : Nat) : (mWs G S)[k]? = (S.1[k]?).map (fun e => (G.1 + k, mEn G S.2.2 k e)) := by
  simp [mWs, List.getElem?_mapIdx]
theorem mWs_some {G : mG} {S : mS} {k : Nat} {e : mE} (h : mnth S.1 k = some e) : (mWs G S)[k]? = some (G.1 + k, mEn G S.2.2 k e) := by
  rw [mnth_eq] at h
  rw [mWs_at, h]; rfl
def mP (G : mG) (S : mS) (H : Heap) : Prop := S.1.length ≤ 1000 ∧ va_P G.2.2.1 mCl (mWs G S) H ∧ S.2.1 = G.2.2.2.2.1 ∧ S.2.2 1000000 = G.2.2.2.2.2 ∧ S.2.2 1000001 = mka ∧ S.2.2 1000002 = mbod
abbrev mTy (G : mG) : List (ClassId × FieldType) := [(G.2.2.2.1.1, .int), (G.2.2.2.1.2.1, .boolean), (G.2.2.2.1.2.2, .object RX5)]
def mKs (G : mG) (U : State) (H : Heap) : Prop := va_K G.2.2.1 mCl (mTy G) U ∧ va_T .int (G.2.1 0) G.2.2.2.2.1 (fun j => .int (G.2.2.2.2.2 j)) (mA G) U H ∧ va_T .int (G.2.1 1) 7 (fun j => .int (mka j)) (mA G) U H ∧ va_T .int (G.2.1 2) 28 (fun j => .int (mbod j)) (mA G) U H ∧ va_Z RX11 "KIND_ABOVE" "[I" (.ref (G.2.1 1)) (mA G) U H ∧ va_Z RX8 "BODIES" "[I" (.ref (G.2.1 2)) (mA G) U H ∧ va_AO RX5 U ∧ G.1 ≤ H.size
theorem mKs.moved {G : mG} {u U : State} {H : Heap} (hvm : u.vm.Alike U.vm) (h : mKs G u H) : mKs G U H := by
  obtain ⟨h1, h2, h3, h4, h5, h6, h8, h7⟩ := h
  exact ⟨va_K.moved hvm h1, h2.moved hvm, h3.moved hvm, h4.moved hvm, h5.moved hvm, h6.moved hvm, va_AO.moved hvm h8, h7⟩
theorem mKs.kept {G : mG} {U : State} {H H1 : Heap} {locs : List Loc} (h : mKs G U H) (hS : va_S (mA G) H H1 locs) : mKs G U H1 := by
  obtain ⟨h1, h2, h3, h4, h5, h6, h8, h7⟩ := h
  exact ⟨h1, h2.kept hS.2.1, h3.kept hS.2.1, h4.kept hS.2.1, h5.kept hS.2.1, h6.kept hS.2.1, h8, Nat.le_trans h7 hS.1⟩
theorem mWs_D (G : mG) (S : mS) : va_D (mA G) (mWs G S) := by
  refine ⟨fun i j p q hi hj hpq => ?_, fun k q hk => ?_⟩
  · rw [mWs_at] at hi hj
    cases h1 : S.1[i]? with
    | none => rw [h1] at hi; cases hi
    | some a =>
      cases h2 : S.1[j]? with
      | none => rw [h2] at hj; cases hj
      | some b =>
        rw [h1] at hi; rw [h2] at hj
        cases hi; cases hj
        exact Nat.add_left_cancel hpq
  · rw [mWs_at] at hk
    cases h1 : S.1[k]? with
    | none => rw [h1] at hk; cases hk
    | some a => rw [h1] at hk; cases hk; exact Nat.le_add_right _ _
theorem mad_lt {G : mG} {k : Nat} (h : k < 1000000) : mad G k = G.1 + k := by simp [mad, h]
/-- the words on nest mates: they aren't words of a contract, but of its start -/
def mIsN (c : Cond) : Bool := match c with
  | .methodLinkNest _ _ _ _ => true
  | .fieldLinkNest _ _ _ _ _ _ => true
  | _ => false
def mNst : List Cond := lw_tbl.filter mIsN
def mNk (U : State) : Prop := ∀ w ∈ mNst, va_Nw w U
theorem mNk.warm {s U : State} (hW : s.WarmedH U.vm) (h : mNk s) : mNk U := by
  intro w hw
  have h1 := h w hw
  have h2 := (List.mem_filter.mp hw).2
  cases w with
  | methodLinkNest a i x c => exact va_Nw.warmM hW h1
  | fieldLinkNest a i b n d c => exact va_Nw.warmF hW h1
  | _ => cases h2
theorem mNk.same {u U : State} (e : u.vm = U.vm) (h : mNk u) : mNk U := by
  intro w hw
  have h1 := h w hw
  have h2 := (List.mem_filter.mp hw).2
  cases w with
  | methodLinkNest a i x c => exact va_Nw.same rfl e h1
  | fieldLinkNest a i b n d c => exact va_Nw.same rfl e h1
  | _ => cases h2
/-- contracts -/
def mTb : List Cond := lw_tbl.filter goodWord
def mWd (k : Nat) : List Cond := .code (mY k) (mCd k) (mNl k) (mRt k) :: mTb
def mRm (d k : Nat) : Room := { frames := d, cells := (mMc k).1, slots := (mMc k).2, locals := 64 * d }
def mPc (G : mG) (vs : List Value) (S : mS) : Array Value → State → Prop := va_Pc (vs.map (mtr G)) (fun U => mP G S U.heap ∧ mKs G U U.heap ∧ U.heap.size = G.1 + S.1.length ∧ mNk U)
def mQc (G : mG) (r : Option Value) (S' : mS) : Array Value → State → Outcome → State → Prop := fun _ st o t => o = .returned (r.map (mtr G)) ∧ mP G S' t.heap ∧ va_F (mA G) st t ∧ t.heap.size = G.1 + S'.1.length
def mEv (d k : Nat) (vs : List Value) (S : mS) (r : Option Value) (S' : mS) : Prop := S'.1.length = S.1.length + (mMc k).1 ∧ ∀ (l : Launch) (G : mG), Met l (mY k) (mWd k) (mRm d k) (mPc G vs S) (mQc G r S') (mMc k).1 (mMc k).2 (mA G)
/-- the pure step -/
def mgI (pl : mLoc) (i : Nat) (k : Int32 → Prop) : Prop := match mnth pl i with
  | some (some (.int x)) => k x
  | _ => False
def mgR (pl : mLoc) (i : Nat) (k : Nat → Prop) : Prop := match mnth pl i with
  | some (some (.ref x)) => k x
  | _ => False
def mgL (pl : mLoc) (i : Nat) (k : Int64 → Prop) : Prop := match mnth pl i with
  | some (some (.long x)) => k x
  | _ => False
def mok1 (pl : mLoc) (i : Nat) : Bool := match i with
  | 0 => true
  | i + 1 => match mnth pl i with
    | some (some v) => v.category == 1
    | _ => true
def msto (pl : mLoc) (i : Nat) (v : Value) (k : mLoc → Prop) : Prop := match mnth pl i, mok1 pl i with
  | some _, true => k (mset pl i v)
  | _, _ => False
def ms1 (st : List Value) (k : Int32 → List Value → Prop) : Prop := match st with
  | .int x :: r => k x r
  | _ => False
def ms2 (st : List Value) (k : Int32 → Int32 → List Value → Prop) : Prop := match st with
  | .int y :: .int x :: r => k x y r
  | _ => False
def ms1L (st : List Value) (k : Int64 → List Value → Prop) : Prop := match st with
  | .long x :: r => k x r
  | _ => False
def ms2L (st : List Value) (k : Int64 → Int64 → List Value → Prop) : Prop := match st with
  | .long y :: .long x :: r => k x y r
  | _ => False
def msLI (st : List Value) (k : Int64 → Int32 → List Value → Prop) : Prop := match st with
  | .int y :: .long x :: r => k x y r
  | _ => False
def ms1R (st : List Value) (k : Nat → List Value → Prop) : Prop := match st with
  | .ref a :: r => k a r
  | _ => False
def msRI (st : List Value) (k : Nat → Int32 → List Value → Prop) : Prop := match st with
  | .int i :: .ref a :: r => k a i r
  | _ => False
def msRII (st : List Value) (k : Nat → Int32 → Int32 → List Value → Prop) : Prop := match st with
  | .int x :: .int i :: .ref a :: r => k a i x r
  | _ => False
def msRIR (st : List Value) (k : Nat → Int32 → Nat → List Value → Prop) : Prop := match st with
  | .ref v :: .int i :: .ref a :: r => k a i v r
  | _ => False
def msRp (st : List Value) (k : Nat → Int32 → List Value → Prop) : Prop := match st with
  | .int x :: .ref a :: r => k a x r
  | _ => False
def msRR (st : List Value) (k : Nat → Nat → List Value → Prop) : Prop := match st with
  | .ref v :: .ref a :: r => k a v r
  | _ => False
def msV (st : List Value) (k : Value → List Value → Prop) : Prop := match st with
  | v :: r => k v r
  | _ => False
def msVV (st : List Value) (k : Value → Value → List Value → Prop) : Prop := match st with
  | v :: w :: r => k v w r
  | _ => False
def msCp (st : List Value) (k : Nat → Int32 → Nat → Int32 → Int32 → List Value → Prop) : Prop := match st with
  | .int n :: .int dp :: .ref b :: .int sp :: .ref a :: r => k a sp b dp n r
  | _ => False
def mcz (c : ClassFile.Cond) (x : Int32) : Prop := match c with
  | .eq => x = 0
  | .ne => ¬ x = 0
  | .lt => x < 0
  | .ge => 0 ≤ x
  | .gt => 0 < x
  | .le => x ≤ 0
def mcc (c : ClassFile.Cond) (x y : Int32) : Prop := match c with
  | .eq => x = y
  | .ne => ¬ x = y
  | .lt => x < y
  | .ge => y ≤ x
  | .gt => y < x
  | .le => x ≤ y
def msw (J : Nat → Prop) (x : Int32) (dflt : Nat) : List (Int32 × Nat) → Prop
  | [] => J dflt
  | q :: ps => (x = q.1 → J q.2) ∧ (¬ x = q.1 → msw J x dflt ps)
/-- an object of a class: its references -/
def mob (S : mS) (a ci : Nat) (k : List (Option Nat) → Prop) : Prop := match mnth S.1 a with
  | some (0, c, rs) => (match Nat.beq c ci with
    | true => k rs
    | false => False)
  | _ => False
/-- an int array's length -/
def mal (S : mS) (a : Nat) : Option Nat := match mnth S.1 a with
  | some (1, n, _) => some n
  | some _ => none
  | none => match a with
    | 1000000 => some S.2.1
    | 1000001 => some 7
    | 1000002 => some 28
    | _ => none
def mai (S : mS) (a : Nat) (k : Nat → Prop) : Prop := match mal S a with
  | some n => k n
  | none => False
def maz (S : mS) (a : Nat) (k : Nat → Prop) : Prop := match mnth S.1 a with
  | some (2, n, _) => k n
  | _ => False
def maq (S : mS) (a : Nat) (k : Nat → List (Option Nat) → Prop) : Prop := match mnth S.1 a with
  | some (3, n, rs) => k n rs
  | _ => False
def mcut : Nat → List Value → List Value → (List Value → List Value → Prop) → Prop
  | 0, st, acc, k => k acc st
  | n + 1, v :: st, acc, k => mcut n st (v :: acc) k
  | _ + 1, [], _, _ => False
def mcats : List Value → Nat
  | [] => 0
  | v :: l => v.category + mcats l
def mcap (k cu su : Nat) : Bool := Nat.ble cu (mMc k).1 && Nat.ble su (mMc k).2
/-- the class of a method's own object -/
def mcN (k : Nat) : Nat := match mnth mMr k with
  | some _ => mcNl k
  | none => 99
/-- what may come back from a method that returns such a thing -/
def mres (t : Option FieldType) (v : Option Value) : Prop := match t, v with
  | none, none => True
  | some .int, some (.int _) => True
  | some .boolean, some (.int _) => True
  | some (.object _), some .null => True
  | some (.object _), some (.ref _) => True
  | _, _ => False
/-- what a method that returns such a thing may give back -/
def mrk (t : Option FieldType) (v : Int32) : Prop := match t with
  | some .int => True
  | some .boolean => v = 0 ∨ v = 1
  | _ => False
def mrq (t : Option FieldType) : Prop := match t with
  | some (.object _) => True
  | _ => False
