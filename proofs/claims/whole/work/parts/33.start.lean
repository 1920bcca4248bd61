/-! THE CLAIM OUT OF ONE WALK OF THE LAW'S BODY. Your part is whole_start (and what it stands on); all else here is the same for every law, but numbers. -/
def R_law : String := "NineWellsLaw"
def lw_P (b : Addr) (xs : List Int32) (args : Array Value) (s : State) : Prop := args = #[.ref b] ∧ s.IntsAt b xs ∧ xs.length ≤ 3072 ∧ (Jvm.Cond.and given_1 narrow_1).before args s = true
def lw_Q (_ : Array Value) (s : State) (o : Outcome) (t : State) : Prop := o = .returned (some (.int 1)) ∧ Framed s o t [] 600000 7302249
def lw_Z (below : List Frame) (a : Array Value) (s : State) : State → Prop := fun t => ∃ o, t.status = .running ∧ Ended t below o ∧ lw_Q a s o t
/-- the law's own end, with 1 on the stack, nothing written that was there before, its room as the claim has it -/
theorem lw_ret {p : Program} {l : Launch} {e : Env} {s : State} {m : MethodId} {below : List Frame} {meth : Method} {c : Code} {b : Nat} (hx : p.tables.exec = Jvm.exec) (hb : c.code = code) (hr : meth.sig.returnType = ret) (hlocks : meth.locks = false) {pc : Nat} {H : Heap} {ls : Array Slot} (hdg : decode code pc = .ok (.ireturn, 1)) : W p l e room_1 s m #[Value.ref b] below meth c H [] 600000 7302249 (lw_Z below #[Value.ref b] s) (F0 m pc ls [.int 1]) := by
  intro T hT X
  obtain ⟨fs, hret, hrun, hended, hW, hframe⟩ := X.leave (v := some (.int 1)) (hlocks := hlocks) (fun h => by rw [hr] at h; cases h)
  have hmeth' : T.vm.method? m = some meth := X.method'
  refine ⟨T.setFrames fs, ?_, .returned (some (.int 1)), hrun, hended, rfl, ⟨_, rfl⟩, hW, hframe⟩
  jvm_step X.here [X.here.top, hx, hb, hdg, hmeth', hr, ret, narrow_b1]
  (try refine ⟨rfl, ?_⟩); (try refine ⟨rfl, ?_⟩)
  first | (intro acts; rw [hret _ acts rfl rfl rfl]) | rw [hret _ _ rfl rfl rfl]
  exact Steps.refl _
/-- what holds at the law's entry: the machine, the code, the tables' words (any of lw_tbl by 'hts w (by decide +kernel)'), the script of L ints xs at the cell b, what the Statement gives of the start (any of its parts by flat_of_before) -/
def lw_At (p : Program) (s : State) (m : MethodId) (meth : Method) (c : Code) (b L : Nat) (xs : Nat → Int32) : Prop :=
  p.tables.exec = Jvm.exec ∧ c.code = code ∧ meth.sig.returnType = ret ∧ c.maxLocals = 4 ∧ s.vm.findClass R_law = some m.cls ∧ (∀ w ∈ lw_tbl, w.before #[Value.ref b] s = true) ∧ va_X b L xs s s.heap ∧ b < s.heap.size ∧ meth.locks = false ∧ (Jvm.Cond.and given_1 narrow_1).before #[Value.ref b] s = true

/-- the ints at the start: the script, the two old arrays, the three numbers that the constructors lay -/
def mS00 (xs : Nat → Int32) : Sg := fun k => if k = 1000000 then xs else if k = 1000001 then mka else if k = 1000002 then mbod else fun _ => 0
def mS0 (xs : Nat → Int32) : Sg := mup (mup (mup (mS00 xs) 1 5 1) 16 5 1) 94 4 1
theorem mTb_sub {w : Cond} (h : w ∈ mTb) : w ∈ lw_tbl := (List.mem_filter.mp h).1
theorem law_ka {s : State} {b : Nat} (hgv : (Jvm.Cond.and given_1 narrow_1).before #[Value.ref b] s = true) : ∃ t : Nat, (Term.static "NineWells" "KIND_ABOVE" "[I").eval #[Value.ref b] s none [] s = some (.ref t) ∧ va_T .int t 7 (fun j => .int (mka j)) (fun q => s.heap.size ≤ q) s s.heap := by
  have hs := flat_of_before _ hgv
  refine va_Tof (by decide) (hs _ (by decide +kernel)) (va_eqt (z := 7) (hs _ (by decide +kernel))) (fun j hj => ?_) (fun a ha => by omega)
  match j, hj with
  | 0, _ => exact va_eqt (z := -1) (hs _ (by decide +kernel))
  | 1, _ => exact va_eqt (z := 0) (hs _ (by decide +kernel))
  | 2, _ => exact va_eqt (z := 0) (hs _ (by decide +kernel))
  | 3, _ => exact va_eqt (z := 0) (hs _ (by decide +kernel))
  | 4, _ => exact va_eqt (z := 1) (hs _ (by decide +kernel))
  | 5, _ => exact va_eqt (z := 0) (hs _ (by decide +kernel))
  | 6, _ => exact va_eqt (z := 2) (hs _ (by decide +kernel))
  | n + 7, h => omega
theorem law_bod {s : State} {b : Nat} (hgv : (Jvm.Cond.and given_1 narrow_1).before #[Value.ref b] s = true) : ∃ t : Nat, (Term.static "NineWells$Voices" "BODIES" "[I").eval #[Value.ref b] s none [] s = some (.ref t) ∧ va_T .int t 28 (fun j => .int (mbod j)) (fun q => s.heap.size ≤ q) s s.heap := by
  have hs := flat_of_before _ hgv
  refine va_Tof (by decide) (hs _ (by decide +kernel)) (va_eqt (z := 28) (hs _ (by decide +kernel))) (fun j hj => ?_) (fun a ha => by omega)
  match j, hj with
  | 0, _ => exact va_eqt (z := 10) (hs _ (by decide +kernel))
  | 1, _ => exact va_eqt (z := 11) (hs _ (by decide +kernel))
  | 2, _ => exact va_eqt (z := 12) (hs _ (by decide +kernel))
  | 3, _ => exact va_eqt (z := 13) (hs _ (by decide +kernel))
  | 4, _ => exact va_eqt (z := 0) (hs _ (by decide +kernel))
  | 5, _ => exact va_eqt (z := 20) (hs _ (by decide +kernel))
  | 6, _ => exact va_eqt (z := 0) (hs _ (by decide +kernel))
  | 7, _ => exact va_eqt (z := 0) (hs _ (by decide +kernel))
  | 8, _ => exact va_eqt (z := 30) (hs _ (by decide +kernel))
  | 9, _ => exact va_eqt (z := 0) (hs _ (by decide +kernel))
  | 10, _ => exact va_eqt (z := 0) (hs _ (by decide +kernel))
  | 11, _ => exact va_eqt (z := 0) (hs _ (by decide +kernel))
  | 12, _ => exact va_eqt (z := 0) (hs _ (by decide +kernel))
  | 13, _ => exact va_eqt (z := 0) (hs _ (by decide +kernel))
  | 14, _ => exact va_eqt (z := 40) (hs _ (by decide +kernel))
  | 15, _ => exact va_eqt (z := 0) (hs _ (by decide +kernel))
  | 16, _ => exact va_eqt (z := 0) (hs _ (by decide +kernel))
  | 17, _ => exact va_eqt (z := 50) (hs _ (by decide +kernel))
  | 18, _ => exact va_eqt (z := 0) (hs _ (by decide +kernel))
  | 19, _ => exact va_eqt (z := 0) (hs _ (by decide +kernel))
  | 20, _ => exact va_eqt (z := 0) (hs _ (by decide +kernel))
  | 21, _ => exact va_eqt (z := 0) (hs _ (by decide +kernel))
  | 22, _ => exact va_eqt (z := 0) (hs _ (by decide +kernel))
  | 23, _ => exact va_eqt (z := 60) (hs _ (by decide +kernel))
  | 24, _ => exact va_eqt (z := 70) (hs _ (by decide +kernel))
  | 25, _ => exact va_eqt (z := 0) (hs _ (by decide +kernel))
  | 26, _ => exact va_eqt (z := 0) (hs _ (by decide +kernel))
  | 27, _ => exact va_eqt (z := 71) (hs _ (by decide +kernel))
  | n + 28, h => omega
theorem mAt.deep {d d' mid : Nat} {res : Option Value × mS} {pc : Nat} {pl : mLoc} {st : List Value} {S : mS} {cu su : Nat} (hd : d ≤ d') (h : mAt d mid res pc pl st S cu su) : mAt d' mid res pc pl st S cu su := by
  intro G p l e R s m args below meth c Q C hF
  obtain ⟨c1, c2, c3, c4, c5, c6, c7, c8, c9⟩ := C
  exact h G p l e R s m args below meth c Q ⟨c1, c2, c3, c4, c5, c6, Nat.le_trans hd c7, by omega, c9⟩ hF
set_option maxHeartbeats 4000000 in
set_option maxRecDepth 100000 in
theorem whole_of (hp : ∀ (L : Nat) (xs : Nat → Int32), L ≤ 3072 → ∃ σ', c_L_law_18 L 1000 0 (mS0 xs) = some (1, σ')) {p : Program} {e : Env} {s : State} {m : MethodId} {below : List Frame} {meth : Method} {c : Code} (l : Launch) {b L : Nat} {xs : Nat → Int32} (hL : L ≤ 3072) (C0 : lw_At p s m meth c b L xs) : W p l e room_1 s m #[Value.ref b] below meth c s.heap [] 0 0 (lw_Z below #[Value.ref b] s) (entryFrame m ([Value.ref b] : List Value).toArray 4) := by
  obtain ⟨hx, hb, hr, hml, hown, hts, hX, hbl, hlocks, hgv⟩ := C0
  have htb : ∀ w ∈ mTb, w.before #[Value.ref b] s = true := fun w hw => hts w (mTb_sub hw)
  have kn : ∀ ci : Nat, ∃ (cC : ClassId) (iS : Nat → Nat), ci < 13 → u_Kn s (mCq ci).1 (mCq ci).2.1 (mCq ci).2.2 cC iS := by
    intro ci
    by_cases h : ci < 13
    · obtain ⟨ty, f1, f2, f3, f4, f5, f6, f7, f8⟩ := mCf_all h
      obtain ⟨cC, iS, hk⟩ := u_known htb f1 (htb _ f4)
      exact ⟨cC, iS, fun _ => hk⟩
    · exact ⟨0, fun _ => 0, fun z => absurd z h⟩
  have hcl : ∀ (k : Nat) (q : vw_C), mCl[k]? = some q → k < 13 ∧ q = mCq k := by
    intro k q hq
    have hk : k < 13 := by
      have := (List.getElem?_eq_some_iff.mp hq).1
      simpa using this
    obtain ⟨ty, f1, f2, f3, f4, f5, f6, f7, f8⟩ := mCf_all hk
    rw [f8] at hq
    exact ⟨hk, (Option.some.inj hq).symm⟩
  obtain ⟨dC, hdC⟩ := Classical.skolem.mp kn
  obtain ⟨dI, hdI⟩ := Classical.skolem.mp hdC
  obtain ⟨cI, kI, compI, i1, i2, i3⟩ := Cond.arrayClass_spec (htb _ mTb_ai)
  obtain ⟨cZ, kZ, compZ, z1, z2, z3⟩ := Cond.arrayClass_spec (htb _ mTb_az)
  have hao : (Cond.arrayOver (.object RX5)).before #[Value.ref b] s = true := hts _ (List.mem_of_getElem? (i := 342) (by decide +kernel))
  obtain ⟨comp, cS, kS, o1, o2, o3, o4, o5⟩ := Cond.arrayOver_spec hao
  obtain ⟨t1, e1, T1⟩ := law_ka hgv
  obtain ⟨t2, e2, T2⟩ := law_bod hgv
  obtain ⟨scr, x1, x2, x3, x4, x5⟩ := hX
  let G : mG := (s.heap.size, (fun i => if i = 0 then b else if i = 1 then t1 else t2), (dC, dI), (cI, cZ, cS), L, xs)
  have hK : mKs G s s.heap := by
    refine ⟨⟨fun k q hq => ?_, fun k q hq => ?_⟩, ⟨scr, x1, x2, x3, Nat.le_of_eq x4.symm, by rw [x4], x5, by show ¬ s.heap.size ≤ b; omega⟩, T1, T2, va_Zof (hts _ (List.mem_of_getElem? (i := 565) (by decide +kernel))) (htb _ mTb_i11) e1 (fun a ha => by show ¬ s.heap.size ≤ a; omega), va_Zof (hts _ (List.mem_of_getElem? (i := 851) (by decide +kernel))) (htb _ mTb_i8) e2 (fun a ha => by show ¬ s.heap.size ≤ a; omega), hao, Nat.le_refl _⟩
    · obtain ⟨h1, rfl⟩ := hcl k q hq
      exact hdI k h1
    · match k, hq with
      | 0, hq => cases hq; exact ⟨fun n z => ⟨fun k h => (by cases h), kI, i2, compI, i3⟩, i1⟩
      | 1, hq => cases hq; exact ⟨fun n z => ⟨fun k h => (by cases h), kZ, z2, compZ, z3⟩, z1⟩
      | 2, hq => cases hq; exact ⟨fun n z => ⟨fun k h => (by cases h), kS, o3, comp, o4⟩, kS, comp, o3, o4, o1, o5⟩
      | k + 3, hq => simp [mTy] at hq
  have hP : mP G ([], L, mS00 xs) s.heap := ⟨by simp, fun k q h => by simp [mWs] at h, rfl, by simp [mS00]; rfl, by simp [mS00], by simp [mS00]⟩
  obtain ⟨σ', hσ⟩ := hp L xs hL
  have C : mCx 400 231 G p room_1 s m #[Value.ref b] meth c := ⟨hx, hb, hml, hown, htb, hK, by decide, by decide, by decide, by decide, fun z => absurd z (by decide), hlocks, fun w hw => by
    have h1 := hts w (List.mem_filter.mp hw).1
    have h2 := (List.mem_filter.mp hw).2
    cases w with
    | methodLinkNest a i x c => exact va_Nw.of rfl h1
    | fieldLinkNest a i b n d c => exact va_Nw.of rfl h1
    | _ => cases h2⟩
  have hwalk : mAt 400 231 (some (.int 1), (mSh, L, σ')) 0 [some (.ref 1000000), none, none, none] [] ([], L, mS00 xs) 0 0 := by
    refine law_in (by decide) (fun k _ hk => ?_) ?_
    · have n0 : k ≠ 1000000 := by omega
      have n1 : k ≠ 1000001 := by omega
      have n2 : k ≠ 1000002 := by omega
      simp [mS00, n0, n1, n2]
    · exact mAt.deep (by decide) (okc_L_law_18 (R := (1, σ')) hσ ⟨rfl, rfl, rfl, rfl, trivial⟩)
  have hm0 : mad G 1000000 = b := rfl
  have hent := mlv_entry (G := G) (vs := [.ref 1000000]) (n := 4) (by decide)
  have hgo := hwalk G p l e room_1 s m #[Value.ref b] below meth c (lw_Z below #[Value.ref b] s) C ?_ s.heap [] _ hP va_S.rf hent (by simp [G])
  · rw [lg_entry_eq]
    exact hgo
  · intro H locs ls pc cu su hP1 hS1 hz1 hcap hri
    obtain ⟨p1, p2⟩ := mcap_inv hcap
    rcases hri with ⟨x, q1, q2, q3⟩ | ⟨q1, q2, q3⟩ | ⟨x, q1, q2, q3, q4⟩
    · refine va_forget (fun q hq => hS1.2.2 q hq) ?_
      refine W.widen (k := 600000) (n := 7302249) (Nat.le_trans p1 (by decide)) (Nat.le_trans p2 (by decide)) ?_
      exact lw_ret hx hb hr hlocks q3
    · cases q1
    · cases q1
      rcases q2 with z | ⟨a, z⟩ <;> cases z
