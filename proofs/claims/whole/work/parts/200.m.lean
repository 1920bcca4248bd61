def bk_X11_lay_0 : List mI := [(.iload_n 1, 1, 0, 0, 0, []), (.ifCond .lt 13, 3, 14, 0, 0, []), (.iload_n 1, 1, 0, 0, 0, []), (.aload_n 0, 1, 0, 0, 0, []), (.arraylength, 1, 0, 0, 0, []), (.if_icmp .ge 7, 3, 14, 0, 0, []), (.aload_n 0, 1, 0, 0, 0, []), (.iload_n 1, 1, 0, 0, 0, []), (.iload_n 2, 1, 0, 0, 0, []), (.iastore, 1, 0, 0, 0, [])]
theorem ck_X11_lay_0 : mChk 131 0 bk_X11_lay_0 = true := by decide +kernel
def bk_X11_lay_14 : List mI := [(.return_, 1, 0, 0, 0, [])]
theorem ck_X11_lay_14 : mChk 131 14 bk_X11_lay_14 = true := by decide +kernel
def f_X11_lay (r0 n0 : Nat) (p1 : Int32) (p2 : Int32) (σ : Sg) : Option (Sg) := (if p1 < 0 then (some σ) else (if (Int32.ofNat n0) ≤ p1 then (some σ) else (if p1 < 0 ∨ n0 ≤ (p1).toNatClampNeg then none else (some (mup σ r0 (p1).toNatClampNeg p2)))))
set_option maxHeartbeats 4000000 in
theorem ok_X11_lay {L : Nat} {r0 n0 : Nat} {p1 : Int32} {p2 : Int32} {σ : Sg} {R : Sg} (hr0 : mnth mSh r0 = some (1, n0, [])) (h : f_X11_lay r0 n0 p1 p2 σ = some R) : mEv 0 131 [.ref r0, .int p1, .int p2] (mSh, L, σ) none (mSh, L, R) := by
  refine mEv.of (by decide) rfl rfl ?_
  unfold f_X11_lay at h
  refine mAt.blk bk_X11_lay_0 ck_X11_lay_0 ?_
  refine q_iload_n rfl ?_
  refine q_if_lt (fun c1 => ?_) (fun c1 => ?_)
  · rw [if_pos c1] at h
    refine mAt.blk bk_X11_lay_14 ck_X11_lay_14 ?_
    have h := Option.some.inj h
    subst h
    exact q_vret mcap_0 rfl rfl
  · rw [if_neg c1] at h
    refine q_iload_n rfl ?_
    refine q_aload_n rfl ?_
    refine q_alen (v := (Int32.ofNat n0)) rfl hr0 ?_
    refine q_ic_ge (fun c2 => ?_) (fun c2 => ?_)
    · rw [if_pos c2] at h
      refine mAt.blk bk_X11_lay_14 ck_X11_lay_14 ?_
      have h := Option.some.inj h
      subst h
      exact q_vret mcap_0 rfl rfl
    · rw [if_neg c2] at h
      refine q_aload_n rfl ?_
      refine q_iload_n rfl ?_
      refine q_iload_n rfl ?_
      obtain ⟨c3, h⟩ := mnone h
      refine q_iast rfl hr0 c3 ?_
      refine mAt.blk bk_X11_lay_14 ck_X11_lay_14 ?_
      have h := Option.some.inj h
      subst h
      exact q_vret mcap_0 rfl rfl
def bk_X11_pick_0 : List mI := [(.iload_n 1, 1, 0, 0, 0, []), (.ifCond .lt 15, 3, 16, 0, 0, []), (.iload_n 1, 1, 0, 0, 0, []), (.aload_n 0, 1, 0, 0, 0, []), (.arraylength, 1, 0, 0, 0, []), (.if_icmp .ge 9, 3, 16, 0, 0, []), (.aload_n 0, 1, 0, 0, 0, []), (.iload_n 1, 1, 0, 0, 0, []), (.iaload, 1, 0, 0, 0, []), (.goto 4, 3, 17, 0, 0, [])]
theorem ck_X11_pick_0 : mChk 130 0 bk_X11_pick_0 = true := by decide +kernel
def bk_X11_pick_16 : List mI := [(.iconst 0, 1, 0, 0, 0, [(0, 0)])]
theorem ck_X11_pick_16 : mChk 130 16 bk_X11_pick_16 = true := by decide +kernel
def bk_X11_pick_17 : List mI := [(.ireturn, 1, 0, 0, 0, [])]
theorem ck_X11_pick_17 : mChk 130 17 bk_X11_pick_17 = true := by decide +kernel
def f_X11_pick (r0 n0 : Nat) (p1 : Int32) (σ : Sg) : Option (Int32) := (if p1 < 0 then (some (0 : Int32)) else (if (Int32.ofNat n0) ≤ p1 then (some (0 : Int32)) else (if p1 < 0 ∨ n0 ≤ (p1).toNatClampNeg then none else (some (σ r0 (p1).toNatClampNeg)))))
set_option maxHeartbeats 4000000 in
theorem ok_X11_pick {L : Nat} {r0 n0 : Nat} {p1 : Int32} {σ : Sg} {R : Int32} (hr0 : ∀ L σ, mal (mSh, L, σ) r0 = some n0) (h : f_X11_pick r0 n0 p1 σ = some R) : mEv 0 130 [.ref r0, .int p1] (mSh, L, σ) (some (.int R)) (mSh, L, σ) := by
  refine mEv.of (by decide) rfl rfl ?_
  unfold f_X11_pick at h
  refine mAt.blk bk_X11_pick_0 ck_X11_pick_0 ?_
  refine q_iload_n rfl ?_
  refine q_if_lt (fun c1 => ?_) (fun c1 => ?_)
  · rw [if_pos c1] at h
    refine mAt.blk bk_X11_pick_16 ck_X11_pick_16 ?_
    refine q_iconst ?_
    refine mAt.blk bk_X11_pick_17 ck_X11_pick_17 ?_
    have h := Option.some.inj h
    subst h
    exact q_iretI mcap_0 rfl rfl
  · rw [if_neg c1] at h
    refine q_iload_n rfl ?_
    refine q_aload_n rfl ?_
    refine q_alenD (v := (Int32.ofNat n0)) rfl (hr0 _ _) ?_
    refine q_ic_ge (fun c2 => ?_) (fun c2 => ?_)
    · rw [if_pos c2] at h
      refine mAt.blk bk_X11_pick_16 ck_X11_pick_16 ?_
      refine q_iconst ?_
      refine mAt.blk bk_X11_pick_17 ck_X11_pick_17 ?_
      have h := Option.some.inj h
      subst h
      exact q_iretI mcap_0 rfl rfl
    · rw [if_neg c2] at h
      refine q_aload_n rfl ?_
      refine q_iload_n rfl ?_
      obtain ⟨c3, h⟩ := mnone h
      refine q_iald (hr0 _ _) rfl c3 ?_
      refine q_goto ?_
      refine mAt.blk bk_X11_pick_17 ck_X11_pick_17 ?_
      have h := Option.some.inj h
      subst h
      exact q_iretI mcap_0 rfl rfl
def bk_X9_daysOf_0 : List mI := [(.aload_n 0, 1, 0, 0, 0, []), (.getfield 15, 3, 9, 1, 187, []), (.iload_n 1, 1, 0, 0, 0, []), (.invokestatic 48, 3, 130, 0, 439, []), (.ireturn, 1, 0, 0, 0, [])]
theorem ck_X9_daysOf_0 : mChk 59 0 bk_X9_daysOf_0 = true := by decide +kernel
def f_X9_daysOf (a : Nat) (p0 : Int32) (σ : Sg) : Option (Int32) := ((f_X11_pick (a + 2) 9 p0 σ).bind fun q1 => (some q1))
set_option maxHeartbeats 4000000 in
theorem ok_X9_daysOf {L : Nat} {a : Nat} {p0 : Int32} {σ : Sg} {R : Int32} (ha : P9 a) (h : f_X9_daysOf a p0 σ = some R) : mEv 1 59 [.ref a, .int p0] (mSh, L, σ) (some (.int R)) (mSh, L, σ) := by
  refine mEv.of (by decide) rfl rfl ?_
  unfold f_X9_daysOf at h
  refine mAt.blk bk_X9_daysOf_0 ck_X9_daysOf_0 ?_
  refine q_aload_n rfl ?_
  refine q_getR (ha).1 rfl rfl ?_
  refine q_iload_n rfl ?_
  obtain ⟨q1, e1, h⟩ := mbind h
  refine q_sI2 mcap_0 rfl rfl rfl rfl (by decide) (ok_X11_pick (mrd (ha).2.2.1) e1) ?_
  have h := Option.some.inj h
  subst h
  exact q_iretI mcap_0 rfl rfl
def bk_X9_has_0 : List mI := [(.iload_n 1, 1, 0, 0, 0, []), (.ifCond .lt 15, 3, 16, 0, 0, []), (.iload_n 1, 1, 0, 0, 0, []), (.aload_n 0, 1, 0, 0, 0, []), (.getfield 28, 3, 9, 4, 195, []), (.if_icmp .ge 7, 3, 16, 0, 0, []), (.iconst 1, 1, 0, 0, 0, [(1, 0)]), (.goto 4, 3, 17, 0, 0, [])]
theorem ck_X9_has_0 : mChk 54 0 bk_X9_has_0 = true := by decide +kernel
def bk_X9_has_16 : List mI := [(.iconst 0, 1, 0, 0, 0, [(0, 0)])]
theorem ck_X9_has_16 : mChk 54 16 bk_X9_has_16 = true := by decide +kernel
def bk_X9_has_17 : List mI := [(.ireturn, 1, 0, 0, 0, [])]
theorem ck_X9_has_17 : mChk 54 17 bk_X9_has_17 = true := by decide +kernel
def f_X9_has (a : Nat) (p0 : Int32) (σ : Sg) : Option (Int32) := (if p0 < 0 then (some (0 : Int32)) else (if (σ a 4) ≤ p0 then (some (0 : Int32)) else (some (1 : Int32))))
set_option maxHeartbeats 4000000 in
theorem ok_X9_has {L : Nat} {a : Nat} {p0 : Int32} {σ : Sg} {R : Int32} (ha : P9 a) (h : f_X9_has a p0 σ = some R) : mEv 0 54 [.ref a, .int p0] (mSh, L, σ) (some (.int R)) (mSh, L, σ) := by
  refine mEv.of (by decide) rfl rfl ?_
  unfold f_X9_has at h
  refine mAt.blk bk_X9_has_0 ck_X9_has_0 ?_
  refine q_iload_n rfl ?_
  refine q_if_lt (fun c1 => ?_) (fun c1 => ?_)
  · rw [if_pos c1] at h
    refine mAt.blk bk_X9_has_16 ck_X9_has_16 ?_
    refine q_iconst ?_
    refine mAt.blk bk_X9_has_17 ck_X9_has_17 ?_
    have h := Option.some.inj h
    subst h
    exact q_iretZ mcap_0 rfl (by decide) rfl
  · rw [if_neg c1] at h
    refine q_iload_n rfl ?_
    refine q_aload_n rfl ?_
    refine q_getI (ha).1 rfl ?_
    refine q_ic_ge (fun c2 => ?_) (fun c2 => ?_)
    · rw [if_pos c2] at h
      refine mAt.blk bk_X9_has_16 ck_X9_has_16 ?_
      refine q_iconst ?_
      refine mAt.blk bk_X9_has_17 ck_X9_has_17 ?_
      have h := Option.some.inj h
      subst h
      exact q_iretZ mcap_0 rfl (by decide) rfl
    · rw [if_neg c2] at h
      refine q_iconst ?_
      refine q_goto ?_
      refine mAt.blk bk_X9_has_17 ck_X9_has_17 ?_
      have h := Option.some.inj h
      subst h
      exact q_iretZ mcap_0 rfl (by decide) rfl
def bk_X9_leadsTo_0 : List mI := [(.aload_n 0, 1, 0, 0, 0, []), (.iload_n 1, 1, 0, 0, 0, []), (.invokevirtual 40, 3, 54, 0, 431, []), (.ifCond .eq 14, 3, 19, 0, 0, []), (.aload_n 0, 1, 0, 0, 0, []), (.getfield 9, 3, 9, 0, 186, []), (.iload_n 1, 1, 0, 0, 0, []), (.invokestatic 48, 3, 130, 0, 439, []), (.goto 4, 3, 20, 0, 0, [])]
theorem ck_X9_leadsTo_0 : mChk 58 0 bk_X9_leadsTo_0 = true := by decide +kernel
def bk_X9_leadsTo_19 : List mI := [(.iconst (-1), 1, 0, 0, 0, [((-1), 0)])]
theorem ck_X9_leadsTo_19 : mChk 58 19 bk_X9_leadsTo_19 = true := by decide +kernel
def bk_X9_leadsTo_20 : List mI := [(.ireturn, 1, 0, 0, 0, [])]
theorem ck_X9_leadsTo_20 : mChk 58 20 bk_X9_leadsTo_20 = true := by decide +kernel
def f_X9_leadsTo (a : Nat) (p0 : Int32) (σ : Sg) : Option (Int32) := ((f_X9_has a p0 σ).bind fun q1 => (if q1 = 0 then (some (-1 : Int32)) else ((f_X11_pick (a + 1) 9 p0 σ).bind fun q3 => (some q3))))
set_option maxHeartbeats 4000000 in
theorem ok_X9_leadsTo {L : Nat} {a : Nat} {p0 : Int32} {σ : Sg} {R : Int32} (ha : P9 a) (h : f_X9_leadsTo a p0 σ = some R) : mEv 1 58 [.ref a, .int p0] (mSh, L, σ) (some (.int R)) (mSh, L, σ) := by
  refine mEv.of (by decide) rfl rfl ?_
  unfold f_X9_leadsTo at h
  refine mAt.blk bk_X9_leadsTo_0 ck_X9_leadsTo_0 ?_
  refine q_aload_n rfl ?_
  refine q_iload_n rfl ?_
  obtain ⟨q1, e1, h⟩ := mbind h
  refine q_vI1 mcap_0 rfl rfl (ha).1 rfl (by decide) (ok_X9_has ha e1) ?_
  refine q_if_eq (fun c2 => ?_) (fun c2 => ?_)
  · rw [if_pos c2] at h
    refine mAt.blk bk_X9_leadsTo_19 ck_X9_leadsTo_19 ?_
    refine q_iconst ?_
    refine mAt.blk bk_X9_leadsTo_20 ck_X9_leadsTo_20 ?_
    have h := Option.some.inj h
    subst h
    exact q_iretI mcap_0 rfl rfl
  · rw [if_neg c2] at h
    refine q_aload_n rfl ?_
    refine q_getR (ha).1 rfl rfl ?_
    refine q_iload_n rfl ?_
    obtain ⟨q3, e3, h⟩ := mbind h
    refine q_sI2 mcap_0 rfl rfl rfl rfl (by decide) (ok_X11_pick (mrd (ha).2.1) e3) ?_
    refine q_goto ?_
    refine mAt.blk bk_X9_leadsTo_20 ck_X9_leadsTo_20 ?_
    have h := Option.some.inj h
    subst h
    exact q_iretI mcap_0 rfl rfl
def bk_X9_placeOn_0 : List mI := [(.iload_n 1, 1, 0, 0, 0, []), (.istore_n 3, 1, 0, 0, 0, []), (.iconst 0, 1, 0, 0, 0, [(0, 0)]), (.istore 4, 2, 0, 0, 0, []), (.iconst 0, 1, 0, 0, 0, [(0, 0)]), (.istore 5, 2, 0, 0, 0, [])]
theorem ck_X9_placeOn_0 : mChk 60 0 bk_X9_placeOn_0 = true := by decide +kernel
def bk_X9_placeOn_8 : List mI := [(.iload 5, 2, 0, 0, 0, []), (.iload_n 2, 1, 0, 0, 0, []), (.if_icmp .ge 41, 3, 52, 0, 0, []), (.iload 4, 2, 0, 0, 0, []), (.iload_n 2, 1, 0, 0, 0, []), (.if_icmp .ge 35, 3, 52, 0, 0, []), (.aload_n 0, 1, 0, 0, 0, []), (.iload_n 3, 1, 0, 0, 0, []), (.invokevirtual 40, 3, 54, 0, 431, []), (.ifCond .ne 5, 3, 30, 0, 0, []), (.iconst (-1), 1, 0, 0, 0, [((-1), 0)]), (.ireturn, 1, 0, 0, 0, [])]
theorem ck_X9_placeOn_8 : mChk 60 8 bk_X9_placeOn_8 = true := by decide +kernel
def bk_X9_placeOn_30 : List mI := [(.iload 4, 2, 0, 0, 0, []), (.aload_n 0, 1, 0, 0, 0, []), (.iload_n 3, 1, 0, 0, 0, []), (.invokevirtual 52, 3, 59, 0, 729, []), (.iadd, 1, 0, 0, 0, []), (.istore 4, 2, 0, 0, 0, []), (.aload_n 0, 1, 0, 0, 0, []), (.iload_n 3, 1, 0, 0, 0, []), (.invokevirtual 56, 3, 58, 0, 728, []), (.istore_n 3, 1, 0, 0, 0, []), (.iinc 5 1, 3, 0, 0, 0, [(1, 0)]), (.goto (-41), 3, 8, 0, 0, [])]
theorem ck_X9_placeOn_30 : mChk 60 30 bk_X9_placeOn_30 = true := by decide +kernel
def bk_X9_placeOn_52 : List mI := [(.iload 4, 2, 0, 0, 0, []), (.iload_n 2, 1, 0, 0, 0, []), (.if_icmp .ne 7, 3, 62, 0, 0, []), (.iload_n 3, 1, 0, 0, 0, []), (.goto 4, 3, 63, 0, 0, [])]
theorem ck_X9_placeOn_52 : mChk 60 52 bk_X9_placeOn_52 = true := by decide +kernel
def bk_X9_placeOn_62 : List mI := [(.iconst (-1), 1, 0, 0, 0, [((-1), 0)])]
theorem ck_X9_placeOn_62 : mChk 60 62 bk_X9_placeOn_62 = true := by decide +kernel
def bk_X9_placeOn_63 : List mI := [(.ireturn, 1, 0, 0, 0, [])]
theorem ck_X9_placeOn_63 : mChk 60 63 bk_X9_placeOn_63 = true := by decide +kernel
def c_X9_placeOn_52 (a : Nat) (σ : Sg) (x2 : Int32) (x3 : Int32) (x4 : Int32) : Option (Int32) := (if x4 = x2 then (some x3) else (some (-1 : Int32)))
set_option maxHeartbeats 4000000 in
theorem okc_X9_placeOn_52 {L : Nat} {a : Nat} {σ : Sg} {R : Int32} (ha : P9 a) {x2 : Int32} {x3 : Int32} {x4 : Int32} {pl : mLoc} (h : c_X9_placeOn_52 a σ x2 x3 x4 = some R) (hl : mlf [none, none, some (.int x2), some (.int x3), some (.int x4), none] pl) : mAt 2 60 (some (.int R), (mSh, L, σ)) 52 pl [] (mSh, L, σ) 0 0 := by
  refine mAt.less hl ?_
  unfold c_X9_placeOn_52 at h
  refine mAt.blk bk_X9_placeOn_52 ck_X9_placeOn_52 ?_
  refine q_iload rfl ?_
  refine q_iload_n rfl ?_
  refine q_ic_ne (fun c7 => ?_) (fun c7 => ?_)
  · rw [if_pos c7] at h
    refine q_iload_n rfl ?_
    refine q_goto ?_
    refine mAt.blk bk_X9_placeOn_63 ck_X9_placeOn_63 ?_
    have h := Option.some.inj h
    subst h
    exact q_iretI mcap_0 rfl rfl
  · rw [if_neg c7] at h
    refine mAt.blk bk_X9_placeOn_62 ck_X9_placeOn_62 ?_
    refine q_iconst ?_
    refine mAt.blk bk_X9_placeOn_63 ck_X9_placeOn_63 ?_
    have h := Option.some.inj h
    subst h
    exact q_iretI mcap_0 rfl rfl
def c_X9_placeOn_8 (a : Nat) (σ : Sg) : Nat → Int32 → Int32 → Int32 → Int32 → Option (Int32)
  | 0, _, _, _, _ => none
  | n + 1, x2, x3, x4, x5 => (if x2 ≤ x5 then (c_X9_placeOn_52  a σ x2 x3 x4) else (if x2 ≤ x4 then (c_X9_placeOn_52  a σ x2 x3 x4) else ((f_X9_has a x3 σ).bind fun q3 => (if q3 = 0 then (some (-1 : Int32)) else ((f_X9_daysOf a x3 σ).bind fun q5 => ((f_X9_leadsTo a x3 σ).bind fun q6 => (c_X9_placeOn_8 a σ n x2 q6 (x4 + q5) (x5 + (1 : Int32)))))))))
set_option maxHeartbeats 4000000 in
theorem okc_X9_placeOn_8 {L : Nat} {a : Nat} {σ : Sg} {R : Int32} (ha : P9 a) {n : Nat} {x2 : Int32} {x3 : Int32} {x4 : Int32} {x5 : Int32} {pl : mLoc} (h : c_X9_placeOn_8 a σ n x2 x3 x4 x5 = some R) (hl : mlf [some (.ref a), none, some (.int x2), some (.int x3), some (.int x4), some (.int x5)] pl) : mAt 2 60 (some (.int R), (mSh, L, σ)) 8 pl [] (mSh, L, σ) 0 0 := by
  induction n generalizing x2 x3 x4 x5 pl with
  | zero =>
    rw [c_X9_placeOn_8.eq_1] at h
    cases h
  | succ n ih =>
    refine mAt.less hl ?_
    rw [c_X9_placeOn_8.eq_2] at h
    refine mAt.blk bk_X9_placeOn_8 ck_X9_placeOn_8 ?_
    refine q_iload rfl ?_
    refine q_iload_n rfl ?_
    refine q_ic_ge (fun c1 => ?_) (fun c1 => ?_)
    · rw [if_pos c1] at h
      exact okc_X9_placeOn_52 ha h ⟨rfl, rfl, rfl, trivial⟩
    · rw [if_neg c1] at h
      refine q_iload rfl ?_
      refine q_iload_n rfl ?_
      refine q_ic_ge (fun c2 => ?_) (fun c2 => ?_)
      · rw [if_pos c2] at h
        exact okc_X9_placeOn_52 ha h ⟨rfl, rfl, rfl, trivial⟩
      · rw [if_neg c2] at h
        refine q_aload_n rfl ?_
        refine q_iload_n rfl ?_
        obtain ⟨q3, e3, h⟩ := mbind h
        refine q_vI1 mcap_0 rfl rfl (ha).1 rfl (by decide) (ok_X9_has ha e3) ?_
        refine q_if_ne (fun c4 => ?_) (fun c4 => ?_)
        · rw [if_pos c4] at h
          refine q_iconst ?_
          have h := Option.some.inj h
          subst h
          exact q_iretI mcap_0 rfl rfl
        · rw [if_neg c4] at h
          refine mAt.blk bk_X9_placeOn_30 ck_X9_placeOn_30 ?_
          refine q_iload rfl ?_
          refine q_aload_n rfl ?_
          refine q_iload_n rfl ?_
          obtain ⟨q5, e5, h⟩ := mbind h
          refine q_vI1 mcap_0 rfl rfl (ha).1 rfl (by decide) (ok_X9_daysOf ha e5) ?_
          refine q_iadd ?_
          refine q_istore rfl rfl ?_
          refine q_aload_n rfl ?_
          refine q_iload_n rfl ?_
          obtain ⟨q6, e6, h⟩ := mbind h
          refine q_vI1 mcap_0 rfl rfl (ha).1 rfl (by decide) (ok_X9_leadsTo ha e6) ?_
          refine q_istore_n rfl rfl ?_
          refine q_iinc rfl rfl ?_
          refine q_goto ?_
          exact ih  h ⟨rfl, rfl, rfl, rfl, rfl, trivial⟩
def f_X9_placeOn (a : Nat) (p0 : Int32) (p1 : Int32) (σ : Sg) : Option (Int32) := (c_X9_placeOn_8  a σ 1000 p1 p0 (0 : Int32) (0 : Int32))
set_option maxHeartbeats 4000000 in
theorem ok_X9_placeOn {L : Nat} {a : Nat} {p0 : Int32} {p1 : Int32} {σ : Sg} {R : Int32} (ha : P9 a) (h : f_X9_placeOn a p0 p1 σ = some R) : mEv 2 60 [.ref a, .int p0, .int p1] (mSh, L, σ) (some (.int R)) (mSh, L, σ) := by
  refine mEv.of (by decide) rfl rfl ?_
  unfold f_X9_placeOn at h
  refine mAt.blk bk_X9_placeOn_0 ck_X9_placeOn_0 ?_
  refine q_iload_n rfl ?_
  refine q_istore_n rfl rfl ?_
  refine q_iconst ?_
  refine q_istore rfl rfl ?_
  refine q_iconst ?_
  refine q_istore rfl rfl ?_
  exact okc_X9_placeOn_8 ha h ⟨rfl, rfl, rfl, rfl, rfl, trivial⟩
def bk_X0_note_0 : List mI := [(.aload_n 0, 1, 0, 0, 0, []), (.getfield 22, 3, 0, 2, 300, []), (.ifCond .ne 13, 3, 17, 0, 0, []), (.aload_n 0, 1, 0, 0, 0, []), (.bipush 10, 2, 0, 0, 0, [(10, 0)]), (.iload_n 1, 1, 0, 0, 0, []), (.imul, 1, 0, 0, 0, []), (.iload_n 2, 1, 0, 0, 0, []), (.iadd, 1, 0, 0, 0, []), (.putfield 26, 3, 0, 3, 302, [])]
theorem ck_X0_note_0 : mChk 2 0 bk_X0_note_0 = true := by decide +kernel
def bk_X0_note_17 : List mI := [(.aload_n 0, 1, 0, 0, 0, []), (.dup, 1, 0, 0, 0, []), (.getfield 22, 3, 0, 2, 300, []), (.iconst 1, 1, 0, 0, 0, [(1, 0)]), (.iadd, 1, 0, 0, 0, []), (.putfield 22, 3, 0, 2, 300, []), (.aload_n 0, 1, 0, 0, 0, []), (.dup, 1, 0, 0, 0, []), (.getfield 29, 3, 0, 4, 304, []), (.iconst 1, 1, 0, 0, 0, [(1, 0)]), (.iload_n 1, 1, 0, 0, 0, []), (.ishl, 1, 0, 0, 0, []), (.ior, 1, 0, 0, 0, []), (.putfield 29, 3, 0, 4, 304, []), (.iconst 0, 1, 0, 0, 0, [(0, 0)]), (.istore 4, 2, 0, 0, 0, [])]
theorem ck_X0_note_17 : mChk 2 17 bk_X0_note_17 = true := by decide +kernel
def bk_X0_note_42 : List mI := [(.iload 4, 2, 0, 0, 0, []), (.aload_n 0, 1, 0, 0, 0, []), (.getfield 12, 3, 0, 0, 298, []), (.getfield 36, 3, 9, 4, 196, []), (.if_icmp .ge 58, 3, 109, 0, 0, []), (.aload_n 0, 1, 0, 0, 0, []), (.getfield 12, 3, 0, 0, 298, []), (.iload 4, 2, 0, 0, 0, []), (.iload_n 3, 1, 0, 0, 0, []), (.invokevirtual 52, 3, 60, 0, 813, []), (.istore 5, 2, 0, 0, 0, []), (.iload 5, 2, 0, 0, 0, []), (.ifCond .ge 8, 3, 76, 0, 0, []), (.bipush 9, 2, 0, 0, 0, [(9, 0)]), (.goto 5, 3, 78, 0, 0, [])]
theorem ck_X0_note_42 : mChk 2 42 bk_X0_note_42 = true := by decide +kernel
def bk_X0_note_76 : List mI := [(.iload 5, 2, 0, 0, 0, [])]
theorem ck_X0_note_76 : mChk 2 76 bk_X0_note_76 = true := by decide +kernel
def bk_X0_note_78 : List mI := [(.istore 6, 2, 0, 0, 0, []), (.aload_n 0, 1, 0, 0, 0, []), (.getfield 18, 3, 0, 1, 299, []), (.iload 4, 2, 0, 0, 0, []), (.aload_n 0, 1, 0, 0, 0, []), (.getfield 18, 3, 0, 1, 299, []), (.iload 4, 2, 0, 0, 0, []), (.invokestatic 56, 3, 130, 0, 814, []), (.iconst 1, 1, 0, 0, 0, [(1, 0)]), (.iload 6, 2, 0, 0, 0, []), (.ishl, 1, 0, 0, 0, []), (.ior, 1, 0, 0, 0, []), (.invokestatic 60, 3, 131, 0, 815, []), (.iinc 4 1, 3, 0, 0, 0, [(1, 0)]), (.goto (-64), 3, 42, 0, 0, [])]
theorem ck_X0_note_78 : mChk 2 78 bk_X0_note_78 = true := by decide +kernel
def bk_X0_note_109 : List mI := [(.return_, 1, 0, 0, 0, [])]
theorem ck_X0_note_109 : mChk 2 109 bk_X0_note_109 = true := by decide +kernel
def c_X0_note_78 (k42 : Int32 → Int32 → Sg → Option (Sg)) (x3 : Int32) (x4 : Int32) (s0 : Int32) (σ : Sg) : Option (Sg) := ((f_X11_pick 80 9 x4 σ).bind fun q4 => ((f_X11_lay 80 9 x4 (q4 ||| ((1 : Int32) <<< (s0 &&& 31))) σ).bind fun q5 => (k42 x3 (x4 + (1 : Int32)) q5)))
set_option maxHeartbeats 4000000 in
theorem okc_X0_note_78 {L : Nat} {k42 : Int32 → Int32 → Sg → Option (Sg)} {R : Sg} (Hk42 : ∀ (x3 : Int32) (x4 : Int32) (σ : Sg) (pl : mLoc), k42 x3 x4 σ = some R → mlf [some (.ref 74), none, none, some (.int x3), some (.int x4), none, none] pl → mAt 3 2 (none, (mSh, L, R)) 42 pl [] (mSh, L, σ) 0 0) {x3 : Int32} {x4 : Int32} {s0 : Int32} {σ : Sg} {pl : mLoc} (h : c_X0_note_78 k42 x3 x4 s0 σ = some R) (hl : mlf [some (.ref 74), none, none, some (.int x3), some (.int x4), none, none] pl) : mAt 3 2 (none, (mSh, L, R)) 78 pl [.int s0] (mSh, L, σ) 0 0 := by
  refine mAt.less hl ?_
  unfold c_X0_note_78 at h
  refine mAt.blk bk_X0_note_78 ck_X0_note_78 ?_
  refine q_istore rfl rfl ?_
  refine q_aload_n rfl ?_
  refine q_getR ob_74 rfl rfl ?_
  refine q_iload rfl ?_
  refine q_aload_n rfl ?_
  refine q_getR ob_74 rfl rfl ?_
  refine q_iload rfl ?_
  obtain ⟨q4, e4, h⟩ := mbind h
  refine q_sI2 mcap_0 rfl rfl rfl rfl (by decide) (ok_X11_pick (mrd ar_80) e4) ?_
  refine q_iconst ?_
  refine q_iload rfl ?_
  refine q_ishl ?_
  refine q_ior ?_
  obtain ⟨q5, e5, h⟩ := mbind h
  refine q_sV3 mcap_0 rfl rfl rfl rfl (by decide) (ok_X11_lay ar_80 e5) ?_
  refine q_iinc rfl rfl ?_
  refine q_goto ?_
  exact Hk42 _ _ _ _  h ⟨rfl, rfl, rfl, trivial⟩
def c_X0_note_42 : Nat → Int32 → Int32 → Sg → Option (Sg)
  | 0, _, _, _ => none
  | n + 1, x3, x4, σ => (if (σ 75 4) ≤ x4 then (some σ) else ((f_X9_placeOn 75 x4 x3 σ).bind fun q2 => (if 0 ≤ q2 then (c_X0_note_78 (c_X0_note_42  n)  x3 x4 q2 σ) else (c_X0_note_78 (c_X0_note_42  n)  x3 x4 (9 : Int32) σ))))
set_option maxHeartbeats 4000000 in
theorem okc_X0_note_42 {L : Nat} {R : Sg} {n : Nat} {x3 : Int32} {x4 : Int32} {σ : Sg} {pl : mLoc} (h : c_X0_note_42 n x3 x4 σ = some R) (hl : mlf [some (.ref 74), none, none, some (.int x3), some (.int x4), none, none] pl) : mAt 3 2 (none, (mSh, L, R)) 42 pl [] (mSh, L, σ) 0 0 := by
  induction n generalizing x3 x4 σ pl with
  | zero =>
    rw [c_X0_note_42.eq_1] at h
    cases h
  | succ n ih =>
    refine mAt.less hl ?_
    rw [c_X0_note_42.eq_2] at h
    refine mAt.blk bk_X0_note_42 ck_X0_note_42 ?_
    refine q_iload rfl ?_
    refine q_aload_n rfl ?_
    refine q_getR ob_74 rfl rfl ?_
    refine q_getI ob_75 rfl ?_
    refine q_ic_ge (fun c1 => ?_) (fun c1 => ?_)
    · rw [if_pos c1] at h
      refine mAt.blk bk_X0_note_109 ck_X0_note_109 ?_
      have h := Option.some.inj h
      subst h
      exact q_vret mcap_0 rfl rfl
    · rw [if_neg c1] at h
      refine q_aload_n rfl ?_
      refine q_getR ob_74 rfl rfl ?_
      refine q_iload rfl ?_
      refine q_iload_n rfl ?_
      obtain ⟨q2, e2, h⟩ := mbind h
      refine q_vI2 mcap_0 rfl rfl ob_75 rfl (by decide) (ok_X9_placeOn p9_75 e2) ?_
      refine q_istore rfl rfl ?_
      refine q_iload rfl ?_
      refine q_if_ge (fun c3 => ?_) (fun c3 => ?_)
      · rw [if_pos c3] at h
        refine mAt.blk bk_X0_note_76 ck_X0_note_76 ?_
        refine q_iload rfl ?_
        exact okc_X0_note_78 (fun _ _ _ _ e hl => ih  e hl) h ⟨rfl, rfl, rfl, trivial⟩
      · rw [if_neg c3] at h
        refine q_bipush ?_
        refine q_goto ?_
        exact okc_X0_note_78 (fun _ _ _ _ e hl => ih  e hl) h ⟨rfl, rfl, rfl, trivial⟩
def c_X0_note_17 (x1 : Int32) (x3 : Int32) (σ : Sg) : Option (Sg) := (c_X0_note_42   1000 x3 (0 : Int32) (mup (mup σ 74 2 ((σ 74 2) + (1 : Int32))) 74 4 (((mup σ 74 2 ((σ 74 2) + (1 : Int32))) 74 4) ||| ((1 : Int32) <<< (x1 &&& 31)))))
set_option maxHeartbeats 4000000 in
theorem okc_X0_note_17 {L : Nat} {R : Sg} {x1 : Int32} {x3 : Int32} {σ : Sg} {pl : mLoc} (h : c_X0_note_17 x1 x3 σ = some R) (hl : mlf [some (.ref 74), some (.int x1), none, some (.int x3), none, none, none] pl) : mAt 3 2 (none, (mSh, L, R)) 17 pl [] (mSh, L, σ) 0 0 := by
  refine mAt.less hl ?_
  unfold c_X0_note_17 at h
  refine mAt.blk bk_X0_note_17 ck_X0_note_17 ?_
  refine q_aload_n rfl ?_
  refine q_dupR ?_
  refine q_getI ob_74 rfl ?_
  refine q_iconst ?_
  refine q_iadd ?_
  refine q_putI ob_74 rfl ?_
  refine q_aload_n rfl ?_
  refine q_dupR ?_
  refine q_getI ob_74 rfl ?_
  refine q_iconst ?_
  refine q_iload_n rfl ?_
  refine q_ishl ?_
  refine q_ior ?_
  refine q_putI ob_74 rfl ?_
  refine q_iconst ?_
  refine q_istore rfl rfl ?_
  exact okc_X0_note_42  h ⟨rfl, rfl, rfl, trivial⟩
def f_X0_note (p0 : Int32) (p1 : Int32) (p2 : Int32) (σ : Sg) : Option (Sg) := (if (σ 74 2) = 0 then (c_X0_note_17   p0 p2 (mup σ 74 3 (((10 : Int32) * p0) + p1))) else (c_X0_note_17   p0 p2 σ))
set_option maxHeartbeats 4000000 in
theorem ok_X0_note {L : Nat} {p0 : Int32} {p1 : Int32} {p2 : Int32} {σ : Sg} {R : Sg} (h : f_X0_note p0 p1 p2 σ = some R) : mEv 3 2 [.ref 74, .int p0, .int p1, .int p2] (mSh, L, σ) none (mSh, L, R) := by
  refine mEv.of (by decide) rfl rfl ?_
  unfold f_X0_note at h
  refine mAt.blk bk_X0_note_0 ck_X0_note_0 ?_
  refine q_aload_n rfl ?_
  refine q_getI ob_74 rfl ?_
  refine q_if_ne (fun c6 => ?_) (fun c6 => ?_)
  · rw [if_pos c6] at h
    refine q_aload_n rfl ?_
    refine q_bipush ?_
    refine q_iload_n rfl ?_
    refine q_imul ?_
    refine q_iload_n rfl ?_
    refine q_iadd ?_
    refine q_putI ob_74 rfl ?_
    exact okc_X0_note_17  h ⟨rfl, rfl, rfl, trivial⟩
  · rw [if_neg c6] at h
    exact okc_X0_note_17  h ⟨rfl, rfl, rfl, trivial⟩
def bk_X2_isSo_0 : List mI := [(.aload_n 2, 1, 0, 0, 0, []), (.aload_n 0, 1, 0, 0, 0, []), (.getfield 9, 3, 2, 0, 96, []), (.iload_n 1, 1, 0, 0, 0, []), (.invokestatic 33, 3, 130, 0, 789, []), (.aload_n 0, 1, 0, 0, 0, []), (.getfield 18, 3, 2, 2, 98, []), (.iload_n 1, 1, 0, 0, 0, []), (.invokestatic 33, 3, 130, 0, 789, []), (.invokevirtual 37, 3, 60, 0, 790, []), (.aload_n 0, 1, 0, 0, 0, []), (.getfield 15, 3, 2, 1, 97, []), (.iload_n 1, 1, 0, 0, 0, []), (.invokestatic 33, 3, 130, 0, 789, []), (.if_icmp .ne 7, 3, 35, 0, 0, []), (.iconst 1, 1, 0, 0, 0, [(1, 0)]), (.goto 4, 3, 36, 0, 0, [])]
theorem ck_X2_isSo_0 : mChk 11 0 bk_X2_isSo_0 = true := by decide +kernel
def bk_X2_isSo_35 : List mI := [(.iconst 0, 1, 0, 0, 0, [(0, 0)])]
theorem ck_X2_isSo_35 : mChk 11 35 bk_X2_isSo_35 = true := by decide +kernel
def bk_X2_isSo_36 : List mI := [(.ireturn, 1, 0, 0, 0, [])]
theorem ck_X2_isSo_36 : mChk 11 36 bk_X2_isSo_36 = true := by decide +kernel
def f_X2_isSo (a r1 : Nat) (p0 : Int32) (σ : Sg) : Option (Int32) := ((f_X11_pick (a + 1) 12 p0 σ).bind fun q1 => ((f_X11_pick (a + 3) 12 p0 σ).bind fun q2 => ((f_X9_placeOn r1 q1 q2 σ).bind fun q3 => ((f_X11_pick (a + 2) 12 p0 σ).bind fun q4 => (if q3 = q4 then (some (1 : Int32)) else (some (0 : Int32)))))))
set_option maxHeartbeats 4000000 in
theorem ok_X2_isSo {L : Nat} {a r1 : Nat} {p0 : Int32} {σ : Sg} {R : Int32} (ha : P2 a) (hr1 : P9 r1) (h : f_X2_isSo a r1 p0 σ = some R) : mEv 3 11 [.ref a, .int p0, .ref r1] (mSh, L, σ) (some (.int R)) (mSh, L, σ) := by
  refine mEv.of (by decide) rfl rfl ?_
  unfold f_X2_isSo at h
  refine mAt.blk bk_X2_isSo_0 ck_X2_isSo_0 ?_
  refine q_aload_n rfl ?_
  refine q_aload_n rfl ?_
  refine q_getR (ha).1 rfl rfl ?_
  refine q_iload_n rfl ?_
  obtain ⟨q1, e1, h⟩ := mbind h
  refine q_sI2 mcap_0 rfl rfl rfl rfl (by decide) (ok_X11_pick (mrd (ha).2.1) e1) ?_
  refine q_aload_n rfl ?_
  refine q_getR (ha).1 rfl rfl ?_
  refine q_iload_n rfl ?_
  obtain ⟨q2, e2, h⟩ := mbind h
  refine q_sI2 mcap_0 rfl rfl rfl rfl (by decide) (ok_X11_pick (mrd (ha).2.2.2) e2) ?_
  obtain ⟨q3, e3, h⟩ := mbind h
  refine q_vI2 mcap_0 rfl rfl (hr1).1 rfl (by decide) (ok_X9_placeOn hr1 e3) ?_
  refine q_aload_n rfl ?_
  refine q_getR (ha).1 rfl rfl ?_
  refine q_iload_n rfl ?_
  obtain ⟨q4, e4, h⟩ := mbind h
  refine q_sI2 mcap_0 rfl rfl rfl rfl (by decide) (ok_X11_pick (mrd (ha).2.2.1) e4) ?_
  refine q_ic_ne (fun c5 => ?_) (fun c5 => ?_)
  · rw [if_pos c5] at h
    refine q_iconst ?_
    refine q_goto ?_
    refine mAt.blk bk_X2_isSo_36 ck_X2_isSo_36 ?_
    have h := Option.some.inj h
    subst h
    exact q_iretZ mcap_0 rfl (by decide) rfl
  · rw [if_neg c5] at h
    refine mAt.blk bk_X2_isSo_35 ck_X2_isSo_35 ?_
    refine q_iconst ?_
    refine mAt.blk bk_X2_isSo_36 ck_X2_isSo_36 ?_
    have h := Option.some.inj h
    subst h
    exact q_iretZ mcap_0 rfl (by decide) rfl
def bk_X2_allSo_0 : List mI := [(.iconst 0, 1, 0, 0, 0, [(0, 0)]), (.istore_n 2, 1, 0, 0, 0, [])]
theorem ck_X2_allSo_0 : mChk 12 0 bk_X2_allSo_0 = true := by decide +kernel
def bk_X2_allSo_2 : List mI := [(.iload_n 2, 1, 0, 0, 0, []), (.aload_n 0, 1, 0, 0, 0, []), (.getfield 25, 3, 2, 3, 99, []), (.if_icmp .ge 20, 3, 27, 0, 0, []), (.aload_n 0, 1, 0, 0, 0, []), (.iload_n 2, 1, 0, 0, 0, []), (.aload_n 1, 1, 0, 0, 0, []), (.invokevirtual 43, 3, 11, 0, 808, []), (.ifCond .ne 5, 3, 21, 0, 0, []), (.iconst 0, 1, 0, 0, 0, [(0, 0)]), (.ireturn, 1, 0, 0, 0, [])]
theorem ck_X2_allSo_2 : mChk 12 2 bk_X2_allSo_2 = true := by decide +kernel
def bk_X2_allSo_21 : List mI := [(.iinc 2 1, 3, 0, 0, 0, [(1, 0)]), (.goto (-22), 3, 2, 0, 0, [])]
theorem ck_X2_allSo_21 : mChk 12 21 bk_X2_allSo_21 = true := by decide +kernel
def bk_X2_allSo_27 : List mI := [(.iconst 1, 1, 0, 0, 0, [(1, 0)]), (.ireturn, 1, 0, 0, 0, [])]
theorem ck_X2_allSo_27 : mChk 12 27 bk_X2_allSo_27 = true := by decide +kernel
def c_X2_allSo_2 (a r0 : Nat) (σ : Sg) : Nat → Int32 → Option (Int32)
  | 0, _ => none
  | n + 1, x2 => (if (σ a 3) ≤ x2 then (some (1 : Int32)) else ((f_X2_isSo a r0 x2 σ).bind fun q2 => (if q2 = 0 then (some (0 : Int32)) else (c_X2_allSo_2 a r0 σ n (x2 + (1 : Int32))))))
set_option maxHeartbeats 4000000 in
theorem okc_X2_allSo_2 {L : Nat} {a r0 : Nat} {σ : Sg} {R : Int32} (ha : P2 a) (hr0 : P9 r0) {n : Nat} {x2 : Int32} {pl : mLoc} (h : c_X2_allSo_2 a r0 σ n x2 = some R) (hl : mlf [some (.ref a), some (.ref r0), some (.int x2)] pl) : mAt 4 12 (some (.int R), (mSh, L, σ)) 2 pl [] (mSh, L, σ) 0 0 := by
  induction n generalizing x2 pl with
  | zero =>
    rw [c_X2_allSo_2.eq_1] at h
    cases h
  | succ n ih =>
    refine mAt.less hl ?_
    rw [c_X2_allSo_2.eq_2] at h
    refine mAt.blk bk_X2_allSo_2 ck_X2_allSo_2 ?_
    refine q_iload_n rfl ?_
    refine q_aload_n rfl ?_
    refine q_getI (ha).1 rfl ?_
    refine q_ic_ge (fun c1 => ?_) (fun c1 => ?_)
    · rw [if_pos c1] at h
      refine mAt.blk bk_X2_allSo_27 ck_X2_allSo_27 ?_
      refine q_iconst ?_
      have h := Option.some.inj h
      subst h
      exact q_iretZ mcap_0 rfl (by decide) rfl
    · rw [if_neg c1] at h
      refine q_aload_n rfl ?_
      refine q_iload_n rfl ?_
      refine q_aload_n rfl ?_
      obtain ⟨q2, e2, h⟩ := mbind h
      refine q_vI2 mcap_0 rfl rfl (ha).1 rfl (by decide) (ok_X2_isSo ha hr0 e2) ?_
      refine q_if_ne (fun c3 => ?_) (fun c3 => ?_)
      · rw [if_pos c3] at h
        refine q_iconst ?_
        have h := Option.some.inj h
        subst h
        exact q_iretZ mcap_0 rfl (by decide) rfl
      · rw [if_neg c3] at h
        refine mAt.blk bk_X2_allSo_21 ck_X2_allSo_21 ?_
        refine q_iinc rfl rfl ?_
        refine q_goto ?_
        exact ih  h ⟨rfl, rfl, rfl, trivial⟩
def f_X2_allSo (a r0 : Nat) (σ : Sg) : Option (Int32) := (c_X2_allSo_2  a r0 σ 1000 (0 : Int32))
set_option maxHeartbeats 4000000 in
theorem ok_X2_allSo {L : Nat} {a r0 : Nat} {σ : Sg} {R : Int32} (ha : P2 a) (hr0 : P9 r0) (h : f_X2_allSo a r0 σ = some R) : mEv 4 12 [.ref a, .ref r0] (mSh, L, σ) (some (.int R)) (mSh, L, σ) := by
  refine mEv.of (by decide) rfl rfl ?_
  unfold f_X2_allSo at h
  refine mAt.blk bk_X2_allSo_0 ck_X2_allSo_0 ?_
  refine q_iconst ?_
  refine q_istore_n rfl rfl ?_
  exact okc_X2_allSo_2 ha hr0 h ⟨rfl, rfl, rfl, trivial⟩
def bk_X11_copyRow_0 : List mI := [(.aload_n 0, 1, 0, 0, 0, []), (.iconst 0, 1, 0, 0, 0, [(0, 0)]), (.aload_n 1, 1, 0, 0, 0, []), (.iconst 0, 1, 0, 0, 0, [(0, 0)]), (.aload_n 0, 1, 0, 0, 0, []), (.arraylength, 1, 0, 0, 0, []), (.aload_n 1, 1, 0, 0, 0, []), (.arraylength, 1, 0, 0, 0, []), (.invokestatic 330, 3, 997, 0, 640, []), (.invokestatic 307, 3, 998, 0, 641, []), (.return_, 1, 0, 0, 0, [])]
theorem ck_X11_copyRow_0 : mChk 132 0 bk_X11_copyRow_0 = true := by decide +kernel
def f_X11_copyRow (r0 n0 r1 n1 : Nat) (σ : Sg) : Option (Sg) := (if (0 : Int32) < 0 ∨ (0 : Int32) < 0 ∨ (if (Int32.ofNat n1) < (Int32.ofNat n0) then (Int32.ofNat n1) else (Int32.ofNat n0)) < 0 ∨ n0 < ((0 : Int32)).toNatClampNeg + ((if (Int32.ofNat n1) < (Int32.ofNat n0) then (Int32.ofNat n1) else (Int32.ofNat n0))).toNatClampNeg ∨ n1 < ((0 : Int32)).toNatClampNeg + ((if (Int32.ofNat n1) < (Int32.ofNat n0) then (Int32.ofNat n1) else (Int32.ofNat n0))).toNatClampNeg then none else (some (mrow σ r1 (va_cpy (σ r0) (σ r1) ((0 : Int32)).toNatClampNeg ((0 : Int32)).toNatClampNeg ((if (Int32.ofNat n1) < (Int32.ofNat n0) then (Int32.ofNat n1) else (Int32.ofNat n0))).toNatClampNeg))))
set_option maxHeartbeats 4000000 in
theorem ok_X11_copyRow {L : Nat} {r0 n0 r1 n1 : Nat} {σ : Sg} {R : Sg} (hr0 : mnth mSh r0 = some (1, n0, [])) (hr1 : mnth mSh r1 = some (1, n1, [])) (h : f_X11_copyRow r0 n0 r1 n1 σ = some R) : mEv 1 132 [.ref r0, .ref r1] (mSh, L, σ) none (mSh, L, R) := by
  refine mEv.of (by decide) rfl rfl ?_
  unfold f_X11_copyRow at h
  refine mAt.blk bk_X11_copyRow_0 ck_X11_copyRow_0 ?_
  refine q_aload_n rfl ?_
  refine q_iconst ?_
  refine q_aload_n rfl ?_
  refine q_iconst ?_
  refine q_aload_n rfl ?_
  refine q_alen (v := (Int32.ofNat n0)) rfl hr0 ?_
  refine q_aload_n rfl ?_
  refine q_alen (v := (Int32.ofNat n1)) rfl hr1 ?_
  refine q_min rfl (by decide) mcap_0 ?_
  obtain ⟨c1, h⟩ := mnone h
  refine q_copy rfl (by decide) hr0 hr1 c1 ?_
  have h := Option.some.inj h
  subst h
  exact q_vret mcap_0 rfl rfl
def bk_X9_copyFrom_0 : List mI := [(.aload_n 1, 1, 0, 0, 0, []), (.getfield 9, 3, 9, 0, 186, []), (.aload_n 0, 1, 0, 0, 0, []), (.getfield 9, 3, 9, 0, 186, []), (.invokestatic 24, 3, 132, 0, 697, []), (.aload_n 1, 1, 0, 0, 0, []), (.getfield 15, 3, 9, 1, 187, []), (.aload_n 0, 1, 0, 0, 0, []), (.getfield 15, 3, 9, 1, 187, []), (.invokestatic 24, 3, 132, 0, 697, []), (.aload_n 1, 1, 0, 0, 0, []), (.getfield 18, 3, 9, 2, 188, []), (.aload_n 0, 1, 0, 0, 0, []), (.getfield 18, 3, 9, 2, 188, []), (.invokestatic 24, 3, 132, 0, 697, []), (.aload_n 1, 1, 0, 0, 0, []), (.getfield 21, 3, 9, 3, 191, []), (.aload_n 0, 1, 0, 0, 0, []), (.getfield 21, 3, 9, 3, 191, []), (.invokestatic 24, 3, 132, 0, 697, []), (.aload_n 0, 1, 0, 0, 0, []), (.aload_n 1, 1, 0, 0, 0, []), (.getfield 28, 3, 9, 4, 195, []), (.putfield 28, 3, 9, 4, 195, []), (.return_, 1, 0, 0, 0, [])]
theorem ck_X9_copyFrom_0 : mChk 53 0 bk_X9_copyFrom_0 = true := by decide +kernel
def f_X9_copyFrom (a r0 : Nat) (σ : Sg) : Option (Sg) := ((f_X11_copyRow (r0 + 1) 9 (a + 1) 9 σ).bind fun q1 => ((f_X11_copyRow (r0 + 2) 9 (a + 2) 9 q1).bind fun q2 => ((f_X11_copyRow (r0 + 3) 9 (a + 3) 9 q2).bind fun q3 => ((f_X11_copyRow (r0 + 4) 9 (a + 4) 9 q3).bind fun q4 => (some (mup q4 a 4 (q4 r0 4)))))))
set_option maxHeartbeats 4000000 in
theorem ok_X9_copyFrom {L : Nat} {a r0 : Nat} {σ : Sg} {R : Sg} (ha : P9 a) (hr0 : P9 r0) (h : f_X9_copyFrom a r0 σ = some R) : mEv 2 53 [.ref a, .ref r0] (mSh, L, σ) none (mSh, L, R) := by
  refine mEv.of (by decide) rfl rfl ?_
  unfold f_X9_copyFrom at h
  refine mAt.blk bk_X9_copyFrom_0 ck_X9_copyFrom_0 ?_
  refine q_aload_n rfl ?_
  refine q_getR (hr0).1 rfl rfl ?_
  refine q_aload_n rfl ?_
  refine q_getR (ha).1 rfl rfl ?_
  obtain ⟨q1, e1, h⟩ := mbind h
  refine q_sV2 mcap_0 rfl rfl rfl rfl (by decide) (ok_X11_copyRow (hr0).2.1 (ha).2.1 e1) ?_
  refine q_aload_n rfl ?_
  refine q_getR (hr0).1 rfl rfl ?_
  refine q_aload_n rfl ?_
  refine q_getR (ha).1 rfl rfl ?_
  obtain ⟨q2, e2, h⟩ := mbind h
  refine q_sV2 mcap_0 rfl rfl rfl rfl (by decide) (ok_X11_copyRow (hr0).2.2.1 (ha).2.2.1 e2) ?_
  refine q_aload_n rfl ?_
  refine q_getR (hr0).1 rfl rfl ?_
  refine q_aload_n rfl ?_
  refine q_getR (ha).1 rfl rfl ?_
  obtain ⟨q3, e3, h⟩ := mbind h
  refine q_sV2 mcap_0 rfl rfl rfl rfl (by decide) (ok_X11_copyRow (hr0).2.2.2.1 (ha).2.2.2.1 e3) ?_
  refine q_aload_n rfl ?_
  refine q_getR (hr0).1 rfl rfl ?_
  refine q_aload_n rfl ?_
  refine q_getR (ha).1 rfl rfl ?_
  obtain ⟨q4, e4, h⟩ := mbind h
  refine q_sV2 mcap_0 rfl rfl rfl rfl (by decide) (ok_X11_copyRow (hr0).2.2.2.2 (ha).2.2.2.2 e4) ?_
  refine q_aload_n rfl ?_
  refine q_aload_n rfl ?_
  refine q_getI (hr0).1 rfl ?_
  refine q_putI (ha).1 rfl ?_
  have h := Option.some.inj h
  subst h
  exact q_vret mcap_0 rfl rfl
def bk_X9_lead_0 : List mI := [(.aload_n 0, 1, 0, 0, 0, []), (.getfield 9, 3, 9, 0, 186, []), (.iload_n 1, 1, 0, 0, 0, []), (.iload_n 2, 1, 0, 0, 0, []), (.invokestatic 36, 3, 131, 0, 418, []), (.aload_n 0, 1, 0, 0, 0, []), (.getfield 15, 3, 9, 1, 187, []), (.iload_n 1, 1, 0, 0, 0, []), (.iload_n 3, 1, 0, 0, 0, []), (.invokestatic 36, 3, 131, 0, 418, []), (.return_, 1, 0, 0, 0, [])]
theorem ck_X9_lead_0 : mChk 57 0 bk_X9_lead_0 = true := by decide +kernel
def f_X9_lead (a : Nat) (p0 : Int32) (p1 : Int32) (p2 : Int32) (σ : Sg) : Option (Sg) := ((f_X11_lay (a + 1) 9 p0 p1 σ).bind fun q1 => ((f_X11_lay (a + 2) 9 p0 p2 q1).bind fun q2 => (some q2)))
set_option maxHeartbeats 4000000 in
theorem ok_X9_lead {L : Nat} {a : Nat} {p0 : Int32} {p1 : Int32} {p2 : Int32} {σ : Sg} {R : Sg} (ha : P9 a) (h : f_X9_lead a p0 p1 p2 σ = some R) : mEv 1 57 [.ref a, .int p0, .int p1, .int p2] (mSh, L, σ) none (mSh, L, R) := by
  refine mEv.of (by decide) rfl rfl ?_
  unfold f_X9_lead at h
  refine mAt.blk bk_X9_lead_0 ck_X9_lead_0 ?_
  refine q_aload_n rfl ?_
  refine q_getR (ha).1 rfl rfl ?_
  refine q_iload_n rfl ?_
  refine q_iload_n rfl ?_
  obtain ⟨q1, e1, h⟩ := mbind h
  refine q_sV3 mcap_0 rfl rfl rfl rfl (by decide) (ok_X11_lay (ha).2.1 e1) ?_
  refine q_aload_n rfl ?_
  refine q_getR (ha).1 rfl rfl ?_
  refine q_iload_n rfl ?_
  refine q_iload_n rfl ?_
  obtain ⟨q2, e2, h⟩ := mbind h
  refine q_sV3 mcap_0 rfl rfl rfl rfl (by decide) (ok_X11_lay (ha).2.2.1 e2) ?_
  have h := Option.some.inj h
  subst h
  exact q_vret mcap_0 rfl rfl
def bk_X0_search_0 : List mI := [(.aload_n 0, 1, 0, 0, 0, []), (.iconst 0, 1, 0, 0, 0, [(0, 0)]), (.putfield 22, 3, 0, 2, 300, []), (.aload_n 0, 1, 0, 0, 0, []), (.iconst (-1), 1, 0, 0, 0, [((-1), 0)]), (.putfield 26, 3, 0, 3, 302, []), (.aload_n 0, 1, 0, 0, 0, []), (.iconst 0, 1, 0, 0, 0, [(0, 0)]), (.putfield 29, 3, 0, 4, 304, []), (.iconst 0, 1, 0, 0, 0, [(0, 0)]), (.istore 6, 2, 0, 0, 0, [])]
theorem ck_X0_search_0 : mChk 1 0 bk_X0_search_0 = true := by decide +kernel
def bk_X0_search_18 : List mI := [(.iload 6, 2, 0, 0, 0, []), (.aload_n 0, 1, 0, 0, 0, []), (.getfield 18, 3, 0, 1, 299, []), (.arraylength, 1, 0, 0, 0, []), (.if_icmp .ge 17, 3, 42, 0, 0, []), (.aload_n 0, 1, 0, 0, 0, []), (.getfield 18, 3, 0, 1, 299, []), (.iload 6, 2, 0, 0, 0, []), (.iconst 0, 1, 0, 0, 0, [(0, 0)]), (.iastore, 1, 0, 0, 0, []), (.iinc 6 1, 3, 0, 0, 0, [(1, 0)]), (.goto (-21), 3, 18, 0, 0, [])]
theorem ck_X0_search_18 : mChk 1 18 bk_X0_search_18 = true := by decide +kernel
def bk_X0_search_42 : List mI := [(.aload_n 0, 1, 0, 0, 0, []), (.getfield 12, 3, 0, 0, 298, []), (.aload_n 1, 1, 0, 0, 0, []), (.invokevirtual 32, 3, 53, 0, 802, []), (.iconst 0, 1, 0, 0, 0, [(0, 0)]), (.istore 6, 2, 0, 0, 0, [])]
theorem ck_X0_search_42 : mChk 1 42 bk_X0_search_42 = true := by decide +kernel
def bk_X0_search_53 : List mI := [(.iload 6, 2, 0, 0, 0, []), (.aload_n 1, 1, 0, 0, 0, []), (.getfield 36, 3, 9, 4, 196, []), (.if_icmp .ge 58, 3, 117, 0, 0, []), (.iconst 1, 1, 0, 0, 0, [(1, 0)]), (.istore 7, 2, 0, 0, 0, [])]
theorem ck_X0_search_53 : mChk 1 53 bk_X0_search_53 = true := by decide +kernel
def bk_X0_search_65 : List mI := [(.iload 7, 2, 0, 0, 0, []), (.iload 4, 2, 0, 0, 0, []), (.if_icmp .gt 42, 3, 111, 0, 0, []), (.aload_n 0, 1, 0, 0, 0, []), (.getfield 12, 3, 0, 0, 298, []), (.iload_n 3, 1, 0, 0, 0, []), (.iload 6, 2, 0, 0, 0, []), (.iload 7, 2, 0, 0, 0, []), (.invokevirtual 39, 3, 57, 0, 803, []), (.aload_n 2, 1, 0, 0, 0, []), (.aload_n 0, 1, 0, 0, 0, []), (.getfield 12, 3, 0, 0, 298, []), (.invokevirtual 43, 3, 12, 0, 804, []), (.ifCond .eq 13, 3, 105, 0, 0, []), (.aload_n 0, 1, 0, 0, 0, []), (.iload 6, 2, 0, 0, 0, []), (.iload 7, 2, 0, 0, 0, []), (.iload 5, 2, 0, 0, 0, []), (.invokevirtual 49, 3, 2, 0, 809, [])]
theorem ck_X0_search_65 : mChk 1 65 bk_X0_search_65 = true := by decide +kernel
def bk_X0_search_105 : List mI := [(.iinc 7 1, 3, 0, 0, 0, [(1, 0)]), (.goto (-43), 3, 65, 0, 0, [])]
theorem ck_X0_search_105 : mChk 1 105 bk_X0_search_105 = true := by decide +kernel
def bk_X0_search_111 : List mI := [(.iinc 6 1, 3, 0, 0, 0, [(1, 0)]), (.goto (-61), 3, 53, 0, 0, [])]
theorem ck_X0_search_111 : mChk 1 111 bk_X0_search_111 = true := by decide +kernel
def bk_X0_search_117 : List mI := [(.return_, 1, 0, 0, 0, [])]
theorem ck_X0_search_117 : mChk 1 117 bk_X0_search_117 = true := by decide +kernel
def c_X0_search_105 (k53 : Int32 → Int32 → Int32 → Int32 → Sg → Option (Sg)) (k65 : Int32 → Int32 → Int32 → Int32 → Int32 → Sg → Option (Sg)) (r0 r1 : Nat) (x3 : Int32) (x4 : Int32) (x5 : Int32) (x6 : Int32) (x7 : Int32) (σ : Sg) : Option (Sg) := (k65 x3 x4 x5 x6 (x7 + (1 : Int32)) σ)
set_option maxHeartbeats 4000000 in
theorem okc_X0_search_105 {L : Nat} {k53 : Int32 → Int32 → Int32 → Int32 → Sg → Option (Sg)} {k65 : Int32 → Int32 → Int32 → Int32 → Int32 → Sg → Option (Sg)} {r0 r1 : Nat} {R : Sg} (hr0 : P9 r0) (hr1 : P2 r1) (Hk53 : ∀ (x3 : Int32) (x4 : Int32) (x5 : Int32) (x6 : Int32) (σ : Sg) (pl : mLoc), k53 x3 x4 x5 x6 σ = some R → mlf [some (.ref 74), some (.ref r0), some (.ref r1), some (.int x3), some (.int x4), some (.int x5), some (.int x6), none] pl → mAt 5 1 (none, (mSh, L, R)) 53 pl [] (mSh, L, σ) 0 0) (Hk65 : ∀ (x3 : Int32) (x4 : Int32) (x5 : Int32) (x6 : Int32) (x7 : Int32) (σ : Sg) (pl : mLoc), k65 x3 x4 x5 x6 x7 σ = some R → mlf [some (.ref 74), some (.ref r0), some (.ref r1), some (.int x3), some (.int x4), some (.int x5), some (.int x6), some (.int x7)] pl → mAt 5 1 (none, (mSh, L, R)) 65 pl [] (mSh, L, σ) 0 0) {x3 : Int32} {x4 : Int32} {x5 : Int32} {x6 : Int32} {x7 : Int32} {σ : Sg} {pl : mLoc} (h : c_X0_search_105 k53 k65 r0 r1 x3 x4 x5 x6 x7 σ = some R) (hl : mlf [some (.ref 74), some (.ref r0), some (.ref r1), some (.int x3), some (.int x4), some (.int x5), some (.int x6), some (.int x7)] pl) : mAt 5 1 (none, (mSh, L, R)) 105 pl [] (mSh, L, σ) 0 0 := by
  refine mAt.less hl ?_
  unfold c_X0_search_105 at h
  refine mAt.blk bk_X0_search_105 ck_X0_search_105 ?_
  refine q_iinc rfl rfl ?_
  refine q_goto ?_
  exact Hk65 _ _ _ _ _ _ _  h ⟨rfl, rfl, rfl, rfl, rfl, rfl, rfl, rfl, trivial⟩
def c_X0_search_111 (k53 : Int32 → Int32 → Int32 → Int32 → Sg → Option (Sg)) (r0 r1 : Nat) (x3 : Int32) (x4 : Int32) (x5 : Int32) (x6 : Int32) (σ : Sg) : Option (Sg) := (k53 x3 x4 x5 (x6 + (1 : Int32)) σ)
set_option maxHeartbeats 4000000 in
theorem okc_X0_search_111 {L : Nat} {k53 : Int32 → Int32 → Int32 → Int32 → Sg → Option (Sg)} {r0 r1 : Nat} {R : Sg} (hr0 : P9 r0) (hr1 : P2 r1) (Hk53 : ∀ (x3 : Int32) (x4 : Int32) (x5 : Int32) (x6 : Int32) (σ : Sg) (pl : mLoc), k53 x3 x4 x5 x6 σ = some R → mlf [some (.ref 74), some (.ref r0), some (.ref r1), some (.int x3), some (.int x4), some (.int x5), some (.int x6), none] pl → mAt 5 1 (none, (mSh, L, R)) 53 pl [] (mSh, L, σ) 0 0) {x3 : Int32} {x4 : Int32} {x5 : Int32} {x6 : Int32} {σ : Sg} {pl : mLoc} (h : c_X0_search_111 k53 r0 r1 x3 x4 x5 x6 σ = some R) (hl : mlf [some (.ref 74), some (.ref r0), some (.ref r1), some (.int x3), some (.int x4), some (.int x5), some (.int x6), none] pl) : mAt 5 1 (none, (mSh, L, R)) 111 pl [] (mSh, L, σ) 0 0 := by
  refine mAt.less hl ?_
  unfold c_X0_search_111 at h
  refine mAt.blk bk_X0_search_111 ck_X0_search_111 ?_
  refine q_iinc rfl rfl ?_
  refine q_goto ?_
  exact Hk53 _ _ _ _ _ _  h ⟨rfl, rfl, rfl, rfl, rfl, rfl, rfl, trivial⟩
def c_X0_search_65 (k53 : Int32 → Int32 → Int32 → Int32 → Sg → Option (Sg)) (r0 r1 : Nat) : Nat → Int32 → Int32 → Int32 → Int32 → Int32 → Sg → Option (Sg)
  | 0, _, _, _, _, _, _ => none
  | n + 1, x3, x4, x5, x6, x7, σ => (if x4 < x7 then (c_X0_search_111 k53 r0 r1 x3 x4 x5 x6 σ) else ((f_X9_lead 75 x3 x6 x7 σ).bind fun q6 => ((f_X2_allSo r1 75 q6).bind fun q7 => (if q7 = 0 then (c_X0_search_105 k53 (c_X0_search_65 k53 r0 r1 n) r0 r1 x3 x4 x5 x6 x7 q6) else ((f_X0_note x6 x7 x5 q6).bind fun q9 => (c_X0_search_105 k53 (c_X0_search_65 k53 r0 r1 n) r0 r1 x3 x4 x5 x6 x7 q9))))))
set_option maxHeartbeats 4000000 in
theorem okc_X0_search_65 {L : Nat} {k53 : Int32 → Int32 → Int32 → Int32 → Sg → Option (Sg)} {r0 r1 : Nat} {R : Sg} (hr0 : P9 r0) (hr1 : P2 r1) (Hk53 : ∀ (x3 : Int32) (x4 : Int32) (x5 : Int32) (x6 : Int32) (σ : Sg) (pl : mLoc), k53 x3 x4 x5 x6 σ = some R → mlf [some (.ref 74), some (.ref r0), some (.ref r1), some (.int x3), some (.int x4), some (.int x5), some (.int x6), none] pl → mAt 5 1 (none, (mSh, L, R)) 53 pl [] (mSh, L, σ) 0 0) {n : Nat} {x3 : Int32} {x4 : Int32} {x5 : Int32} {x6 : Int32} {x7 : Int32} {σ : Sg} {pl : mLoc} (h : c_X0_search_65 k53 r0 r1 n x3 x4 x5 x6 x7 σ = some R) (hl : mlf [some (.ref 74), some (.ref r0), some (.ref r1), some (.int x3), some (.int x4), some (.int x5), some (.int x6), some (.int x7)] pl) : mAt 5 1 (none, (mSh, L, R)) 65 pl [] (mSh, L, σ) 0 0 := by
  induction n generalizing x3 x4 x5 x6 x7 σ pl with
  | zero =>
    rw [c_X0_search_65.eq_1] at h
    cases h
  | succ n ih =>
    refine mAt.less hl ?_
    rw [c_X0_search_65.eq_2] at h
    refine mAt.blk bk_X0_search_65 ck_X0_search_65 ?_
    refine q_iload rfl ?_
    refine q_iload rfl ?_
    refine q_ic_gt (fun c5 => ?_) (fun c5 => ?_)
    · rw [if_pos c5] at h
      exact okc_X0_search_111 hr0 hr1 Hk53 h ⟨rfl, rfl, rfl, rfl, rfl, rfl, rfl, trivial⟩
    · rw [if_neg c5] at h
      refine q_aload_n rfl ?_
      refine q_getR ob_74 rfl rfl ?_
      refine q_iload_n rfl ?_
      refine q_iload rfl ?_
      refine q_iload rfl ?_
      obtain ⟨q6, e6, h⟩ := mbind h
      refine q_vV3 mcap_0 rfl rfl ob_75 rfl (by decide) (ok_X9_lead p9_75 e6) ?_
      refine q_aload_n rfl ?_
      refine q_aload_n rfl ?_
      refine q_getR ob_74 rfl rfl ?_
      obtain ⟨q7, e7, h⟩ := mbind h
      refine q_vI1 mcap_0 rfl rfl (hr1).1 rfl (by decide) (ok_X2_allSo hr1 p9_75 e7) ?_
      refine q_if_eq (fun c8 => ?_) (fun c8 => ?_)
      · rw [if_pos c8] at h
        exact okc_X0_search_105 hr0 hr1 Hk53 (fun _ _ _ _ _ _ _ e hl => ih  e hl) h ⟨rfl, rfl, rfl, rfl, rfl, rfl, rfl, rfl, trivial⟩
      · rw [if_neg c8] at h
        refine q_aload_n rfl ?_
        refine q_iload rfl ?_
        refine q_iload rfl ?_
        refine q_iload rfl ?_
        obtain ⟨q9, e9, h⟩ := mbind h
        refine q_vV3 mcap_0 rfl rfl ob_74 rfl (by decide) (ok_X0_note  e9) ?_
        exact okc_X0_search_105 hr0 hr1 Hk53 (fun _ _ _ _ _ _ _ e hl => ih  e hl) h ⟨rfl, rfl, rfl, rfl, rfl, rfl, rfl, rfl, trivial⟩
def c_X0_search_53 (r0 r1 : Nat) : Nat → Int32 → Int32 → Int32 → Int32 → Sg → Option (Sg)
  | 0, _, _, _, _, _ => none
  | n + 1, x3, x4, x5, x6, σ => (if (σ r0 4) ≤ x6 then (some σ) else (c_X0_search_65 (c_X0_search_53 r0 r1 n) r0 r1 1000 x3 x4 x5 x6 (1 : Int32) σ))
set_option maxHeartbeats 4000000 in
theorem okc_X0_search_53 {L : Nat} {r0 r1 : Nat} {R : Sg} (hr0 : P9 r0) (hr1 : P2 r1) {n : Nat} {x3 : Int32} {x4 : Int32} {x5 : Int32} {x6 : Int32} {σ : Sg} {pl : mLoc} (h : c_X0_search_53 r0 r1 n x3 x4 x5 x6 σ = some R) (hl : mlf [some (.ref 74), some (.ref r0), some (.ref r1), some (.int x3), some (.int x4), some (.int x5), some (.int x6), none] pl) : mAt 5 1 (none, (mSh, L, R)) 53 pl [] (mSh, L, σ) 0 0 := by
  induction n generalizing x3 x4 x5 x6 σ pl with
  | zero =>
    rw [c_X0_search_53.eq_1] at h
    cases h
  | succ n ih =>
    refine mAt.less hl ?_
    rw [c_X0_search_53.eq_2] at h
    refine mAt.blk bk_X0_search_53 ck_X0_search_53 ?_
    refine q_iload rfl ?_
    refine q_aload_n rfl ?_
    refine q_getI (hr0).1 rfl ?_
    refine q_ic_ge (fun c4 => ?_) (fun c4 => ?_)
    · rw [if_pos c4] at h
      refine mAt.blk bk_X0_search_117 ck_X0_search_117 ?_
      have h := Option.some.inj h
      subst h
      exact q_vret mcap_0 rfl rfl
    · rw [if_neg c4] at h
      refine q_iconst ?_
      refine q_istore rfl rfl ?_
      exact okc_X0_search_65 hr0 hr1 (fun _ _ _ _ _ _ e hl => ih  e hl) h ⟨rfl, rfl, rfl, rfl, rfl, rfl, rfl, rfl, trivial⟩
def c_X0_search_42 (r0 r1 : Nat) (x3 : Int32) (x4 : Int32) (x5 : Int32) (σ : Sg) : Option (Sg) := ((f_X9_copyFrom 75 r0 σ).bind fun q3 => (c_X0_search_53  r0 r1 1000 x3 x4 x5 (0 : Int32) q3))
set_option maxHeartbeats 4000000 in
theorem okc_X0_search_42 {L : Nat} {r0 r1 : Nat} {R : Sg} (hr0 : P9 r0) (hr1 : P2 r1) {x3 : Int32} {x4 : Int32} {x5 : Int32} {σ : Sg} {pl : mLoc} (h : c_X0_search_42 r0 r1 x3 x4 x5 σ = some R) (hl : mlf [some (.ref 74), some (.ref r0), some (.ref r1), some (.int x3), some (.int x4), some (.int x5), none, none] pl) : mAt 5 1 (none, (mSh, L, R)) 42 pl [] (mSh, L, σ) 0 0 := by
  refine mAt.less hl ?_
  unfold c_X0_search_42 at h
  refine mAt.blk bk_X0_search_42 ck_X0_search_42 ?_
  refine q_aload_n rfl ?_
  refine q_getR ob_74 rfl rfl ?_
  refine q_aload_n rfl ?_
  obtain ⟨q3, e3, h⟩ := mbind h
  refine q_vV1 mcap_0 rfl rfl ob_75 rfl (by decide) (ok_X9_copyFrom p9_75 hr0 e3) ?_
  refine q_iconst ?_
  refine q_istore rfl rfl ?_
  exact okc_X0_search_53 hr0 hr1 h ⟨rfl, rfl, rfl, rfl, rfl, rfl, rfl, trivial⟩
def c_X0_search_18 (r0 r1 : Nat) : Nat → Int32 → Int32 → Int32 → Int32 → Sg → Option (Sg)
  | 0, _, _, _, _, _ => none
  | n + 1, x3, x4, x5, x6, σ => (if (9 : Int32) ≤ x6 then (c_X0_search_42  r0 r1 x3 x4 x5 σ) else (if x6 < 0 ∨ 9 ≤ (x6).toNatClampNeg then none else (c_X0_search_18 r0 r1 n x3 x4 x5 (x6 + (1 : Int32)) (mup σ 80 (x6).toNatClampNeg (0 : Int32)))))
set_option maxHeartbeats 4000000 in
theorem okc_X0_search_18 {L : Nat} {r0 r1 : Nat} {R : Sg} (hr0 : P9 r0) (hr1 : P2 r1) {n : Nat} {x3 : Int32} {x4 : Int32} {x5 : Int32} {x6 : Int32} {σ : Sg} {pl : mLoc} (h : c_X0_search_18 r0 r1 n x3 x4 x5 x6 σ = some R) (hl : mlf [some (.ref 74), some (.ref r0), some (.ref r1), some (.int x3), some (.int x4), some (.int x5), some (.int x6), none] pl) : mAt 5 1 (none, (mSh, L, R)) 18 pl [] (mSh, L, σ) 0 0 := by
  induction n generalizing x3 x4 x5 x6 σ pl with
  | zero =>
    rw [c_X0_search_18.eq_1] at h
    cases h
  | succ n ih =>
    refine mAt.less hl ?_
    rw [c_X0_search_18.eq_2] at h
    refine mAt.blk bk_X0_search_18 ck_X0_search_18 ?_
    refine q_iload rfl ?_
    refine q_aload_n rfl ?_
    refine q_getR ob_74 rfl rfl ?_
    refine q_alen (v := (9 : Int32)) rfl ar_80 ?_
    refine q_ic_ge (fun c1 => ?_) (fun c1 => ?_)
    · rw [if_pos c1] at h
      exact okc_X0_search_42 hr0 hr1 h ⟨rfl, rfl, rfl, rfl, rfl, rfl, trivial⟩
    · rw [if_neg c1] at h
      refine q_aload_n rfl ?_
      refine q_getR ob_74 rfl rfl ?_
      refine q_iload rfl ?_
      refine q_iconst ?_
      obtain ⟨c2, h⟩ := mnone h
      refine q_iast rfl ar_80 c2 ?_
      refine q_iinc rfl rfl ?_
      refine q_goto ?_
      exact ih  h ⟨rfl, rfl, rfl, rfl, rfl, rfl, rfl, trivial⟩
def f_X0_search (r0 r1 : Nat) (p2 : Int32) (p3 : Int32) (p4 : Int32) (σ : Sg) : Option (Sg) := (c_X0_search_18  r0 r1 1000 p2 p3 p4 (0 : Int32) (mup (mup (mup σ 74 2 (0 : Int32)) 74 3 (-1 : Int32)) 74 4 (0 : Int32)))
set_option maxHeartbeats 4000000 in
theorem ok_X0_search {L : Nat} {r0 r1 : Nat} {p2 : Int32} {p3 : Int32} {p4 : Int32} {σ : Sg} {R : Sg} (hr0 : P9 r0) (hr1 : P2 r1) (h : f_X0_search r0 r1 p2 p3 p4 σ = some R) : mEv 5 1 [.ref 74, .ref r0, .ref r1, .int p2, .int p3, .int p4] (mSh, L, σ) none (mSh, L, R) := by
  refine mEv.of (by decide) rfl rfl ?_
  unfold f_X0_search at h
  refine mAt.blk bk_X0_search_0 ck_X0_search_0 ?_
  refine q_aload_n rfl ?_
  refine q_iconst ?_
  refine q_putI ob_74 rfl ?_
  refine q_aload_n rfl ?_
  refine q_iconst ?_
  refine q_putI ob_74 rfl ?_
  refine q_aload_n rfl ?_
  refine q_iconst ?_
  refine q_putI ob_74 rfl ?_
  refine q_iconst ?_
  refine q_istore rfl rfl ?_
  exact okc_X0_search_18 hr0 hr1 h ⟨rfl, rfl, rfl, rfl, rfl, rfl, rfl, trivial⟩
def bk_J6_bitCount_0f7a4_0 : List mI := [(.iload_n 0, 1, 0, 0, 0, []), (.iload_n 0, 1, 0, 0, 0, []), (.iconst 1, 1, 0, 0, 0, [(1, 0)]), (.iushr, 1, 0, 0, 0, []), (.ldc_w 265, 3, 0, 0, 522, [(1431655765, 0)]), (.iand, 1, 0, 0, 0, []), (.isub, 1, 0, 0, 0, []), (.istore_n 0, 1, 0, 0, 0, []), (.iload_n 0, 1, 0, 0, 0, []), (.ldc_w 266, 3, 0, 0, 523, [(858993459, 0)]), (.iand, 1, 0, 0, 0, []), (.iload_n 0, 1, 0, 0, 0, []), (.iconst 2, 1, 0, 0, 0, [(2, 0)]), (.iushr, 1, 0, 0, 0, []), (.ldc_w 266, 3, 0, 0, 523, [(858993459, 0)]), (.iand, 1, 0, 0, 0, []), (.iadd, 1, 0, 0, 0, []), (.istore_n 0, 1, 0, 0, 0, []), (.iload_n 0, 1, 0, 0, 0, []), (.iload_n 0, 1, 0, 0, 0, []), (.iconst 4, 1, 0, 0, 0, [(4, 0)]), (.iushr, 1, 0, 0, 0, []), (.iadd, 1, 0, 0, 0, []), (.ldc_w 267, 3, 0, 0, 524, [(252645135, 0)]), (.iand, 1, 0, 0, 0, []), (.istore_n 0, 1, 0, 0, 0, []), (.iload_n 0, 1, 0, 0, 0, []), (.iload_n 0, 1, 0, 0, 0, []), (.bipush 8, 2, 0, 0, 0, [(8, 0)]), (.iushr, 1, 0, 0, 0, []), (.iadd, 1, 0, 0, 0, []), (.istore_n 0, 1, 0, 0, 0, []), (.iload_n 0, 1, 0, 0, 0, []), (.iload_n 0, 1, 0, 0, 0, []), (.bipush 16, 2, 0, 0, 0, [(16, 0)]), (.iushr, 1, 0, 0, 0, []), (.iadd, 1, 0, 0, 0, []), (.istore_n 0, 1, 0, 0, 0, []), (.iload_n 0, 1, 0, 0, 0, []), (.bipush 63, 2, 0, 0, 0, [(63, 0)]), (.iand, 1, 0, 0, 0, []), (.ireturn, 1, 0, 0, 0, [])]
theorem ck_J6_bitCount_0f7a4_0 : mChk 228 0 bk_J6_bitCount_0f7a4_0 = true := by decide +kernel
def f_J6_bitCount_0f7a4 (p0 : Int32) (σ : Sg) : Option (Int32) := (some ((((((((p0 - (((p0).toUInt32 >>> (((1 : Int32)).toUInt32 &&& Int32.toUInt32 31)).toInt32 &&& (1431655765 : Int32))) &&& (858993459 : Int32)) + ((((p0 - (((p0).toUInt32 >>> (((1 : Int32)).toUInt32 &&& Int32.toUInt32 31)).toInt32 &&& (1431655765 : Int32)))).toUInt32 >>> (((2 : Int32)).toUInt32 &&& Int32.toUInt32 31)).toInt32 &&& (858993459 : Int32))) + (((((p0 - (((p0).toUInt32 >>> (((1 : Int32)).toUInt32 &&& Int32.toUInt32 31)).toInt32 &&& (1431655765 : Int32))) &&& (858993459 : Int32)) + ((((p0 - (((p0).toUInt32 >>> (((1 : Int32)).toUInt32 &&& Int32.toUInt32 31)).toInt32 &&& (1431655765 : Int32)))).toUInt32 >>> (((2 : Int32)).toUInt32 &&& Int32.toUInt32 31)).toInt32 &&& (858993459 : Int32)))).toUInt32 >>> (((4 : Int32)).toUInt32 &&& Int32.toUInt32 31)).toInt32) &&& (252645135 : Int32)) + (((((((p0 - (((p0).toUInt32 >>> (((1 : Int32)).toUInt32 &&& Int32.toUInt32 31)).toInt32 &&& (1431655765 : Int32))) &&& (858993459 : Int32)) + ((((p0 - (((p0).toUInt32 >>> (((1 : Int32)).toUInt32 &&& Int32.toUInt32 31)).toInt32 &&& (1431655765 : Int32)))).toUInt32 >>> (((2 : Int32)).toUInt32 &&& Int32.toUInt32 31)).toInt32 &&& (858993459 : Int32))) + (((((p0 - (((p0).toUInt32 >>> (((1 : Int32)).toUInt32 &&& Int32.toUInt32 31)).toInt32 &&& (1431655765 : Int32))) &&& (858993459 : Int32)) + ((((p0 - (((p0).toUInt32 >>> (((1 : Int32)).toUInt32 &&& Int32.toUInt32 31)).toInt32 &&& (1431655765 : Int32)))).toUInt32 >>> (((2 : Int32)).toUInt32 &&& Int32.toUInt32 31)).toInt32 &&& (858993459 : Int32)))).toUInt32 >>> (((4 : Int32)).toUInt32 &&& Int32.toUInt32 31)).toInt32) &&& (252645135 : Int32))).toUInt32 >>> (((8 : Int32)).toUInt32 &&& Int32.toUInt32 31)).toInt32) + ((((((((p0 - (((p0).toUInt32 >>> (((1 : Int32)).toUInt32 &&& Int32.toUInt32 31)).toInt32 &&& (1431655765 : Int32))) &&& (858993459 : Int32)) + ((((p0 - (((p0).toUInt32 >>> (((1 : Int32)).toUInt32 &&& Int32.toUInt32 31)).toInt32 &&& (1431655765 : Int32)))).toUInt32 >>> (((2 : Int32)).toUInt32 &&& Int32.toUInt32 31)).toInt32 &&& (858993459 : Int32))) + (((((p0 - (((p0).toUInt32 >>> (((1 : Int32)).toUInt32 &&& Int32.toUInt32 31)).toInt32 &&& (1431655765 : Int32))) &&& (858993459 : Int32)) + ((((p0 - (((p0).toUInt32 >>> (((1 : Int32)).toUInt32 &&& Int32.toUInt32 31)).toInt32 &&& (1431655765 : Int32)))).toUInt32 >>> (((2 : Int32)).toUInt32 &&& Int32.toUInt32 31)).toInt32 &&& (858993459 : Int32)))).toUInt32 >>> (((4 : Int32)).toUInt32 &&& Int32.toUInt32 31)).toInt32) &&& (252645135 : Int32)) + (((((((p0 - (((p0).toUInt32 >>> (((1 : Int32)).toUInt32 &&& Int32.toUInt32 31)).toInt32 &&& (1431655765 : Int32))) &&& (858993459 : Int32)) + ((((p0 - (((p0).toUInt32 >>> (((1 : Int32)).toUInt32 &&& Int32.toUInt32 31)).toInt32 &&& (1431655765 : Int32)))).toUInt32 >>> (((2 : Int32)).toUInt32 &&& Int32.toUInt32 31)).toInt32 &&& (858993459 : Int32))) + (((((p0 - (((p0).toUInt32 >>> (((1 : Int32)).toUInt32 &&& Int32.toUInt32 31)).toInt32 &&& (1431655765 : Int32))) &&& (858993459 : Int32)) + ((((p0 - (((p0).toUInt32 >>> (((1 : Int32)).toUInt32 &&& Int32.toUInt32 31)).toInt32 &&& (1431655765 : Int32)))).toUInt32 >>> (((2 : Int32)).toUInt32 &&& Int32.toUInt32 31)).toInt32 &&& (858993459 : Int32)))).toUInt32 >>> (((4 : Int32)).toUInt32 &&& Int32.toUInt32 31)).toInt32) &&& (252645135 : Int32))).toUInt32 >>> (((8 : Int32)).toUInt32 &&& Int32.toUInt32 31)).toInt32)).toUInt32 >>> (((16 : Int32)).toUInt32 &&& Int32.toUInt32 31)).toInt32) &&& (63 : Int32)))
set_option maxHeartbeats 4000000 in
theorem ok_J6_bitCount_0f7a4 {L : Nat} {p0 : Int32} {σ : Sg} {R : Int32} (h : f_J6_bitCount_0f7a4 p0 σ = some R) : mEv 0 228 [.int p0] (mSh, L, σ) (some (.int R)) (mSh, L, σ) := by
  refine mEv.of (by decide) rfl rfl ?_
  unfold f_J6_bitCount_0f7a4 at h
  refine mAt.blk bk_J6_bitCount_0f7a4_0 ck_J6_bitCount_0f7a4_0 ?_
  refine q_iload_n rfl ?_
  refine q_iload_n rfl ?_
  refine q_iconst ?_
  refine q_iushr ?_
  refine q_ldc_w ?_
  refine q_iand ?_
  refine q_isub ?_
  refine q_istore_n rfl rfl ?_
  refine q_iload_n rfl ?_
  refine q_ldc_w ?_
  refine q_iand ?_
  refine q_iload_n rfl ?_
  refine q_iconst ?_
  refine q_iushr ?_
  refine q_ldc_w ?_
  refine q_iand ?_
  refine q_iadd ?_
  refine q_istore_n rfl rfl ?_
  refine q_iload_n rfl ?_
  refine q_iload_n rfl ?_
  refine q_iconst ?_
  refine q_iushr ?_
  refine q_iadd ?_
  refine q_ldc_w ?_
  refine q_iand ?_
  refine q_istore_n rfl rfl ?_
  refine q_iload_n rfl ?_
  refine q_iload_n rfl ?_
  refine q_bipush ?_
  refine q_iushr ?_
  refine q_iadd ?_
  refine q_istore_n rfl rfl ?_
  refine q_iload_n rfl ?_
  refine q_iload_n rfl ?_
  refine q_bipush ?_
  refine q_iushr ?_
  refine q_iadd ?_
  refine q_istore_n rfl rfl ?_
  refine q_iload_n rfl ?_
  refine q_bipush ?_
  refine q_iand ?_
  have h := Option.some.inj h
  subst h
  exact q_iretI mcap_0 rfl rfl
def bk_X0_howManyPlaces_0 : List mI := [(.aload_n 0, 1, 0, 0, 0, []), (.getfield 18, 3, 0, 1, 299, []), (.iload_n 1, 1, 0, 0, 0, []), (.invokestatic 56, 3, 130, 0, 814, []), (.invokestatic 64, 3, 228, 0, 829, []), (.ireturn, 1, 0, 0, 0, [])]
theorem ck_X0_howManyPlaces_0 : mChk 3 0 bk_X0_howManyPlaces_0 = true := by decide +kernel
def f_X0_howManyPlaces (p0 : Int32) (σ : Sg) : Option (Int32) := ((f_X11_pick 80 9 p0 σ).bind fun q1 => ((f_J6_bitCount_0f7a4 q1 σ).bind fun q2 => (some q2)))
set_option maxHeartbeats 4000000 in
theorem ok_X0_howManyPlaces {L : Nat} {p0 : Int32} {σ : Sg} {R : Int32} (h : f_X0_howManyPlaces p0 σ = some R) : mEv 1 3 [.ref 74, .int p0] (mSh, L, σ) (some (.int R)) (mSh, L, σ) := by
  refine mEv.of (by decide) rfl rfl ?_
  unfold f_X0_howManyPlaces at h
  refine mAt.blk bk_X0_howManyPlaces_0 ck_X0_howManyPlaces_0 ?_
  refine q_aload_n rfl ?_
  refine q_getR ob_74 rfl rfl ?_
  refine q_iload_n rfl ?_
  obtain ⟨q1, e1, h⟩ := mbind h
  refine q_sI2 mcap_0 rfl rfl rfl rfl (by decide) (ok_X11_pick (mrd ar_80) e1) ?_
  obtain ⟨q2, e2, h⟩ := mbind h
  refine q_sI1 mcap_0 rfl rfl rfl rfl (by decide) (ok_J6_bitCount_0f7a4  e2) ?_
  have h := Option.some.inj h
  subst h
  exact q_iretI mcap_0 rfl rfl
def bk_X0_bestStart_0 : List mI := [(.iconst 0, 1, 0, 0, 0, [(0, 0)]), (.istore_n 2, 1, 0, 0, 0, []), (.iconst 1, 1, 0, 0, 0, [(1, 0)]), (.istore_n 3, 1, 0, 0, 0, [])]
theorem ck_X0_bestStart_0 : mChk 4 0 bk_X0_bestStart_0 = true := by decide +kernel
def bk_X0_bestStart_4 : List mI := [(.iload_n 3, 1, 0, 0, 0, []), (.iload_n 1, 1, 0, 0, 0, []), (.if_icmp .ge 24, 3, 30, 0, 0, []), (.aload_n 0, 1, 0, 0, 0, []), (.iload_n 3, 1, 0, 0, 0, []), (.invokevirtual 70, 3, 3, 0, 825, []), (.aload_n 0, 1, 0, 0, 0, []), (.iload_n 2, 1, 0, 0, 0, []), (.invokevirtual 70, 3, 3, 0, 825, []), (.if_icmp .le 5, 3, 24, 0, 0, []), (.iload_n 3, 1, 0, 0, 0, []), (.istore_n 2, 1, 0, 0, 0, [])]
theorem ck_X0_bestStart_4 : mChk 4 4 bk_X0_bestStart_4 = true := by decide +kernel
def bk_X0_bestStart_24 : List mI := [(.iinc 3 1, 3, 0, 0, 0, [(1, 0)]), (.goto (-23), 3, 4, 0, 0, [])]
theorem ck_X0_bestStart_24 : mChk 4 24 bk_X0_bestStart_24 = true := by decide +kernel
def bk_X0_bestStart_30 : List mI := [(.iload_n 2, 1, 0, 0, 0, []), (.ireturn, 1, 0, 0, 0, [])]
theorem ck_X0_bestStart_30 : mChk 4 30 bk_X0_bestStart_30 = true := by decide +kernel
def c_X0_bestStart_24 (k4 : Int32 → Int32 → Int32 → Option (Int32)) (σ : Sg) (x1 : Int32) (x2 : Int32) (x3 : Int32) : Option (Int32) := (k4 x1 x2 (x3 + (1 : Int32)))
set_option maxHeartbeats 4000000 in
theorem okc_X0_bestStart_24 {L : Nat} {k4 : Int32 → Int32 → Int32 → Option (Int32)} {σ : Sg} {R : Int32} (Hk4 : ∀ (x1 : Int32) (x2 : Int32) (x3 : Int32) (pl : mLoc), k4 x1 x2 x3 = some R → mlf [some (.ref 74), some (.int x1), some (.int x2), some (.int x3)] pl → mAt 2 4 (some (.int R), (mSh, L, σ)) 4 pl [] (mSh, L, σ) 0 0) {x1 : Int32} {x2 : Int32} {x3 : Int32} {pl : mLoc} (h : c_X0_bestStart_24 k4 σ x1 x2 x3 = some R) (hl : mlf [some (.ref 74), some (.int x1), some (.int x2), some (.int x3)] pl) : mAt 2 4 (some (.int R), (mSh, L, σ)) 24 pl [] (mSh, L, σ) 0 0 := by
  refine mAt.less hl ?_
  unfold c_X0_bestStart_24 at h
  refine mAt.blk bk_X0_bestStart_24 ck_X0_bestStart_24 ?_
  refine q_iinc rfl rfl ?_
  refine q_goto ?_
  exact Hk4 _ _ _ _  h ⟨rfl, rfl, rfl, rfl, trivial⟩
def c_X0_bestStart_4 (σ : Sg) : Nat → Int32 → Int32 → Int32 → Option (Int32)
  | 0, _, _, _ => none
  | n + 1, x1, x2, x3 => (if x1 ≤ x3 then (some x2) else ((f_X0_howManyPlaces x3 σ).bind fun q2 => ((f_X0_howManyPlaces x2 σ).bind fun q3 => (if q2 ≤ q3 then (c_X0_bestStart_24 (c_X0_bestStart_4 σ n) σ x1 x2 x3) else (c_X0_bestStart_24 (c_X0_bestStart_4 σ n) σ x1 x3 x3)))))
set_option maxHeartbeats 4000000 in
theorem okc_X0_bestStart_4 {L : Nat} {σ : Sg} {R : Int32} {n : Nat} {x1 : Int32} {x2 : Int32} {x3 : Int32} {pl : mLoc} (h : c_X0_bestStart_4 σ n x1 x2 x3 = some R) (hl : mlf [some (.ref 74), some (.int x1), some (.int x2), some (.int x3)] pl) : mAt 2 4 (some (.int R), (mSh, L, σ)) 4 pl [] (mSh, L, σ) 0 0 := by
  induction n generalizing x1 x2 x3 pl with
  | zero =>
    rw [c_X0_bestStart_4.eq_1] at h
    cases h
  | succ n ih =>
    refine mAt.less hl ?_
    rw [c_X0_bestStart_4.eq_2] at h
    refine mAt.blk bk_X0_bestStart_4 ck_X0_bestStart_4 ?_
    refine q_iload_n rfl ?_
    refine q_iload_n rfl ?_
    refine q_ic_ge (fun c1 => ?_) (fun c1 => ?_)
    · rw [if_pos c1] at h
      refine mAt.blk bk_X0_bestStart_30 ck_X0_bestStart_30 ?_
      refine q_iload_n rfl ?_
      have h := Option.some.inj h
      subst h
      exact q_iretI mcap_0 rfl rfl
    · rw [if_neg c1] at h
      refine q_aload_n rfl ?_
      refine q_iload_n rfl ?_
      obtain ⟨q2, e2, h⟩ := mbind h
      refine q_vI1 mcap_0 rfl rfl ob_74 rfl (by decide) (ok_X0_howManyPlaces  e2) ?_
      refine q_aload_n rfl ?_
      refine q_iload_n rfl ?_
      obtain ⟨q3, e3, h⟩ := mbind h
      refine q_vI1 mcap_0 rfl rfl ob_74 rfl (by decide) (ok_X0_howManyPlaces  e3) ?_
      refine q_ic_le (fun c4 => ?_) (fun c4 => ?_)
      · rw [if_pos c4] at h
        exact okc_X0_bestStart_24 (fun _ _ _ _ e hl => ih  e hl) h ⟨rfl, rfl, rfl, rfl, trivial⟩
      · rw [if_neg c4] at h
        refine q_iload_n rfl ?_
        refine q_istore_n rfl rfl ?_
        exact okc_X0_bestStart_24 (fun _ _ _ _ e hl => ih  e hl) h ⟨rfl, rfl, rfl, rfl, trivial⟩
def f_X0_bestStart (p0 : Int32) (σ : Sg) : Option (Int32) := (c_X0_bestStart_4  σ 1000 p0 (0 : Int32) (1 : Int32))
set_option maxHeartbeats 4000000 in
theorem ok_X0_bestStart {L : Nat} {p0 : Int32} {σ : Sg} {R : Int32} (h : f_X0_bestStart p0 σ = some R) : mEv 2 4 [.ref 74, .int p0] (mSh, L, σ) (some (.int R)) (mSh, L, σ) := by
  refine mEv.of (by decide) rfl rfl ?_
  unfold f_X0_bestStart at h
  refine mAt.blk bk_X0_bestStart_0 ck_X0_bestStart_0 ?_
  refine q_iconst ?_
  refine q_istore_n rfl rfl ?_
  refine q_iconst ?_
  refine q_istore_n rfl rfl ?_
  exact okc_X0_bestStart_4  h ⟨rfl, rfl, rfl, rfl, trivial⟩
def bk_X2_copyFrom_0 : List mI := [(.aload_n 1, 1, 0, 0, 0, []), (.getfield 9, 3, 2, 0, 96, []), (.aload_n 0, 1, 0, 0, 0, []), (.getfield 9, 3, 2, 0, 96, []), (.invokestatic 21, 3, 132, 0, 900, []), (.aload_n 1, 1, 0, 0, 0, []), (.getfield 15, 3, 2, 1, 97, []), (.aload_n 0, 1, 0, 0, 0, []), (.getfield 15, 3, 2, 1, 97, []), (.invokestatic 21, 3, 132, 0, 900, []), (.aload_n 1, 1, 0, 0, 0, []), (.getfield 18, 3, 2, 2, 98, []), (.aload_n 0, 1, 0, 0, 0, []), (.getfield 18, 3, 2, 2, 98, []), (.invokestatic 21, 3, 132, 0, 900, []), (.aload_n 0, 1, 0, 0, 0, []), (.aload_n 1, 1, 0, 0, 0, []), (.getfield 25, 3, 2, 3, 99, []), (.putfield 25, 3, 2, 3, 99, []), (.return_, 1, 0, 0, 0, [])]
theorem ck_X2_copyFrom_0 : mChk 9 0 bk_X2_copyFrom_0 = true := by decide +kernel
def f_X2_copyFrom (a r0 : Nat) (σ : Sg) : Option (Sg) := ((f_X11_copyRow (r0 + 1) 12 (a + 1) 12 σ).bind fun q1 => ((f_X11_copyRow (r0 + 2) 12 (a + 2) 12 q1).bind fun q2 => ((f_X11_copyRow (r0 + 3) 12 (a + 3) 12 q2).bind fun q3 => (some (mup q3 a 3 (q3 r0 3))))))
set_option maxHeartbeats 4000000 in
theorem ok_X2_copyFrom {L : Nat} {a r0 : Nat} {σ : Sg} {R : Sg} (ha : P2 a) (hr0 : P2 r0) (h : f_X2_copyFrom a r0 σ = some R) : mEv 2 9 [.ref a, .ref r0] (mSh, L, σ) none (mSh, L, R) := by
  refine mEv.of (by decide) rfl rfl ?_
  unfold f_X2_copyFrom at h
  refine mAt.blk bk_X2_copyFrom_0 ck_X2_copyFrom_0 ?_
  refine q_aload_n rfl ?_
  refine q_getR (hr0).1 rfl rfl ?_
  refine q_aload_n rfl ?_
  refine q_getR (ha).1 rfl rfl ?_
  obtain ⟨q1, e1, h⟩ := mbind h
  refine q_sV2 mcap_0 rfl rfl rfl rfl (by decide) (ok_X11_copyRow (hr0).2.1 (ha).2.1 e1) ?_
  refine q_aload_n rfl ?_
  refine q_getR (hr0).1 rfl rfl ?_
  refine q_aload_n rfl ?_
  refine q_getR (ha).1 rfl rfl ?_
  obtain ⟨q2, e2, h⟩ := mbind h
  refine q_sV2 mcap_0 rfl rfl rfl rfl (by decide) (ok_X11_copyRow (hr0).2.2.1 (ha).2.2.1 e2) ?_
  refine q_aload_n rfl ?_
  refine q_getR (hr0).1 rfl rfl ?_
  refine q_aload_n rfl ?_
  refine q_getR (ha).1 rfl rfl ?_
  obtain ⟨q3, e3, h⟩ := mbind h
  refine q_sV2 mcap_0 rfl rfl rfl rfl (by decide) (ok_X11_copyRow (hr0).2.2.2 (ha).2.2.2 e3) ?_
  refine q_aload_n rfl ?_
  refine q_aload_n rfl ?_
  refine q_getI (hr0).1 rfl ?_
  refine q_putI (ha).1 rfl ?_
  have h := Option.some.inj h
  subst h
  exact q_vret mcap_0 rfl rfl
