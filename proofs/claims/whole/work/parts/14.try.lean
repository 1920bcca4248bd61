def bk_X11_lay_0 : List mI := [(.iload_n 1, 1, 0, 0, 0, []), (.ifCond .lt 13, 3, 14, 0, 0, []), (.iload_n 1, 1, 0, 0, 0, []), (.aload_n 0, 1, 0, 0, 0, []), (.arraylength, 1, 0, 0, 0, []), (.if_icmp .ge 7, 3, 14, 0, 0, []), (.aload_n 0, 1, 0, 0, 0, []), (.iload_n 1, 1, 0, 0, 0, []), (.iload_n 2, 1, 0, 0, 0, []), (.iastore, 1, 0, 0, 0, [])]
theorem ck_X11_lay_0 : mChk 131 0 bk_X11_lay_0 = true := by decide +kernel
def bk_X11_lay_14 : List mI := [(.return_, 1, 0, 0, 0, [])]
theorem ck_X11_lay_14 : mChk 131 14 bk_X11_lay_14 = true := by decide +kernel
def f_X11_lay (r0 n0 : Nat) (p1 : Int32) (p2 : Int32) (σ : Sg) : Option (Sg) := (if p1 < 0 then (some σ) else (if (Int32.ofNat n0) ≤ p1 then (some σ) else (if p1 < 0 ∨ n0 ≤ (p1).toNatClampNeg then none else (some (mup σ r0 (p1).toNatClampNeg p2)))))
set_option maxHeartbeats 4000000 in
theorem ok_X11_lay {L : Nat} {r0 n0 : Nat} {p1 : Int32} {p2 : Int32} {σ : Sg} {R : Sg} (hr0 : mnth mSh r0 = some (1, n0, [])) (h : f_X11_lay r0 n0 p1 p2 σ = some R) : mEv 0 131 [.ref r0, .int p1, .int p2] (mSh, L, σ) none (mSh, L, R) := by
  refine mEv.of (by decide) rfl rfl ?_
  unfold f_X11_lay at h
  refine mAt.blk bk_X11_lay_0 ck_X11_lay_0 ?_
  refine q_iload_n rfl ?_
  refine q_if_lt (fun c1 => ?_) (fun c1 => ?_)
  · rw [if_pos c1] at h
    refine mAt.blk bk_X11_lay_14 ck_X11_lay_14 ?_
    cases h
    exact q_vret rfl rfl
  · rw [if_neg c1] at h
    refine q_iload_n rfl ?_
    refine q_aload_n rfl ?_
    refine q_alen (v := (Int32.ofNat n0)) rfl hr0 ?_
    refine q_ic_ge (fun c2 => ?_) (fun c2 => ?_)
    · rw [if_pos c2] at h
      refine mAt.blk bk_X11_lay_14 ck_X11_lay_14 ?_
      cases h
      exact q_vret rfl rfl
    · rw [if_neg c2] at h
      refine q_aload_n rfl ?_
      refine q_iload_n rfl ?_
      refine q_iload_n rfl ?_
      obtain ⟨c3, h⟩ := mnone h
      refine q_iast rfl hr0 c3 ?_
      refine mAt.blk bk_X11_lay_14 ck_X11_lay_14 ?_
      cases h
      exact q_vret rfl rfl
def bk_X11_pick_0 : List mI := [(.iload_n 1, 1, 0, 0, 0, []), (.ifCond .lt 15, 3, 16, 0, 0, []), (.iload_n 1, 1, 0, 0, 0, []), (.aload_n 0, 1, 0, 0, 0, []), (.arraylength, 1, 0, 0, 0, []), (.if_icmp .ge 9, 3, 16, 0, 0, []), (.aload_n 0, 1, 0, 0, 0, []), (.iload_n 1, 1, 0, 0, 0, []), (.iaload, 1, 0, 0, 0, []), (.goto 4, 3, 17, 0, 0, [])]
theorem ck_X11_pick_0 : mChk 130 0 bk_X11_pick_0 = true := by decide +kernel
def bk_X11_pick_16 : List mI := [(.iconst 0, 1, 0, 0, 0, [(0, 0)])]
theorem ck_X11_pick_16 : mChk 130 16 bk_X11_pick_16 = true := by decide +kernel
def bk_X11_pick_17 : List mI := [(.ireturn, 1, 0, 0, 0, [])]
theorem ck_X11_pick_17 : mChk 130 17 bk_X11_pick_17 = true := by decide +kernel
def f_X11_pick (r0 n0 : Nat) (p1 : Int32) (σ : Sg) : Option (Int32) := (if p1 < 0 then (some (0 : Int32)) else (if (Int32.ofNat n0) ≤ p1 then (some (0 : Int32)) else (if p1 < 0 ∨ n0 ≤ (p1).toNatClampNeg then none else (some (σ r0 (p1).toNatClampNeg)))))
set_option maxHeartbeats 4000000 in
theorem ok_X11_pick {L : Nat} {r0 n0 : Nat} {p1 : Int32} {σ : Sg} {R : Int32} (hr0 : ∀ L σ, mal (mSh, L, σ) r0 = some n0) (h : f_X11_pick r0 n0 p1 σ = some R) : mEv 0 130 [.ref r0, .int p1] (mSh, L, σ) (some (.int R)) (mSh, L, σ) := by
  refine mEv.of (by decide) rfl rfl ?_
  unfold f_X11_pick at h
  refine mAt.blk bk_X11_pick_0 ck_X11_pick_0 ?_
  refine q_iload_n rfl ?_
  refine q_if_lt (fun c1 => ?_) (fun c1 => ?_)
  · rw [if_pos c1] at h
    refine mAt.blk bk_X11_pick_16 ck_X11_pick_16 ?_
    refine q_iconst ?_
    refine mAt.blk bk_X11_pick_17 ck_X11_pick_17 ?_
    cases h
    exact q_iretI rfl rfl
  · rw [if_neg c1] at h
    refine q_iload_n rfl ?_
    refine q_aload_n rfl ?_
    refine q_alenD (v := (Int32.ofNat n0)) rfl (hr0 _ _) ?_
    refine q_ic_ge (fun c2 => ?_) (fun c2 => ?_)
    · rw [if_pos c2] at h
      refine mAt.blk bk_X11_pick_16 ck_X11_pick_16 ?_
      refine q_iconst ?_
      refine mAt.blk bk_X11_pick_17 ck_X11_pick_17 ?_
      cases h
      exact q_iretI rfl rfl
    · rw [if_neg c2] at h
      refine q_aload_n rfl ?_
      refine q_iload_n rfl ?_
      obtain ⟨c3, h⟩ := mnone h
      refine q_iald (hr0 _ _) rfl c3 ?_
      refine q_goto ?_
      refine mAt.blk bk_X11_pick_17 ck_X11_pick_17 ?_
      cases h
      exact q_iretI rfl rfl
def bk_X9_daysOf_0 : List mI := [(.aload_n 0, 1, 0, 0, 0, []), (.getfield 15, 3, 9, 1, 187, []), (.iload_n 1, 1, 0, 0, 0, []), (.invokestatic 48, 3, 130, 0, 439, []), (.ireturn, 1, 0, 0, 0, [])]
theorem ck_X9_daysOf_0 : mChk 59 0 bk_X9_daysOf_0 = true := by decide +kernel
def f_X9_daysOf (a : Nat) (p0 : Int32) (σ : Sg) : Option (Int32) := ((f_X11_pick (a + 2) 9 p0 σ).bind fun q1 => (some q1))
set_option maxHeartbeats 4000000 in
theorem ok_X9_daysOf {L : Nat} {a : Nat} {p0 : Int32} {σ : Sg} {R : Int32} (ha : P9 a) (h : f_X9_daysOf a p0 σ = some R) : mEv 1 59 [.ref a, .int p0] (mSh, L, σ) (some (.int R)) (mSh, L, σ) := by
  refine mEv.of (by decide) rfl rfl ?_
  unfold f_X9_daysOf at h
  refine mAt.blk bk_X9_daysOf_0 ck_X9_daysOf_0 ?_
  refine q_aload_n rfl ?_
  refine q_getR (ha).1 rfl rfl ?_
  refine q_iload_n rfl ?_
  obtain ⟨q1, e1, h⟩ := mbind h
  refine q_sI2 rfl rfl rfl rfl (by decide) (ok_X11_pick (mrd (ha).2.2.1) e1) ?_
  cases h
  exact q_iretI rfl rfl
def bk_X9_has_0 : List mI := [(.iload_n 1, 1, 0, 0, 0, []), (.ifCond .lt 15, 3, 16, 0, 0, []), (.iload_n 1, 1, 0, 0, 0, []), (.aload_n 0, 1, 0, 0, 0, []), (.getfield 28, 3, 9, 4, 195, []), (.if_icmp .ge 7, 3, 16, 0, 0, []), (.iconst 1, 1, 0, 0, 0, [(1, 0)]), (.goto 4, 3, 17, 0, 0, [])]
theorem ck_X9_has_0 : mChk 54 0 bk_X9_has_0 = true := by decide +kernel
def bk_X9_has_16 : List mI := [(.iconst 0, 1, 0, 0, 0, [(0, 0)])]
theorem ck_X9_has_16 : mChk 54 16 bk_X9_has_16 = true := by decide +kernel
def bk_X9_has_17 : List mI := [(.ireturn, 1, 0, 0, 0, [])]
theorem ck_X9_has_17 : mChk 54 17 bk_X9_has_17 = true := by decide +kernel
def f_X9_has (a : Nat) (p0 : Int32) (σ : Sg) : Option (Int32) := (if p0 < 0 then (some (0 : Int32)) else (if (σ a 4) ≤ p0 then (some (0 : Int32)) else (some (1 : Int32))))
set_option maxHeartbeats 4000000 in
theorem ok_X9_has {L : Nat} {a : Nat} {p0 : Int32} {σ : Sg} {R : Int32} (ha : P9 a) (h : f_X9_has a p0 σ = some R) : mEv 0 54 [.ref a, .int p0] (mSh, L, σ) (some (.int R)) (mSh, L, σ) := by
  refine mEv.of (by decide) rfl rfl ?_
  unfold f_X9_has at h
  refine mAt.blk bk_X9_has_0 ck_X9_has_0 ?_
  refine q_iload_n rfl ?_
  refine q_if_lt (fun c1 => ?_) (fun c1 => ?_)
  · rw [if_pos c1] at h
    refine mAt.blk bk_X9_has_16 ck_X9_has_16 ?_
    refine q_iconst ?_
    refine mAt.blk bk_X9_has_17 ck_X9_has_17 ?_
    cases h
    exact q_iretZ rfl (by decide) rfl
  · rw [if_neg c1] at h
    refine q_iload_n rfl ?_
    refine q_aload_n rfl ?_
    refine q_getI (ha).1 rfl ?_
    refine q_ic_ge (fun c2 => ?_) (fun c2 => ?_)
    · rw [if_pos c2] at h
      refine mAt.blk bk_X9_has_16 ck_X9_has_16 ?_
      refine q_iconst ?_
      refine mAt.blk bk_X9_has_17 ck_X9_has_17 ?_
      cases h
      exact q_iretZ rfl (by decide) rfl
    · rw [if_neg c2] at h
      refine q_iconst ?_
      refine q_goto ?_
      refine mAt.blk bk_X9_has_17 ck_X9_has_17 ?_
      cases h
      exact q_iretZ rfl (by decide) rfl
def bk_X9_leadsTo_0 : List mI := [(.aload_n 0, 1, 0, 0, 0, []), (.iload_n 1, 1, 0, 0, 0, []), (.invokevirtual 40, 3, 54, 0, 431, []), (.ifCond .eq 14, 3, 19, 0, 0, []), (.aload_n 0, 1, 0, 0, 0, []), (.getfield 9, 3, 9, 0, 186, []), (.iload_n 1, 1, 0, 0, 0, []), (.invokestatic 48, 3, 130, 0, 439, []), (.goto 4, 3, 20, 0, 0, [])]
theorem ck_X9_leadsTo_0 : mChk 58 0 bk_X9_leadsTo_0 = true := by decide +kernel
def bk_X9_leadsTo_19 : List mI := [(.iconst (-1), 1, 0, 0, 0, [((-1), 0)])]
theorem ck_X9_leadsTo_19 : mChk 58 19 bk_X9_leadsTo_19 = true := by decide +kernel
def bk_X9_leadsTo_20 : List mI := [(.ireturn, 1, 0, 0, 0, [])]
theorem ck_X9_leadsTo_20 : mChk 58 20 bk_X9_leadsTo_20 = true := by decide +kernel
def f_X9_leadsTo (a : Nat) (p0 : Int32) (σ : Sg) : Option (Int32) := ((f_X9_has a p0 σ).bind fun q1 => (if q1 = 0 then (some (-1 : Int32)) else ((f_X11_pick (a + 1) 9 p0 σ).bind fun q3 => (some q3))))
set_option maxHeartbeats 4000000 in
theorem ok_X9_leadsTo {L : Nat} {a : Nat} {p0 : Int32} {σ : Sg} {R : Int32} (ha : P9 a) (h : f_X9_leadsTo a p0 σ = some R) : mEv 1 58 [.ref a, .int p0] (mSh, L, σ) (some (.int R)) (mSh, L, σ) := by
  refine mEv.of (by decide) rfl rfl ?_
  unfold f_X9_leadsTo at h
  refine mAt.blk bk_X9_leadsTo_0 ck_X9_leadsTo_0 ?_
  refine q_aload_n rfl ?_
  refine q_iload_n rfl ?_
  obtain ⟨q1, e1, h⟩ := mbind h
  refine q_vI1 rfl rfl (ha).1 rfl (by decide) (ok_X9_has ha e1) ?_
  refine q_if_eq (fun c2 => ?_) (fun c2 => ?_)
  · rw [if_pos c2] at h
    refine mAt.blk bk_X9_leadsTo_19 ck_X9_leadsTo_19 ?_
    refine q_iconst ?_
    refine mAt.blk bk_X9_leadsTo_20 ck_X9_leadsTo_20 ?_
    cases h
    exact q_iretI rfl rfl
  · rw [if_neg c2] at h
    refine q_aload_n rfl ?_
    refine q_getR (ha).1 rfl rfl ?_
    refine q_iload_n rfl ?_
    obtain ⟨q3, e3, h⟩ := mbind h
    refine q_sI2 rfl rfl rfl rfl (by decide) (ok_X11_pick (mrd (ha).2.1) e3) ?_
    refine q_goto ?_
    refine mAt.blk bk_X9_leadsTo_20 ck_X9_leadsTo_20 ?_
    cases h
    exact q_iretI rfl rfl
def bk_X9_placeOn_0 : List mI := [(.iload_n 1, 1, 0, 0, 0, []), (.istore_n 3, 1, 0, 0, 0, []), (.iconst 0, 1, 0, 0, 0, [(0, 0)]), (.istore 4, 2, 0, 0, 0, []), (.iconst 0, 1, 0, 0, 0, [(0, 0)]), (.istore 5, 2, 0, 0, 0, [])]
theorem ck_X9_placeOn_0 : mChk 60 0 bk_X9_placeOn_0 = true := by decide +kernel
def bk_X9_placeOn_8 : List mI := [(.iload 5, 2, 0, 0, 0, []), (.iload_n 2, 1, 0, 0, 0, []), (.if_icmp .ge 41, 3, 52, 0, 0, []), (.iload 4, 2, 0, 0, 0, []), (.iload_n 2, 1, 0, 0, 0, []), (.if_icmp .ge 35, 3, 52, 0, 0, []), (.aload_n 0, 1, 0, 0, 0, []), (.iload_n 3, 1, 0, 0, 0, []), (.invokevirtual 40, 3, 54, 0, 431, []), (.ifCond .ne 5, 3, 30, 0, 0, []), (.iconst (-1), 1, 0, 0, 0, [((-1), 0)]), (.ireturn, 1, 0, 0, 0, [])]
theorem ck_X9_placeOn_8 : mChk 60 8 bk_X9_placeOn_8 = true := by decide +kernel
def bk_X9_placeOn_30 : List mI := [(.iload 4, 2, 0, 0, 0, []), (.aload_n 0, 1, 0, 0, 0, []), (.iload_n 3, 1, 0, 0, 0, []), (.invokevirtual 52, 3, 59, 0, 729, []), (.iadd, 1, 0, 0, 0, []), (.istore 4, 2, 0, 0, 0, []), (.aload_n 0, 1, 0, 0, 0, []), (.iload_n 3, 1, 0, 0, 0, []), (.invokevirtual 56, 3, 58, 0, 728, []), (.istore_n 3, 1, 0, 0, 0, []), (.iinc 5 1, 3, 0, 0, 0, [(1, 0)]), (.goto (-41), 3, 8, 0, 0, [])]
theorem ck_X9_placeOn_30 : mChk 60 30 bk_X9_placeOn_30 = true := by decide +kernel
def bk_X9_placeOn_52 : List mI := [(.iload 4, 2, 0, 0, 0, []), (.iload_n 2, 1, 0, 0, 0, []), (.if_icmp .ne 7, 3, 62, 0, 0, []), (.iload_n 3, 1, 0, 0, 0, []), (.goto 4, 3, 63, 0, 0, [])]
theorem ck_X9_placeOn_52 : mChk 60 52 bk_X9_placeOn_52 = true := by decide +kernel
def bk_X9_placeOn_62 : List mI := [(.iconst (-1), 1, 0, 0, 0, [((-1), 0)])]
theorem ck_X9_placeOn_62 : mChk 60 62 bk_X9_placeOn_62 = true := by decide +kernel
def bk_X9_placeOn_63 : List mI := [(.ireturn, 1, 0, 0, 0, [])]
theorem ck_X9_placeOn_63 : mChk 60 63 bk_X9_placeOn_63 = true := by decide +kernel
def c_X9_placeOn_52 (a : Nat) (σ : Sg) (x2 : Int32) (x3 : Int32) (x4 : Int32) : Option (Int32) := (if x4 = x2 then (some x3) else (some (-1 : Int32)))
set_option maxHeartbeats 4000000 in
theorem okc_X9_placeOn_52 {L : Nat} {a : Nat} {σ : Sg} {R : Int32} (ha : P9 a) {x2 : Int32} {x3 : Int32} {x4 : Int32} {pl : mLoc} (h : c_X9_placeOn_52 a σ x2 x3 x4 = some R) (hl : mlf [none, none, some (.int x2), some (.int x3), some (.int x4), none] pl) : mAt 2 60 (some (.int R), (mSh, L, σ)) 52 pl [] (mSh, L, σ) 0 0 := by
  refine mAt.less hl ?_
  unfold c_X9_placeOn_52 at h
  refine mAt.blk bk_X9_placeOn_52 ck_X9_placeOn_52 ?_
  refine q_iload rfl ?_
  refine q_iload_n rfl ?_
  refine q_ic_ne (fun c7 => ?_) (fun c7 => ?_)
  · rw [if_pos c7] at h
    refine q_iload_n rfl ?_
    refine q_goto ?_
    refine mAt.blk bk_X9_placeOn_63 ck_X9_placeOn_63 ?_
    cases h
    exact q_iretI rfl rfl
  · rw [if_neg c7] at h
    refine mAt.blk bk_X9_placeOn_62 ck_X9_placeOn_62 ?_
    refine q_iconst ?_
    refine mAt.blk bk_X9_placeOn_63 ck_X9_placeOn_63 ?_
    cases h
    exact q_iretI rfl rfl
def c_X9_placeOn_8 (a : Nat) (σ : Sg) : Nat → Int32 → Int32 → Int32 → Int32 → Option (Int32)
  | 0, _, _, _, _ => none
  | n + 1, x2, x3, x4, x5 => (if x2 ≤ x5 then (c_X9_placeOn_52  a σ x2 x3 x4) else (if x2 ≤ x4 then (c_X9_placeOn_52  a σ x2 x3 x4) else ((f_X9_has a x3 σ).bind fun q3 => (if q3 = 0 then (some (-1 : Int32)) else ((f_X9_daysOf a x3 σ).bind fun q5 => ((f_X9_leadsTo a x3 σ).bind fun q6 => (c_X9_placeOn_8 a σ n x2 q6 (x4 + q5) (x5 + (1 : Int32)))))))))
set_option maxHeartbeats 4000000 in
theorem okc_X9_placeOn_8 {L : Nat} {a : Nat} {σ : Sg} {R : Int32} (ha : P9 a) {n : Nat} {x2 : Int32} {x3 : Int32} {x4 : Int32} {x5 : Int32} {pl : mLoc} (h : c_X9_placeOn_8 a σ n x2 x3 x4 x5 = some R) (hl : mlf [some (.ref a), none, some (.int x2), some (.int x3), some (.int x4), some (.int x5)] pl) : mAt 2 60 (some (.int R), (mSh, L, σ)) 8 pl [] (mSh, L, σ) 0 0 := by
  induction n generalizing x2 x3 x4 x5 pl with
  | zero =>
    rw [c_X9_placeOn_8.eq_1] at h
    cases h
  | succ n ih =>
    refine mAt.less hl ?_
    rw [c_X9_placeOn_8.eq_2] at h
    refine mAt.blk bk_X9_placeOn_8 ck_X9_placeOn_8 ?_
    refine q_iload rfl ?_
    refine q_iload_n rfl ?_
    refine q_ic_ge (fun c1 => ?_) (fun c1 => ?_)
    · rw [if_pos c1] at h
      exact okc_X9_placeOn_52 ha h ⟨rfl, rfl, rfl, trivial⟩
    · rw [if_neg c1] at h
      refine q_iload rfl ?_
      refine q_iload_n rfl ?_
      refine q_ic_ge (fun c2 => ?_) (fun c2 => ?_)
      · rw [if_pos c2] at h
        exact okc_X9_placeOn_52 ha h ⟨rfl, rfl, rfl, trivial⟩
      · rw [if_neg c2] at h
        refine q_aload_n rfl ?_
        refine q_iload_n rfl ?_
        obtain ⟨q3, e3, h⟩ := mbind h
        refine q_vI1 rfl rfl (ha).1 rfl (by decide) (ok_X9_has ha e3) ?_
        refine q_if_ne (fun c4 => ?_) (fun c4 => ?_)
        · rw [if_pos c4] at h
          refine q_iconst ?_
          cases h
          exact q_iretI rfl rfl
        · rw [if_neg c4] at h
          refine mAt.blk bk_X9_placeOn_30 ck_X9_placeOn_30 ?_
          refine q_iload rfl ?_
          refine q_aload_n rfl ?_
          refine q_iload_n rfl ?_
          obtain ⟨q5, e5, h⟩ := mbind h
          refine q_vI1 rfl rfl (ha).1 rfl (by decide) (ok_X9_daysOf ha e5) ?_
          refine q_iadd ?_
          refine q_istore rfl rfl ?_
          refine q_aload_n rfl ?_
          refine q_iload_n rfl ?_
          obtain ⟨q6, e6, h⟩ := mbind h
          refine q_vI1 rfl rfl (ha).1 rfl (by decide) (ok_X9_leadsTo ha e6) ?_
          refine q_istore_n rfl rfl ?_
          refine q_iinc rfl rfl ?_
          refine q_goto ?_
          exact ih  h ⟨rfl, rfl, rfl, rfl, rfl, trivial⟩
def f_X9_placeOn (a : Nat) (p0 : Int32) (p1 : Int32) (σ : Sg) : Option (Int32) := (c_X9_placeOn_8  a σ 1000 p1 p0 (0 : Int32) (0 : Int32))
set_option maxHeartbeats 4000000 in
theorem ok_X9_placeOn {L : Nat} {a : Nat} {p0 : Int32} {p1 : Int32} {σ : Sg} {R : Int32} (ha : P9 a) (h : f_X9_placeOn a p0 p1 σ = some R) : mEv 2 60 [.ref a, .int p0, .int p1] (mSh, L, σ) (some (.int R)) (mSh, L, σ) := by
  refine mEv.of (by decide) rfl rfl ?_
  unfold f_X9_placeOn at h
  refine mAt.blk bk_X9_placeOn_0 ck_X9_placeOn_0 ?_
  refine q_iload_n rfl ?_
  refine q_istore_n rfl rfl ?_
  refine q_iconst ?_
  refine q_istore rfl rfl ?_
  refine q_iconst ?_
  refine q_istore rfl rfl ?_
  exact okc_X9_placeOn_8 ha h ⟨rfl, rfl, rfl, rfl, rfl, trivial⟩
def bk_X3_next_0 : List mI := [(.aload_n 0, 1, 0, 0, 0, []), (.getfield 26, 3, 3, 3, 280, []), (.ifCond .lt 47, 3, 51, 0, 0, []), (.aload_n 0, 1, 0, 0, 0, []), (.getfield 26, 3, 3, 3, 280, []), (.aload_n 0, 1, 0, 0, 0, []), (.getfield 18, 3, 3, 1, 278, []), (.getfield 36, 3, 4, 1, 142, []), (.if_icmp .ge 33, 3, 51, 0, 0, []), (.aload_n 0, 1, 0, 0, 0, []), (.getfield 26, 3, 3, 3, 280, []), (.aload_n 0, 1, 0, 0, 0, []), (.getfield 18, 3, 3, 1, 278, []), (.getfield 72, 3, 4, 0, 139, []), (.arraylength, 1, 0, 0, 0, []), (.if_icmp .ge 18, 3, 51, 0, 0, []), (.aload_n 0, 1, 0, 0, 0, []), (.getfield 18, 3, 3, 1, 278, []), (.getfield 72, 3, 4, 0, 139, []), (.aload_n 0, 1, 0, 0, 0, []), (.getfield 26, 3, 3, 3, 280, []), (.iaload, 1, 0, 0, 0, []), (.goto 4, 3, 52, 0, 0, [])]
theorem ck_X3_next_0 : mChk 20 0 bk_X3_next_0 = true := by decide +kernel
def bk_X3_next_51 : List mI := [(.iconst (-1), 1, 0, 0, 0, [((-1), 0)])]
theorem ck_X3_next_51 : mChk 20 51 bk_X3_next_51 = true := by decide +kernel
def bk_X3_next_52 : List mI := [(.ireturn, 1, 0, 0, 0, [])]
theorem ck_X3_next_52 : mChk 20 52 bk_X3_next_52 = true := by decide +kernel
def f_X3_next (σ : Sg) : Option (Int32) := (if (σ 70 3) < 0 then (some (-1 : Int32)) else (if (σ 12 1) ≤ (σ 70 3) then (some (-1 : Int32)) else (if (50 : Int32) ≤ (σ 70 3) then (some (-1 : Int32)) else (if (σ 70 3) < 0 ∨ 50 ≤ ((σ 70 3)).toNatClampNeg then none else (some (σ 13 ((σ 70 3)).toNatClampNeg))))))
set_option maxHeartbeats 4000000 in
theorem ok_X3_next {L : Nat} {σ : Sg} {R : Int32} (h : f_X3_next σ = some R) : mEv 0 20 [.ref 70] (mSh, L, σ) (some (.int R)) (mSh, L, σ) := by
  refine mEv.of (by decide) rfl rfl ?_
  unfold f_X3_next at h
  refine mAt.blk bk_X3_next_0 ck_X3_next_0 ?_
  refine q_aload_n rfl ?_
  refine q_getI ob_70 rfl ?_
  refine q_if_lt (fun c1 => ?_) (fun c1 => ?_)
  · rw [if_pos c1] at h
    refine mAt.blk bk_X3_next_51 ck_X3_next_51 ?_
    refine q_iconst ?_
    refine mAt.blk bk_X3_next_52 ck_X3_next_52 ?_
    cases h
    exact q_iretI rfl rfl
  · rw [if_neg c1] at h
    refine q_aload_n rfl ?_
    refine q_getI ob_70 rfl ?_
    refine q_aload_n rfl ?_
    refine q_getR ob_70 rfl rfl ?_
    refine q_getI ob_12 rfl ?_
    refine q_ic_ge (fun c2 => ?_) (fun c2 => ?_)
    · rw [if_pos c2] at h
      refine mAt.blk bk_X3_next_51 ck_X3_next_51 ?_
      refine q_iconst ?_
      refine mAt.blk bk_X3_next_52 ck_X3_next_52 ?_
      cases h
      exact q_iretI rfl rfl
    · rw [if_neg c2] at h
      refine q_aload_n rfl ?_
      refine q_getI ob_70 rfl ?_
      refine q_aload_n rfl ?_
      refine q_getR ob_70 rfl rfl ?_
      refine q_getR ob_12 rfl rfl ?_
      refine q_alen (v := (50 : Int32)) rfl ar_13 ?_
      refine q_ic_ge (fun c3 => ?_) (fun c3 => ?_)
      · rw [if_pos c3] at h
        refine mAt.blk bk_X3_next_51 ck_X3_next_51 ?_
        refine q_iconst ?_
        refine mAt.blk bk_X3_next_52 ck_X3_next_52 ?_
        cases h
        exact q_iretI rfl rfl
      · rw [if_neg c3] at h
        refine q_aload_n rfl ?_
        refine q_getR ob_70 rfl rfl ?_
        refine q_getR ob_12 rfl rfl ?_
        refine q_aload_n rfl ?_
        refine q_getI ob_70 rfl ?_
        obtain ⟨c4, h⟩ := mnone h
        refine q_iald (mrd ar_13 _ _) rfl c4 ?_
        refine q_goto ?_
        refine mAt.blk bk_X3_next_52 ck_X3_next_52 ?_
        cases h
        exact q_iretI rfl rfl
def bk_X7_bits_0 : List mI := [(.iconst 0, 1, 0, 0, 0, [(0, 0)]), (.istore_n 3, 1, 0, 0, 0, []), (.iconst 0, 1, 0, 0, 0, [(0, 0)]), (.istore 4, 2, 0, 0, 0, [])]
theorem ck_X7_bits_0 : mChk 43 0 bk_X7_bits_0 = true := by decide +kernel
def bk_X7_bits_5 : List mI := [(.iload 4, 2, 0, 0, 0, []), (.aload_n 0, 1, 0, 0, 0, []), (.getfield 34, 3, 7, 6, 231, []), (.if_icmp .ge 45, 3, 56, 0, 0, []), (.iload 4, 2, 0, 0, 0, []), (.bipush 10, 2, 0, 0, 0, [(10, 0)]), (.if_icmp .ge 38, 3, 56, 0, 0, []), (.aload_n 0, 1, 0, 0, 0, []), (.getfield 18, 3, 7, 2, 221, []), (.iload 4, 2, 0, 0, 0, []), (.iaload, 1, 0, 0, 0, []), (.iload_n 1, 1, 0, 0, 0, []), (.if_icmp .ne 21, 3, 50, 0, 0, []), (.aload_n 0, 1, 0, 0, 0, []), (.getfield 21, 3, 7, 3, 224, []), (.iload 4, 2, 0, 0, 0, []), (.iaload, 1, 0, 0, 0, []), (.iload_n 2, 1, 0, 0, 0, []), (.if_icmp .ne 10, 3, 50, 0, 0, []), (.iload_n 3, 1, 0, 0, 0, []), (.iconst 1, 1, 0, 0, 0, [(1, 0)]), (.iload 4, 2, 0, 0, 0, []), (.ishl, 1, 0, 0, 0, []), (.ior, 1, 0, 0, 0, []), (.istore_n 3, 1, 0, 0, 0, [])]
theorem ck_X7_bits_5 : mChk 43 5 bk_X7_bits_5 = true := by decide +kernel
def bk_X7_bits_50 : List mI := [(.iinc 4 1, 3, 0, 0, 0, [(1, 0)]), (.goto (-48), 3, 5, 0, 0, [])]
theorem ck_X7_bits_50 : mChk 43 50 bk_X7_bits_50 = true := by decide +kernel
def bk_X7_bits_56 : List mI := [(.iload_n 3, 1, 0, 0, 0, []), (.ireturn, 1, 0, 0, 0, [])]
theorem ck_X7_bits_56 : mChk 43 56 bk_X7_bits_56 = true := by decide +kernel
def c_X7_bits_50 (k5 : Int32 → Int32 → Int32 → Int32 → Option (Int32)) (a : Nat) (σ : Sg) (x1 : Int32) (x2 : Int32) (x3 : Int32) (x4 : Int32) : Option (Int32) := (k5 x1 x2 x3 (x4 + (1 : Int32)))
set_option maxHeartbeats 4000000 in
theorem okc_X7_bits_50 {L : Nat} {k5 : Int32 → Int32 → Int32 → Int32 → Option (Int32)} {a : Nat} {σ : Sg} {R : Int32} (ha : P7 a) (Hk5 : ∀ (x1 : Int32) (x2 : Int32) (x3 : Int32) (x4 : Int32) (pl : mLoc), k5 x1 x2 x3 x4 = some R → mlf [some (.ref a), some (.int x1), some (.int x2), some (.int x3), some (.int x4)] pl → mAt 0 43 (some (.int R), (mSh, L, σ)) 5 pl [] (mSh, L, σ) 0 0) {x1 : Int32} {x2 : Int32} {x3 : Int32} {x4 : Int32} {pl : mLoc} (h : c_X7_bits_50 k5 a σ x1 x2 x3 x4 = some R) (hl : mlf [some (.ref a), some (.int x1), some (.int x2), some (.int x3), some (.int x4)] pl) : mAt 0 43 (some (.int R), (mSh, L, σ)) 50 pl [] (mSh, L, σ) 0 0 := by
  refine mAt.less hl ?_
  unfold c_X7_bits_50 at h
  refine mAt.blk bk_X7_bits_50 ck_X7_bits_50 ?_
  refine q_iinc rfl rfl ?_
  refine q_goto ?_
  exact Hk5 _ _ _ _ _  h ⟨rfl, rfl, rfl, rfl, rfl, trivial⟩
def c_X7_bits_5 (a : Nat) (σ : Sg) : Nat → Int32 → Int32 → Int32 → Int32 → Option (Int32)
  | 0, _, _, _, _ => none
  | n + 1, x1, x2, x3, x4 => (if (σ a 6) ≤ x4 then (some x3) else (if (10 : Int32) ≤ x4 then (some x3) else (if x4 < 0 ∨ 10 ≤ (x4).toNatClampNeg then none else (if (σ (a + 3) (x4).toNatClampNeg) = x1 then (if x4 < 0 ∨ 10 ≤ (x4).toNatClampNeg then none else (if (σ (a + 4) (x4).toNatClampNeg) = x2 then (c_X7_bits_50 (c_X7_bits_5 a σ n) a σ x1 x2 (x3 ||| ((1 : Int32) <<< (x4 &&& 31))) x4) else (c_X7_bits_50 (c_X7_bits_5 a σ n) a σ x1 x2 x3 x4))) else (c_X7_bits_50 (c_X7_bits_5 a σ n) a σ x1 x2 x3 x4)))))
set_option maxHeartbeats 4000000 in
theorem okc_X7_bits_5 {L : Nat} {a : Nat} {σ : Sg} {R : Int32} (ha : P7 a) {n : Nat} {x1 : Int32} {x2 : Int32} {x3 : Int32} {x4 : Int32} {pl : mLoc} (h : c_X7_bits_5 a σ n x1 x2 x3 x4 = some R) (hl : mlf [some (.ref a), some (.int x1), some (.int x2), some (.int x3), some (.int x4)] pl) : mAt 0 43 (some (.int R), (mSh, L, σ)) 5 pl [] (mSh, L, σ) 0 0 := by
  induction n generalizing x1 x2 x3 x4 pl with
  | zero =>
    rw [c_X7_bits_5.eq_1] at h
    cases h
  | succ n ih =>
    refine mAt.less hl ?_
    rw [c_X7_bits_5.eq_2] at h
    refine mAt.blk bk_X7_bits_5 ck_X7_bits_5 ?_
    refine q_iload rfl ?_
    refine q_aload_n rfl ?_
    refine q_getI (ha).1 rfl ?_
    refine q_ic_ge (fun c1 => ?_) (fun c1 => ?_)
    · rw [if_pos c1] at h
      refine mAt.blk bk_X7_bits_56 ck_X7_bits_56 ?_
      refine q_iload_n rfl ?_
      cases h
      exact q_iretI rfl rfl
    · rw [if_neg c1] at h
      refine q_iload rfl ?_
      refine q_bipush ?_
      refine q_ic_ge (fun c2 => ?_) (fun c2 => ?_)
      · rw [if_pos c2] at h
        refine mAt.blk bk_X7_bits_56 ck_X7_bits_56 ?_
        refine q_iload_n rfl ?_
        cases h
        exact q_iretI rfl rfl
      · rw [if_neg c2] at h
        refine q_aload_n rfl ?_
        refine q_getR (ha).1 rfl rfl ?_
        refine q_iload rfl ?_
        obtain ⟨c3, h⟩ := mnone h
        refine q_iald (mrd (ha).2.2.2.1 _ _) rfl c3 ?_
        refine q_iload_n rfl ?_
        refine q_ic_ne (fun c4 => ?_) (fun c4 => ?_)
        · rw [if_pos c4] at h
          refine q_aload_n rfl ?_
          refine q_getR (ha).1 rfl rfl ?_
          refine q_iload rfl ?_
          obtain ⟨c5, h⟩ := mnone h
          refine q_iald (mrd (ha).2.2.2.2.1 _ _) rfl c5 ?_
          refine q_iload_n rfl ?_
          refine q_ic_ne (fun c6 => ?_) (fun c6 => ?_)
          · rw [if_pos c6] at h
            refine q_iload_n rfl ?_
            refine q_iconst ?_
            refine q_iload rfl ?_
            refine q_ishl ?_
            refine q_ior ?_
            refine q_istore_n rfl rfl ?_
            exact okc_X7_bits_50 ha (fun _ _ _ _ _ e hl => ih  e hl) h ⟨rfl, rfl, rfl, rfl, rfl, trivial⟩
          · rw [if_neg c6] at h
            exact okc_X7_bits_50 ha (fun _ _ _ _ _ e hl => ih  e hl) h ⟨rfl, rfl, rfl, rfl, rfl, trivial⟩
        · rw [if_neg c4] at h
          exact okc_X7_bits_50 ha (fun _ _ _ _ _ e hl => ih  e hl) h ⟨rfl, rfl, rfl, rfl, rfl, trivial⟩
def f_X7_bits (a : Nat) (p0 : Int32) (p1 : Int32) (σ : Sg) : Option (Int32) := (c_X7_bits_5  a σ 1000 p0 p1 (0 : Int32) (0 : Int32))
set_option maxHeartbeats 4000000 in
theorem ok_X7_bits {L : Nat} {a : Nat} {p0 : Int32} {p1 : Int32} {σ : Sg} {R : Int32} (ha : P7 a) (h : f_X7_bits a p0 p1 σ = some R) : mEv 0 43 [.ref a, .int p0, .int p1] (mSh, L, σ) (some (.int R)) (mSh, L, σ) := by
  refine mEv.of (by decide) rfl rfl ?_
  unfold f_X7_bits at h
  refine mAt.blk bk_X7_bits_0 ck_X7_bits_0 ?_
  refine q_iconst ?_
  refine q_istore_n rfl rfl ?_
  refine q_iconst ?_
  refine q_istore rfl rfl ?_
  exact okc_X7_bits_5 ha h ⟨rfl, rfl, rfl, rfl, rfl, trivial⟩
def bk_X11_sheetAt_0 : List mI := [(.iload_n 1, 1, 0, 0, 0, []), (.ifCond .lt 21, 3, 22, 0, 0, []), (.iload_n 1, 1, 0, 0, 0, []), (.aload_n 0, 1, 0, 0, 0, []), (.getfield 70, 3, 11, 8, 369, []), (.arraylength, 1, 0, 0, 0, []), (.if_icmp .ge 12, 3, 22, 0, 0, []), (.aload_n 0, 1, 0, 0, 0, []), (.getfield 70, 3, 11, 8, 369, []), (.iload_n 1, 1, 0, 0, 0, []), (.aaload, 1, 0, 0, 0, []), (.goto 4, 3, 23, 0, 0, [])]
theorem ck_X11_sheetAt_0 : mChk 124 0 bk_X11_sheetAt_0 = true := by decide +kernel
def bk_X11_sheetAt_22 : List mI := [(.aconst_null, 1, 0, 0, 0, [])]
theorem ck_X11_sheetAt_22 : mChk 124 22 bk_X11_sheetAt_22 = true := by decide +kernel
def bk_X11_sheetAt_23 : List mI := [(.areturn, 1, 0, 0, 0, [])]
theorem ck_X11_sheetAt_23 : mChk 124 23 bk_X11_sheetAt_23 = true := by decide +kernel
def f_X11_sheetAt (p0 : Int32) (σ : Sg) : Option (Option Nat) := (if p0 < 0 then (some none) else (if (4 : Int32) ≤ p0 then (some none) else (if p0 < 0 ∨ 4 ≤ (p0).toNatClampNeg then none else (some (some (84 + 2 * (p0).toNatClampNeg))))))
set_option maxHeartbeats 4000000 in
theorem ok_X11_sheetAt {L : Nat} {p0 : Int32} {σ : Sg} {R : Option Nat} (h : f_X11_sheetAt p0 σ = some R) : mEv 0 124 [.ref 0, .int p0] (mSh, L, σ) (some (mpv R)) (mSh, L, σ) := by
  refine mEv.of (by decide) rfl rfl ?_
  unfold f_X11_sheetAt at h
  refine mAt.blk bk_X11_sheetAt_0 ck_X11_sheetAt_0 ?_
  refine q_iload_n rfl ?_
  refine q_if_lt (fun c1 => ?_) (fun c1 => ?_)
  · rw [if_pos c1] at h
    refine mAt.blk bk_X11_sheetAt_22 ck_X11_sheetAt_22 ?_
    refine q_aconst_null ?_
    refine mAt.blk bk_X11_sheetAt_23 ck_X11_sheetAt_23 ?_
    cases h
    exact q_aretN trivial rfl
  · rw [if_neg c1] at h
    refine q_iload_n rfl ?_
    refine q_aload_n rfl ?_
    refine q_getR ob_0 rfl rfl ?_
    refine q_alenQ (v := (4 : Int32)) rfl aq_83 ?_
    refine q_ic_ge (fun c2 => ?_) (fun c2 => ?_)
    · rw [if_pos c2] at h
      refine mAt.blk bk_X11_sheetAt_22 ck_X11_sheetAt_22 ?_
      refine q_aconst_null ?_
      refine mAt.blk bk_X11_sheetAt_23 ck_X11_sheetAt_23 ?_
      cases h
      exact q_aretN trivial rfl
    · rw [if_neg c2] at h
      refine q_aload_n rfl ?_
      refine q_getR ob_0 rfl rfl ?_
      refine q_iload_n rfl ?_
      obtain ⟨c3, h⟩ := mnone h
      refine q_aald aq_83 c3 (msheet _ (by have := c3; omega)).1 ?_
      refine q_goto ?_
      refine mAt.blk bk_X11_sheetAt_23 ck_X11_sheetAt_23 ?_
      cases h
      exact q_aretR trivial rfl
theorem ty_X11_sheetAt {p0 : Int32} {σ : Sg} {z : Nat} (h : f_X11_sheetAt p0 σ = some (some z)) : P5 z := by
  unfold f_X11_sheetAt at h
  split at h
  · cases h
  · split at h
    · cases h
    · obtain ⟨c1, h⟩ := mnone h
      cases h
      exact (msheet _ (by omega)).2
