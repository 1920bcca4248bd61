def bk_X11_text_0 : List mI := [(.iload_n 1, 1, 0, 0, 0, []), (.invokestatic 193, 3, 127, 0, 588, []), (.ifCond .ne 9, 3, 13, 0, 0, []), (.aload_n 0, 1, 0, 0, 0, []), (.iconst 1, 1, 0, 0, 0, [(1, 0)]), (.invokevirtual 89, 3, 123, 0, 399, []), (.ireturn, 1, 0, 0, 0, [])]
theorem ck_X11_text_0 : mChk 92 0 bk_X11_text_0 = true := by decide +kernel
def bk_X11_text_13 : List mI := [(.aload_n 0, 1, 0, 0, 0, []), (.getfield 50, 3, 11, 5, 366, []), (.iload_n 1, 1, 0, 0, 0, []), (.invokevirtual 196, 3, 14, 0, 591, []), (.istore_n 2, 1, 0, 0, 0, []), (.aload_n 0, 1, 0, 0, 0, []), (.getfield 10, 3, 11, 3, 364, []), (.getfield 43, 3, 1, 3, 156, []), (.iconst 0, 1, 0, 0, 0, [(0, 0)]), (.putfield 186, 3, 4, 1, 143, []), (.iload_n 2, 1, 0, 0, 0, []), (.ifCond .lt 8, 3, 42, 0, 0, []), (.bipush (-10), 2, 0, 0, 0, [((-10), 0)]), (.iload_n 2, 1, 0, 0, 0, []), (.isub, 1, 0, 0, 0, []), (.ireturn, 1, 0, 0, 0, [])]
theorem ck_X11_text_13 : mChk 92 13 bk_X11_text_13 = true := by decide +kernel
def bk_X11_text_42 : List mI := [(.iload_n 1, 1, 0, 0, 0, []), (.ifCond .ne 13, 3, 56, 0, 0, []), (.aload_n 0, 1, 0, 0, 0, []), (.getfield 10, 3, 11, 3, 364, []), (.getfield 21, 3, 1, 1, 152, []), (.goto 10, 3, 63, 0, 0, [])]
theorem ck_X11_text_42 : mChk 92 42 bk_X11_text_42 = true := by decide +kernel
def bk_X11_text_56 : List mI := [(.aload_n 0, 1, 0, 0, 0, []), (.getfield 10, 3, 11, 3, 364, []), (.getfield 25, 3, 1, 2, 154, [])]
theorem ck_X11_text_56 : mChk 92 56 bk_X11_text_56 = true := by decide +kernel
def bk_X11_text_63 : List mI := [(.astore_n 3, 1, 0, 0, 0, []), (.aload_n 3, 1, 0, 0, 0, []), (.aload_n 0, 1, 0, 0, 0, []), (.getfield 50, 3, 11, 5, 366, []), (.getfield 199, 3, 3, 0, 277, []), (.invokevirtual 202, 3, 32, 0, 633, []), (.iconst 1, 1, 0, 0, 0, [(1, 0)]), (.ireturn, 1, 0, 0, 0, [])]
theorem ck_X11_text_63 : mChk 92 63 bk_X11_text_63 = true := by decide +kernel
def c_X11_text_63 (s0 : Nat) (σ : Sg) : Option (Int32 × Sg) := ((f_X6_copyFrom s0 71 σ).bind fun q1 => (some ((1 : Int32), q1)))
set_option maxHeartbeats 4000000 in
theorem okc_X11_text_63 {L : Nat} {R : Int32 × Sg} {s0 : Nat} {σ : Sg} {pl : mLoc} (hs0 : P6 s0) (h : c_X11_text_63 s0 σ = some R) (hl : mlf [some (.ref 0), none, none, none] pl) : mAt 69 92 (some (.int R.1), (mSh, L, R.2)) 63 pl [.ref s0] (mSh, L, σ) 0 0 := by
  refine mAt.less hl ?_
  unfold c_X11_text_63 at h
  refine mAt.blk bk_X11_text_63 ck_X11_text_63 ?_
  refine q_astore_n rfl rfl ?_
  refine q_aload_n rfl ?_
  refine q_aload_n rfl ?_
  refine q_getR ob_0 rfl rfl ?_
  refine q_getR ob_70 rfl rfl ?_
  obtain ⟨q1, e1, h⟩ := mbind h
  refine q_vV1 mcap_0 rfl rfl (hs0).1 rfl (by decide) (ok_X6_copyFrom hs0 p6_71 e1) ?_
  refine q_iconst ?_
  have h := Option.some.inj h
  subst h
  exact q_iretI mcap_0 rfl rfl
def f_X11_text (p0 : Int32) (σ : Sg) : Option (Int32 × Sg) := ((f_X11_isUse p0 σ).bind fun q2 => (if q2 = 0 then ((f_X11_error (1 : Int32) σ).bind fun q7 => (some (q7.1, q7.2))) else ((f_X3_faultFor p0 σ).bind fun q4 => (if q4.1 < 0 then (if p0 = 0 then (c_X11_text_63   6 (mup q4.2 12 1 (0 : Int32))) else (c_X11_text_63   9 (mup q4.2 12 1 (0 : Int32)))) else (some (((-10 : Int32) - q4.1), (mup q4.2 12 1 (0 : Int32))))))))
set_option maxHeartbeats 4000000 in
theorem ok_X11_text {L : Nat} {p0 : Int32} {σ : Sg} {R : Int32 × Sg} (h : f_X11_text p0 σ = some R) : mEv 69 92 [.ref 0, .int p0] (mSh, L, σ) (some (.int R.1)) (mSh, L, R.2) := by
  refine mEv.of (by decide) rfl rfl ?_
  unfold f_X11_text at h
  refine mAt.blk bk_X11_text_0 ck_X11_text_0 ?_
  refine q_iload_n rfl ?_
  obtain ⟨q2, e2, h⟩ := mbind h
  refine q_sI1 mcap_0 rfl rfl rfl rfl (by decide) (ok_X11_isUse  e2) ?_
  refine q_if_ne (fun c3 => ?_) (fun c3 => ?_)
  · rw [if_pos c3] at h
    refine q_aload_n rfl ?_
    refine q_iconst ?_
    obtain ⟨q7, e7, h⟩ := mbind h
    refine q_vI1 mcap_0 rfl rfl ob_0 rfl (by decide) (ok_X11_error  e7) ?_
    have h := Option.some.inj h
    subst h
    exact q_iretI mcap_0 rfl rfl
  · rw [if_neg c3] at h
    refine mAt.blk bk_X11_text_13 ck_X11_text_13 ?_
    refine q_aload_n rfl ?_
    refine q_getR ob_0 rfl rfl ?_
    refine q_iload_n rfl ?_
    obtain ⟨q4, e4, h⟩ := mbind h
    refine q_vI1 mcap_0 rfl rfl ob_70 rfl (by decide) (ok_X3_faultFor  e4) ?_
    refine q_istore_n rfl rfl ?_
    refine q_aload_n rfl ?_
    refine q_getR ob_0 rfl rfl ?_
    refine q_getR ob_1 rfl rfl ?_
    refine q_iconst ?_
    refine q_putI ob_12 rfl ?_
    refine q_iload_n rfl ?_
    refine q_if_lt (fun c5 => ?_) (fun c5 => ?_)
    · rw [if_pos c5] at h
      refine mAt.blk bk_X11_text_42 ck_X11_text_42 ?_
      refine q_iload_n rfl ?_
      refine q_if_ne (fun c6 => ?_) (fun c6 => ?_)
      · rw [if_pos c6] at h
        refine q_aload_n rfl ?_
        refine q_getR ob_0 rfl rfl ?_
        refine q_getR ob_1 rfl rfl ?_
        refine q_goto ?_
        exact okc_X11_text_63 p6_6 h ⟨rfl, trivial⟩
      · rw [if_neg c6] at h
        refine mAt.blk bk_X11_text_56 ck_X11_text_56 ?_
        refine q_aload_n rfl ?_
        refine q_getR ob_0 rfl rfl ?_
        refine q_getR ob_1 rfl rfl ?_
        exact okc_X11_text_63 p6_9 h ⟨rfl, trivial⟩
    · rw [if_neg c5] at h
      refine q_bipush ?_
      refine q_iload_n rfl ?_
      refine q_isub ?_
      have h := Option.some.inj h
      subst h
      exact q_iretI mcap_0 rfl rfl
def bk_X11_law_0 : List mI := [(.iload_n 1, 1, 0, 0, 0, []), (.invokestatic 193, 3, 127, 0, 588, []), (.ifCond .ne 9, 3, 13, 0, 0, []), (.aload_n 0, 1, 0, 0, 0, []), (.iconst 1, 1, 0, 0, 0, [(1, 0)]), (.invokevirtual 89, 3, 123, 0, 399, []), (.ireturn, 1, 0, 0, 0, [])]
theorem ck_X11_law_0 : mChk 93 0 bk_X11_law_0 = true := by decide +kernel
def bk_X11_law_13 : List mI := [(.aload_n 0, 1, 0, 0, 0, []), (.getfield 31, 3, 11, 0, 361, []), (.iload_n 1, 1, 0, 0, 0, []), (.iload_n 2, 1, 0, 0, 0, []), (.iload_n 3, 1, 0, 0, 0, []), (.iload 4, 2, 0, 0, 0, []), (.iload 5, 2, 0, 0, 0, []), (.invokevirtual 208, 3, 72, 0, 648, []), (.ireturn, 1, 0, 0, 0, [])]
theorem ck_X11_law_13 : mChk 93 13 bk_X11_law_13 = true := by decide +kernel
def f_X11_law (p0 : Int32) (p1 : Int32) (p2 : Int32) (p3 : Int32) (p4 : Int32) (σ : Sg) : Option (Int32 × Sg) := ((f_X11_isUse p0 σ).bind fun q1 => (if q1 = 0 then ((f_X11_error (1 : Int32) σ).bind fun q4 => (some (q4.1, q4.2))) else ((f_X10_gives 31 6 9 p0 p1 p2 p3 p4 σ).bind fun q3 => (some (q3.1, q3.2)))))
set_option maxHeartbeats 4000000 in
theorem ok_X11_law {L : Nat} {p0 : Int32} {p1 : Int32} {p2 : Int32} {p3 : Int32} {p4 : Int32} {σ : Sg} {R : Int32 × Sg} (h : f_X11_law p0 p1 p2 p3 p4 σ = some R) : mEv 3 93 [.ref 0, .int p0, .int p1, .int p2, .int p3, .int p4] (mSh, L, σ) (some (.int R.1)) (mSh, L, R.2) := by
  refine mEv.of (by decide) rfl rfl ?_
  unfold f_X11_law at h
  refine mAt.blk bk_X11_law_0 ck_X11_law_0 ?_
  refine q_iload_n rfl ?_
  obtain ⟨q1, e1, h⟩ := mbind h
  refine q_sI1 mcap_0 rfl rfl rfl rfl (by decide) (ok_X11_isUse  e1) ?_
  refine q_if_ne (fun c2 => ?_) (fun c2 => ?_)
  · rw [if_pos c2] at h
    refine q_aload_n rfl ?_
    refine q_iconst ?_
    obtain ⟨q4, e4, h⟩ := mbind h
    refine q_vI1 mcap_0 rfl rfl ob_0 rfl (by decide) (ok_X11_error  e4) ?_
    have h := Option.some.inj h
    subst h
    exact q_iretI mcap_0 rfl rfl
  · rw [if_neg c2] at h
    refine mAt.blk bk_X11_law_13 ck_X11_law_13 ?_
    refine q_aload_n rfl ?_
    refine q_getR ob_0 rfl rfl ?_
    refine q_iload_n rfl ?_
    refine q_iload_n rfl ?_
    refine q_iload_n rfl ?_
    refine q_iload rfl ?_
    refine q_iload rfl ?_
    obtain ⟨q3, e3, h⟩ := mbind h
    refine q_vI5 mcap_0 rfl rfl ob_31 rfl (by decide) (ok_X10_gives p10_31 e3) ?_
    have h := Option.some.inj h
    subst h
    exact q_iretI mcap_0 rfl rfl
def bk_X11_days_0 : List mI := [(.iload_n 1, 1, 0, 0, 0, []), (.iconst 1, 1, 0, 0, 0, [(1, 0)]), (.bipush 100, 2, 0, 0, 0, [(100, 0)]), (.invokestatic 112, 3, 125, 0, 445, []), (.ifCond .ne 9, 3, 16, 0, 0, []), (.aload_n 0, 1, 0, 0, 0, []), (.iconst 1, 1, 0, 0, 0, [(1, 0)]), (.invokevirtual 89, 3, 123, 0, 399, []), (.ireturn, 1, 0, 0, 0, [])]
theorem ck_X11_days_0 : mChk 94 0 bk_X11_days_0 = true := by decide +kernel
def bk_X11_days_16 : List mI := [(.aload_n 0, 1, 0, 0, 0, []), (.getfield 31, 3, 11, 0, 361, []), (.getfield 212, 3, 10, 4, 256, []), (.iload_n 1, 1, 0, 0, 0, []), (.iadd, 1, 0, 0, 0, []), (.sipush 9999, 3, 0, 0, 0, [(9999, 0)]), (.if_icmp .le 9, 3, 37, 0, 0, []), (.aload_n 0, 1, 0, 0, 0, []), (.iconst 3, 1, 0, 0, 0, [(3, 0)]), (.invokevirtual 89, 3, 123, 0, 399, []), (.ireturn, 1, 0, 0, 0, [])]
theorem ck_X11_days_16 : mChk 94 16 bk_X11_days_16 = true := by decide +kernel
def bk_X11_days_37 : List mI := [(.aload_n 0, 1, 0, 0, 0, []), (.getfield 31, 3, 11, 0, 361, []), (.iload_n 1, 1, 0, 0, 0, []), (.invokevirtual 215, 3, 69, 0, 653, []), (.aload_n 0, 1, 0, 0, 0, []), (.getfield 31, 3, 11, 0, 361, []), (.getfield 212, 3, 10, 4, 256, []), (.ireturn, 1, 0, 0, 0, [])]
theorem ck_X11_days_37 : mChk 94 37 bk_X11_days_37 = true := by decide +kernel
def f_X11_days (p0 : Int32) (σ : Sg) : Option (Int32 × Sg) := ((f_X11_within p0 (1 : Int32) (100 : Int32) σ).bind fun q1 => (if q1 = 0 then ((f_X11_error (1 : Int32) σ).bind fun q6 => (some (q6.1, q6.2))) else (if ((σ 31 4) + p0) ≤ (9999 : Int32) then ((f_X10_goBy 31 6 9 p0 σ).bind fun q4 => (some ((q4 31 4), q4))) else ((f_X11_error (3 : Int32) σ).bind fun q5 => (some (q5.1, q5.2))))))
set_option maxHeartbeats 4000000 in
theorem ok_X11_days {L : Nat} {p0 : Int32} {σ : Sg} {R : Int32 × Sg} (h : f_X11_days p0 σ = some R) : mEv 6 94 [.ref 0, .int p0] (mSh, L, σ) (some (.int R.1)) (mSh, L, R.2) := by
  refine mEv.of (by decide) rfl rfl ?_
  unfold f_X11_days at h
  refine mAt.blk bk_X11_days_0 ck_X11_days_0 ?_
  refine q_iload_n rfl ?_
  refine q_iconst ?_
  refine q_bipush ?_
  obtain ⟨q1, e1, h⟩ := mbind h
  refine q_sI3 mcap_0 rfl rfl rfl rfl (by decide) (ok_X11_within  e1) ?_
  refine q_if_ne (fun c2 => ?_) (fun c2 => ?_)
  · rw [if_pos c2] at h
    refine q_aload_n rfl ?_
    refine q_iconst ?_
    obtain ⟨q6, e6, h⟩ := mbind h
    refine q_vI1 mcap_0 rfl rfl ob_0 rfl (by decide) (ok_X11_error  e6) ?_
    have h := Option.some.inj h
    subst h
    exact q_iretI mcap_0 rfl rfl
  · rw [if_neg c2] at h
    refine mAt.blk bk_X11_days_16 ck_X11_days_16 ?_
    refine q_aload_n rfl ?_
    refine q_getR ob_0 rfl rfl ?_
    refine q_getI ob_31 rfl ?_
    refine q_iload_n rfl ?_
    refine q_iadd ?_
    refine q_sipush ?_
    refine q_ic_le (fun c3 => ?_) (fun c3 => ?_)
    · rw [if_pos c3] at h
      refine mAt.blk bk_X11_days_37 ck_X11_days_37 ?_
      refine q_aload_n rfl ?_
      refine q_getR ob_0 rfl rfl ?_
      refine q_iload_n rfl ?_
      obtain ⟨q4, e4, h⟩ := mbind h
      refine q_vV1 mcap_0 rfl rfl ob_31 rfl (by decide) (ok_X10_goBy p10_31 e4) ?_
      refine q_aload_n rfl ?_
      refine q_getR ob_0 rfl rfl ?_
      refine q_getI ob_31 rfl ?_
      have h := Option.some.inj h
      subst h
      exact q_iretI mcap_0 rfl rfl
    · rw [if_neg c3] at h
      refine q_aload_n rfl ?_
      refine q_iconst ?_
      obtain ⟨q5, e5, h⟩ := mbind h
      refine q_vI1 mcap_0 rfl rfl ob_0 rfl (by decide) (ok_X11_error  e5) ?_
      have h := Option.some.inj h
      subst h
      exact q_iretI mcap_0 rfl rfl
def bk_X11_flood_0 : List mI := [(.aload_n 0, 1, 0, 0, 0, []), (.getfield 31, 3, 11, 0, 361, []), (.getfield 79, 3, 10, 0, 250, []), (.getfield 83, 3, 9, 4, 194, []), (.istore_n 1, 1, 0, 0, 0, []), (.iload_n 1, 1, 0, 0, 0, []), (.ifCond .gt 4, 3, 16, 0, 0, []), (.return_, 1, 0, 0, 0, [])]
theorem ck_X11_flood_0 : mChk 96 0 bk_X11_flood_0 = true := by decide +kernel
def bk_X11_flood_16 : List mI := [(.aload_n 0, 1, 0, 0, 0, []), (.getfield 10, 3, 11, 3, 364, []), (.invokevirtual 221, 3, 7, 0, 680, []), (.iload_n 1, 1, 0, 0, 0, []), (.irem, 1, 0, 0, 0, []), (.istore_n 2, 1, 0, 0, 0, []), (.aload_n 0, 1, 0, 0, 0, []), (.getfield 10, 3, 11, 3, 364, []), (.invokevirtual 221, 3, 7, 0, 680, []), (.iload_n 1, 1, 0, 0, 0, []), (.irem, 1, 0, 0, 0, []), (.istore_n 3, 1, 0, 0, 0, []), (.aload_n 0, 1, 0, 0, 0, []), (.getfield 10, 3, 11, 3, 364, []), (.invokevirtual 221, 3, 7, 0, 680, []), (.bipush 9, 2, 0, 0, 0, [(9, 0)]), (.irem, 1, 0, 0, 0, []), (.iconst 1, 1, 0, 0, 0, [(1, 0)]), (.iadd, 1, 0, 0, 0, []), (.istore 4, 2, 0, 0, 0, []), (.aload_n 0, 1, 0, 0, 0, []), (.getfield 31, 3, 11, 0, 361, []), (.getfield 79, 3, 10, 0, 250, []), (.iload_n 2, 1, 0, 0, 0, []), (.iload_n 3, 1, 0, 0, 0, []), (.iload 4, 2, 0, 0, 0, []), (.invokevirtual 108, 3, 57, 0, 440, []), (.return_, 1, 0, 0, 0, [])]
theorem ck_X11_flood_16 : mChk 96 16 bk_X11_flood_16 = true := by decide +kernel
def f_X11_flood (σ : Sg) : Option (Sg) := (if 0 < (σ 32 4) then ((f_X1_draw 1 σ).bind fun q2 => (if (σ 32 4) = 0 then none else ((f_X1_draw 1 q2.2).bind fun q4 => (if (σ 32 4) = 0 then none else ((f_X1_draw 1 q4.2).bind fun q6 => ((f_X9_lead 32 (q2.1 - q2.1 / (σ 32 4) * (σ 32 4)) (q4.1 - q4.1 / (σ 32 4) * (σ 32 4)) ((q6.1 - q6.1 / (9 : Int32) * (9 : Int32)) + (1 : Int32)) q6.2).bind fun q7 => (some q7))))))) else (some σ))
set_option maxHeartbeats 4000000 in
theorem ok_X11_flood {L : Nat} {σ : Sg} {R : Sg} (h : f_X11_flood σ = some R) : mEv 2 96 [.ref 0] (mSh, L, σ) none (mSh, L, R) := by
  refine mEv.of (by decide) rfl rfl ?_
  unfold f_X11_flood at h
  refine mAt.blk bk_X11_flood_0 ck_X11_flood_0 ?_
  refine q_aload_n rfl ?_
  refine q_getR ob_0 rfl rfl ?_
  refine q_getR ob_31 rfl rfl ?_
  refine q_getI ob_32 rfl ?_
  refine q_istore_n rfl rfl ?_
  refine q_iload_n rfl ?_
  refine q_if_gt (fun c1 => ?_) (fun c1 => ?_)
  · rw [if_pos c1] at h
    refine mAt.blk bk_X11_flood_16 ck_X11_flood_16 ?_
    refine q_aload_n rfl ?_
    refine q_getR ob_0 rfl rfl ?_
    obtain ⟨q2, e2, h⟩ := mbind h
    refine q_vI0 mcap_0 rfl rfl ob_1 rfl (by decide) (ok_X1_draw p1_1 e2) ?_
    refine q_iload_n rfl ?_
    obtain ⟨c3, h⟩ := mnone h
    refine q_irem c3 ?_
    refine q_istore_n rfl rfl ?_
    refine q_aload_n rfl ?_
    refine q_getR ob_0 rfl rfl ?_
    obtain ⟨q4, e4, h⟩ := mbind h
    refine q_vI0 mcap_0 rfl rfl ob_1 rfl (by decide) (ok_X1_draw p1_1 e4) ?_
    refine q_iload_n rfl ?_
    obtain ⟨c5, h⟩ := mnone h
    refine q_irem c5 ?_
    refine q_istore_n rfl rfl ?_
    refine q_aload_n rfl ?_
    refine q_getR ob_0 rfl rfl ?_
    obtain ⟨q6, e6, h⟩ := mbind h
    refine q_vI0 mcap_0 rfl rfl ob_1 rfl (by decide) (ok_X1_draw p1_1 e6) ?_
    refine q_bipush ?_
    refine q_irem (by decide) ?_
    refine q_iconst ?_
    refine q_iadd ?_
    refine q_istore rfl rfl ?_
    refine q_aload_n rfl ?_
    refine q_getR ob_0 rfl rfl ?_
    refine q_getR ob_31 rfl rfl ?_
    refine q_iload_n rfl ?_
    refine q_iload_n rfl ?_
    refine q_iload rfl ?_
    obtain ⟨q7, e7, h⟩ := mbind h
    refine q_vV3 mcap_0 rfl rfl ob_32 rfl (by decide) (ok_X9_lead p9_32 e7) ?_
    have h := Option.some.inj h
    subst h
    exact q_vret mcap_0 rfl rfl
  · rw [if_neg c1] at h
    have h := Option.some.inj h
    subst h
    exact q_vret mcap_0 rfl rfl
def bk_X11_floods_0 : List mI := [(.iload_n 1, 1, 0, 0, 0, []), (.iconst 1, 1, 0, 0, 0, [(1, 0)]), (.bipush 100, 2, 0, 0, 0, [(100, 0)]), (.invokestatic 112, 3, 125, 0, 445, []), (.ifCond .ne 9, 3, 16, 0, 0, []), (.aload_n 0, 1, 0, 0, 0, []), (.iconst 1, 1, 0, 0, 0, [(1, 0)]), (.invokevirtual 89, 3, 123, 0, 399, []), (.ireturn, 1, 0, 0, 0, [])]
theorem ck_X11_floods_0 : mChk 95 0 bk_X11_floods_0 = true := by decide +kernel
def bk_X11_floods_16 : List mI := [(.aload_n 0, 1, 0, 0, 0, []), (.getfield 31, 3, 11, 0, 361, []), (.getfield 212, 3, 10, 4, 256, []), (.iload_n 1, 1, 0, 0, 0, []), (.iadd, 1, 0, 0, 0, []), (.sipush 9999, 3, 0, 0, 0, [(9999, 0)]), (.if_icmp .gt 16, 3, 44, 0, 0, []), (.aload_n 0, 1, 0, 0, 0, []), (.getfield 31, 3, 11, 0, 361, []), (.getfield 79, 3, 10, 0, 250, []), (.getfield 83, 3, 9, 4, 194, []), (.ifCond .ne 9, 3, 50, 0, 0, [])]
theorem ck_X11_floods_16 : mChk 95 16 bk_X11_floods_16 = true := by decide +kernel
def bk_X11_floods_44 : List mI := [(.aload_n 0, 1, 0, 0, 0, []), (.iconst 3, 1, 0, 0, 0, [(3, 0)]), (.invokevirtual 89, 3, 123, 0, 399, []), (.ireturn, 1, 0, 0, 0, [])]
theorem ck_X11_floods_44 : mChk 95 44 bk_X11_floods_44 = true := by decide +kernel
def bk_X11_floods_50 : List mI := [(.iconst 0, 1, 0, 0, 0, [(0, 0)]), (.istore_n 2, 1, 0, 0, 0, [])]
theorem ck_X11_floods_50 : mChk 95 50 bk_X11_floods_50 = true := by decide +kernel
def bk_X11_floods_52 : List mI := [(.iload_n 2, 1, 0, 0, 0, []), (.iload_n 1, 1, 0, 0, 0, []), (.if_icmp .ge 21, 3, 75, 0, 0, []), (.aload_n 0, 1, 0, 0, 0, []), (.invokevirtual 218, 3, 96, 0, 676, []), (.aload_n 0, 1, 0, 0, 0, []), (.getfield 31, 3, 11, 0, 361, []), (.iconst 1, 1, 0, 0, 0, [(1, 0)]), (.invokevirtual 215, 3, 69, 0, 653, []), (.iinc 2 1, 3, 0, 0, 0, [(1, 0)]), (.goto (-20), 3, 52, 0, 0, [])]
theorem ck_X11_floods_52 : mChk 95 52 bk_X11_floods_52 = true := by decide +kernel
def bk_X11_floods_75 : List mI := [(.aload_n 0, 1, 0, 0, 0, []), (.getfield 31, 3, 11, 0, 361, []), (.getfield 212, 3, 10, 4, 256, []), (.ireturn, 1, 0, 0, 0, [])]
theorem ck_X11_floods_75 : mChk 95 75 bk_X11_floods_75 = true := by decide +kernel
def c_X11_floods_52 : Nat → Int32 → Int32 → Sg → Option (Int32 × Sg)
  | 0, _, _, _ => none
  | n + 1, x1, x2, σ => (if x1 ≤ x2 then (some ((σ 31 4), σ)) else ((f_X11_flood  σ).bind fun q2 => ((f_X10_goBy 31 6 9 (1 : Int32) q2).bind fun q3 => (c_X11_floods_52  n x1 (x2 + (1 : Int32)) q3))))
set_option maxHeartbeats 4000000 in
theorem okc_X11_floods_52 {L : Nat} {R : Int32 × Sg} {n : Nat} {x1 : Int32} {x2 : Int32} {σ : Sg} {pl : mLoc} (h : c_X11_floods_52 n x1 x2 σ = some R) (hl : mlf [some (.ref 0), some (.int x1), some (.int x2)] pl) : mAt 6 95 (some (.int R.1), (mSh, L, R.2)) 52 pl [] (mSh, L, σ) 0 0 := by
  induction n generalizing x1 x2 σ pl with
  | zero =>
    rw [c_X11_floods_52.eq_1] at h
    cases h
  | succ n ih =>
    refine mAt.less hl ?_
    rw [c_X11_floods_52.eq_2] at h
    refine mAt.blk bk_X11_floods_52 ck_X11_floods_52 ?_
    refine q_iload_n rfl ?_
    refine q_iload_n rfl ?_
    refine q_ic_ge (fun c1 => ?_) (fun c1 => ?_)
    · rw [if_pos c1] at h
      refine mAt.blk bk_X11_floods_75 ck_X11_floods_75 ?_
      refine q_aload_n rfl ?_
      refine q_getR ob_0 rfl rfl ?_
      refine q_getI ob_31 rfl ?_
      have h := Option.some.inj h
      subst h
      exact q_iretI mcap_0 rfl rfl
    · rw [if_neg c1] at h
      refine q_aload_n rfl ?_
      obtain ⟨q2, e2, h⟩ := mbind h
      refine q_vV0 mcap_0 rfl rfl ob_0 rfl (by decide) (ok_X11_flood  e2) ?_
      refine q_aload_n rfl ?_
      refine q_getR ob_0 rfl rfl ?_
      refine q_iconst ?_
      obtain ⟨q3, e3, h⟩ := mbind h
      refine q_vV1 mcap_0 rfl rfl ob_31 rfl (by decide) (ok_X10_goBy p10_31 e3) ?_
      refine q_iinc rfl rfl ?_
      refine q_goto ?_
      exact ih  h ⟨rfl, rfl, rfl, trivial⟩
def f_X11_floods (p0 : Int32) (σ : Sg) : Option (Int32 × Sg) := ((f_X11_within p0 (1 : Int32) (100 : Int32) σ).bind fun q4 => (if q4 = 0 then ((f_X11_error (1 : Int32) σ).bind fun q10 => (some (q10.1, q10.2))) else (if (9999 : Int32) < ((σ 31 4) + p0) then ((f_X11_error (3 : Int32) σ).bind fun q7 => (some (q7.1, q7.2))) else (if (σ 32 4) = 0 then ((f_X11_error (3 : Int32) σ).bind fun q9 => (some (q9.1, q9.2))) else (c_X11_floods_52   1000 p0 (0 : Int32) σ)))))
set_option maxHeartbeats 4000000 in
theorem ok_X11_floods {L : Nat} {p0 : Int32} {σ : Sg} {R : Int32 × Sg} (h : f_X11_floods p0 σ = some R) : mEv 6 95 [.ref 0, .int p0] (mSh, L, σ) (some (.int R.1)) (mSh, L, R.2) := by
  refine mEv.of (by decide) rfl rfl ?_
  unfold f_X11_floods at h
  refine mAt.blk bk_X11_floods_0 ck_X11_floods_0 ?_
  refine q_iload_n rfl ?_
  refine q_iconst ?_
  refine q_bipush ?_
  obtain ⟨q4, e4, h⟩ := mbind h
  refine q_sI3 mcap_0 rfl rfl rfl rfl (by decide) (ok_X11_within  e4) ?_
  refine q_if_ne (fun c5 => ?_) (fun c5 => ?_)
  · rw [if_pos c5] at h
    refine q_aload_n rfl ?_
    refine q_iconst ?_
    obtain ⟨q10, e10, h⟩ := mbind h
    refine q_vI1 mcap_0 rfl rfl ob_0 rfl (by decide) (ok_X11_error  e10) ?_
    have h := Option.some.inj h
    subst h
    exact q_iretI mcap_0 rfl rfl
  · rw [if_neg c5] at h
    refine mAt.blk bk_X11_floods_16 ck_X11_floods_16 ?_
    refine q_aload_n rfl ?_
    refine q_getR ob_0 rfl rfl ?_
    refine q_getI ob_31 rfl ?_
    refine q_iload_n rfl ?_
    refine q_iadd ?_
    refine q_sipush ?_
    refine q_ic_gt (fun c6 => ?_) (fun c6 => ?_)
    · rw [if_pos c6] at h
      refine mAt.blk bk_X11_floods_44 ck_X11_floods_44 ?_
      refine q_aload_n rfl ?_
      refine q_iconst ?_
      obtain ⟨q7, e7, h⟩ := mbind h
      refine q_vI1 mcap_0 rfl rfl ob_0 rfl (by decide) (ok_X11_error  e7) ?_
      have h := Option.some.inj h
      subst h
      exact q_iretI mcap_0 rfl rfl
    · rw [if_neg c6] at h
      refine q_aload_n rfl ?_
      refine q_getR ob_0 rfl rfl ?_
      refine q_getR ob_31 rfl rfl ?_
      refine q_getI ob_32 rfl ?_
      refine q_if_ne (fun c8 => ?_) (fun c8 => ?_)
      · rw [if_pos c8] at h
        refine mAt.blk bk_X11_floods_44 ck_X11_floods_44 ?_
        refine q_aload_n rfl ?_
        refine q_iconst ?_
        obtain ⟨q9, e9, h⟩ := mbind h
        refine q_vI1 mcap_0 rfl rfl ob_0 rfl (by decide) (ok_X11_error  e9) ?_
        have h := Option.some.inj h
        subst h
        exact q_iretI mcap_0 rfl rfl
      · rw [if_neg c8] at h
        refine mAt.blk bk_X11_floods_50 ck_X11_floods_50 ?_
        refine q_iconst ?_
        refine q_istore_n rfl rfl ?_
        exact okc_X11_floods_52  h ⟨rfl, rfl, rfl, trivial⟩
def bk_X11_then_0 : List mI := [(.iload_n 1, 1, 0, 0, 0, []), (.iconst 0, 1, 0, 0, 0, [(0, 0)]), (.sipush 200, 3, 0, 0, 0, [(200, 0)]), (.invokestatic 112, 3, 125, 0, 445, []), (.ifCond .eq 24, 3, 32, 0, 0, []), (.aload_n 0, 1, 0, 0, 0, []), (.getfield 31, 3, 11, 0, 361, []), (.getfield 133, 3, 10, 1, 252, []), (.iload_n 2, 1, 0, 0, 0, []), (.invokevirtual 160, 3, 39, 0, 486, []), (.ifCond .eq 10, 3, 32, 0, 0, []), (.iload_n 3, 1, 0, 0, 0, []), (.invokestatic 161, 3, 128, 0, 490, []), (.ifCond .ne 9, 3, 38, 0, 0, [])]
theorem ck_X11_then_0 : mChk 97 0 bk_X11_then_0 = true := by decide +kernel
def bk_X11_then_32 : List mI := [(.aload_n 0, 1, 0, 0, 0, []), (.iconst 1, 1, 0, 0, 0, [(1, 0)]), (.invokevirtual 89, 3, 123, 0, 399, []), (.ireturn, 1, 0, 0, 0, [])]
theorem ck_X11_then_32 : mChk 97 32 bk_X11_then_32 = true := by decide +kernel
def bk_X11_then_38 : List mI := [(.aload_n 0, 1, 0, 0, 0, []), (.getfield 35, 3, 11, 1, 362, []), (.aload_n 0, 1, 0, 0, 0, []), (.getfield 31, 3, 11, 0, 361, []), (.invokevirtual 224, 3, 68, 0, 689, []), (.aload_n 0, 1, 0, 0, 0, []), (.getfield 35, 3, 11, 1, 362, []), (.iload_n 1, 1, 0, 0, 0, []), (.invokevirtual 215, 3, 69, 0, 653, []), (.aload_n 0, 1, 0, 0, 0, []), (.getfield 35, 3, 11, 1, 362, []), (.iload_n 2, 1, 0, 0, 0, []), (.iload_n 3, 1, 0, 0, 0, []), (.invokevirtual 164, 3, 73, 0, 493, []), (.ireturn, 1, 0, 0, 0, [])]
theorem ck_X11_then_38 : mChk 97 38 bk_X11_then_38 = true := by decide +kernel
def f_X11_then (p0 : Int32) (p1 : Int32) (p2 : Int32) (σ : Sg) : Option (Int32 × Sg) := ((f_X11_within p0 (0 : Int32) (200 : Int32) σ).bind fun q1 => (if q1 = 0 then ((f_X11_error (1 : Int32) σ).bind fun q3 => (some (q3.1, q3.2))) else ((f_X7_has 37 p1 σ).bind fun q4 => (if q4 = 0 then ((f_X11_error (1 : Int32) σ).bind fun q6 => (some (q6.1, q6.2))) else ((f_X11_isDetail p2 σ).bind fun q7 => (if q7 = 0 then ((f_X11_error (1 : Int32) σ).bind fun q12 => (some (q12.1, q12.2))) else ((f_X10_copyFrom 44 6 9 31 6 9 σ).bind fun q9 => ((f_X10_goBy 44 6 9 p0 q9).bind fun q10 => ((f_X10_detail 44 6 9 p1 p2 q10).bind fun q11 => (some (q11.1, q11.2)))))))))))
set_option maxHeartbeats 4000000 in
theorem ok_X11_then {L : Nat} {p0 : Int32} {p1 : Int32} {p2 : Int32} {σ : Sg} {R : Int32 × Sg} (h : f_X11_then p0 p1 p2 σ = some R) : mEv 6 97 [.ref 0, .int p0, .int p1, .int p2] (mSh, L, σ) (some (.int R.1)) (mSh, L, R.2) := by
  refine mEv.of (by decide) rfl rfl ?_
  unfold f_X11_then at h
  refine mAt.blk bk_X11_then_0 ck_X11_then_0 ?_
  refine q_iload_n rfl ?_
  refine q_iconst ?_
  refine q_sipush ?_
  obtain ⟨q1, e1, h⟩ := mbind h
  refine q_sI3 mcap_0 rfl rfl rfl rfl (by decide) (ok_X11_within  e1) ?_
  refine q_if_eq (fun c2 => ?_) (fun c2 => ?_)
  · rw [if_pos c2] at h
    refine mAt.blk bk_X11_then_32 ck_X11_then_32 ?_
    refine q_aload_n rfl ?_
    refine q_iconst ?_
    obtain ⟨q3, e3, h⟩ := mbind h
    refine q_vI1 mcap_0 rfl rfl ob_0 rfl (by decide) (ok_X11_error  e3) ?_
    have h := Option.some.inj h
    subst h
    exact q_iretI mcap_0 rfl rfl
  · rw [if_neg c2] at h
    refine q_aload_n rfl ?_
    refine q_getR ob_0 rfl rfl ?_
    refine q_getR ob_31 rfl rfl ?_
    refine q_iload_n rfl ?_
    obtain ⟨q4, e4, h⟩ := mbind h
    refine q_vI1 mcap_0 rfl rfl ob_37 rfl (by decide) (ok_X7_has p7_37 e4) ?_
    refine q_if_eq (fun c5 => ?_) (fun c5 => ?_)
    · rw [if_pos c5] at h
      refine mAt.blk bk_X11_then_32 ck_X11_then_32 ?_
      refine q_aload_n rfl ?_
      refine q_iconst ?_
      obtain ⟨q6, e6, h⟩ := mbind h
      refine q_vI1 mcap_0 rfl rfl ob_0 rfl (by decide) (ok_X11_error  e6) ?_
      have h := Option.some.inj h
      subst h
      exact q_iretI mcap_0 rfl rfl
    · rw [if_neg c5] at h
      refine q_iload_n rfl ?_
      obtain ⟨q7, e7, h⟩ := mbind h
      refine q_sI1 mcap_0 rfl rfl rfl rfl (by decide) (ok_X11_isDetail  e7) ?_
      refine q_if_ne (fun c8 => ?_) (fun c8 => ?_)
      · rw [if_pos c8] at h
        refine mAt.blk bk_X11_then_32 ck_X11_then_32 ?_
        refine q_aload_n rfl ?_
        refine q_iconst ?_
        obtain ⟨q12, e12, h⟩ := mbind h
        refine q_vI1 mcap_0 rfl rfl ob_0 rfl (by decide) (ok_X11_error  e12) ?_
        have h := Option.some.inj h
        subst h
        exact q_iretI mcap_0 rfl rfl
      · rw [if_neg c8] at h
        refine mAt.blk bk_X11_then_38 ck_X11_then_38 ?_
        refine q_aload_n rfl ?_
        refine q_getR ob_0 rfl rfl ?_
        refine q_aload_n rfl ?_
        refine q_getR ob_0 rfl rfl ?_
        obtain ⟨q9, e9, h⟩ := mbind h
        refine q_vV1 mcap_0 rfl rfl ob_44 rfl (by decide) (ok_X10_copyFrom p10_44 p10_31 e9) ?_
        refine q_aload_n rfl ?_
        refine q_getR ob_0 rfl rfl ?_
        refine q_iload_n rfl ?_
        obtain ⟨q10, e10, h⟩ := mbind h
        refine q_vV1 mcap_0 rfl rfl ob_44 rfl (by decide) (ok_X10_goBy p10_44 e10) ?_
        refine q_aload_n rfl ?_
        refine q_getR ob_0 rfl rfl ?_
        refine q_iload_n rfl ?_
        refine q_iload_n rfl ?_
        obtain ⟨q11, e11, h⟩ := mbind h
        refine q_vI2 mcap_0 rfl rfl ob_44 rfl (by decide) (ok_X10_detail p10_44 e11) ?_
        have h := Option.some.inj h
        subst h
        exact q_iretI mcap_0 rfl rfl
def bk_X11_in_0 : List mI := [(.iload_n 1, 1, 0, 0, 0, []), (.iconst 0, 1, 0, 0, 0, [(0, 0)]), (.sipush 200, 3, 0, 0, 0, [(200, 0)]), (.invokestatic 112, 3, 125, 0, 445, []), (.ifCond .eq 17, 3, 25, 0, 0, []), (.aload_n 0, 1, 0, 0, 0, []), (.getfield 31, 3, 11, 0, 361, []), (.getfield 79, 3, 10, 0, 250, []), (.iload_n 2, 1, 0, 0, 0, []), (.invokevirtual 97, 3, 54, 0, 423, []), (.ifCond .ne 9, 3, 31, 0, 0, [])]
theorem ck_X11_in_0 : mChk 98 0 bk_X11_in_0 = true := by decide +kernel
def bk_X11_in_25 : List mI := [(.aload_n 0, 1, 0, 0, 0, []), (.iconst 1, 1, 0, 0, 0, [(1, 0)]), (.invokevirtual 89, 3, 123, 0, 399, []), (.ireturn, 1, 0, 0, 0, [])]
theorem ck_X11_in_25 : mChk 98 25 bk_X11_in_25 = true := by decide +kernel
def bk_X11_in_31 : List mI := [(.aload_n 0, 1, 0, 0, 0, []), (.getfield 35, 3, 11, 1, 362, []), (.aload_n 0, 1, 0, 0, 0, []), (.getfield 31, 3, 11, 0, 361, []), (.invokevirtual 224, 3, 68, 0, 689, []), (.aload_n 0, 1, 0, 0, 0, []), (.getfield 35, 3, 11, 1, 362, []), (.iload_n 1, 1, 0, 0, 0, []), (.invokevirtual 215, 3, 69, 0, 653, []), (.aload_n 0, 1, 0, 0, 0, []), (.getfield 35, 3, 11, 1, 362, []), (.getfield 133, 3, 10, 1, 252, []), (.iconst 0, 1, 0, 0, 0, [(0, 0)]), (.iload_n 2, 1, 0, 0, 0, []), (.invokevirtual 137, 3, 43, 0, 454, []), (.ireturn, 1, 0, 0, 0, [])]
theorem ck_X11_in_31 : mChk 98 31 bk_X11_in_31 = true := by decide +kernel
def f_X11_in (p0 : Int32) (p1 : Int32) (σ : Sg) : Option (Int32 × Sg) := ((f_X11_within p0 (0 : Int32) (200 : Int32) σ).bind fun q1 => (if q1 = 0 then ((f_X11_error (1 : Int32) σ).bind fun q3 => (some (q3.1, q3.2))) else ((f_X9_has 32 p1 σ).bind fun q4 => (if q4 = 0 then ((f_X11_error (1 : Int32) σ).bind fun q9 => (some (q9.1, q9.2))) else ((f_X10_copyFrom 44 6 9 31 6 9 σ).bind fun q6 => ((f_X10_goBy 44 6 9 p0 q6).bind fun q7 => ((f_X7_bits 50 (0 : Int32) p1 q7).bind fun q8 => (some (q8, q7)))))))))
set_option maxHeartbeats 4000000 in
theorem ok_X11_in {L : Nat} {p0 : Int32} {p1 : Int32} {σ : Sg} {R : Int32 × Sg} (h : f_X11_in p0 p1 σ = some R) : mEv 6 98 [.ref 0, .int p0, .int p1] (mSh, L, σ) (some (.int R.1)) (mSh, L, R.2) := by
  refine mEv.of (by decide) rfl rfl ?_
  unfold f_X11_in at h
  refine mAt.blk bk_X11_in_0 ck_X11_in_0 ?_
  refine q_iload_n rfl ?_
  refine q_iconst ?_
  refine q_sipush ?_
  obtain ⟨q1, e1, h⟩ := mbind h
  refine q_sI3 mcap_0 rfl rfl rfl rfl (by decide) (ok_X11_within  e1) ?_
  refine q_if_eq (fun c2 => ?_) (fun c2 => ?_)
  · rw [if_pos c2] at h
    refine mAt.blk bk_X11_in_25 ck_X11_in_25 ?_
    refine q_aload_n rfl ?_
    refine q_iconst ?_
    obtain ⟨q3, e3, h⟩ := mbind h
    refine q_vI1 mcap_0 rfl rfl ob_0 rfl (by decide) (ok_X11_error  e3) ?_
    have h := Option.some.inj h
    subst h
    exact q_iretI mcap_0 rfl rfl
  · rw [if_neg c2] at h
    refine q_aload_n rfl ?_
    refine q_getR ob_0 rfl rfl ?_
    refine q_getR ob_31 rfl rfl ?_
    refine q_iload_n rfl ?_
    obtain ⟨q4, e4, h⟩ := mbind h
    refine q_vI1 mcap_0 rfl rfl ob_32 rfl (by decide) (ok_X9_has p9_32 e4) ?_
    refine q_if_ne (fun c5 => ?_) (fun c5 => ?_)
    · rw [if_pos c5] at h
      refine mAt.blk bk_X11_in_25 ck_X11_in_25 ?_
      refine q_aload_n rfl ?_
      refine q_iconst ?_
      obtain ⟨q9, e9, h⟩ := mbind h
      refine q_vI1 mcap_0 rfl rfl ob_0 rfl (by decide) (ok_X11_error  e9) ?_
      have h := Option.some.inj h
      subst h
      exact q_iretI mcap_0 rfl rfl
    · rw [if_neg c5] at h
      refine mAt.blk bk_X11_in_31 ck_X11_in_31 ?_
      refine q_aload_n rfl ?_
      refine q_getR ob_0 rfl rfl ?_
      refine q_aload_n rfl ?_
      refine q_getR ob_0 rfl rfl ?_
      obtain ⟨q6, e6, h⟩ := mbind h
      refine q_vV1 mcap_0 rfl rfl ob_44 rfl (by decide) (ok_X10_copyFrom p10_44 p10_31 e6) ?_
      refine q_aload_n rfl ?_
      refine q_getR ob_0 rfl rfl ?_
      refine q_iload_n rfl ?_
      obtain ⟨q7, e7, h⟩ := mbind h
      refine q_vV1 mcap_0 rfl rfl ob_44 rfl (by decide) (ok_X10_goBy p10_44 e7) ?_
      refine q_aload_n rfl ?_
      refine q_getR ob_0 rfl rfl ?_
      refine q_getR ob_44 rfl rfl ?_
      refine q_iconst ?_
      refine q_iload_n rfl ?_
      obtain ⟨q8, e8, h⟩ := mbind h
      refine q_vI2 mcap_0 rfl rfl ob_50 rfl (by decide) (ok_X7_bits p7_50 e8) ?_
      have h := Option.some.inj h
      subst h
      exact q_iretI mcap_0 rfl rfl
def bk_X11_seen_0 : List mI := [(.iload_n 1, 1, 0, 0, 0, []), (.iconst 1, 1, 0, 0, 0, [(1, 0)]), (.sipush 200, 3, 0, 0, 0, [(200, 0)]), (.invokestatic 112, 3, 125, 0, 445, []), (.ifCond .eq 31, 3, 39, 0, 0, []), (.aload_n 0, 1, 0, 0, 0, []), (.getfield 31, 3, 11, 0, 361, []), (.getfield 133, 3, 10, 1, 252, []), (.iload_n 2, 1, 0, 0, 0, []), (.invokevirtual 160, 3, 39, 0, 486, []), (.ifCond .eq 17, 3, 39, 0, 0, []), (.aload_n 0, 1, 0, 0, 0, []), (.getfield 31, 3, 11, 0, 361, []), (.getfield 79, 3, 10, 0, 250, []), (.iload_n 3, 1, 0, 0, 0, []), (.invokevirtual 97, 3, 54, 0, 423, []), (.ifCond .ne 9, 3, 45, 0, 0, [])]
theorem ck_X11_seen_0 : mChk 99 0 bk_X11_seen_0 = true := by decide +kernel
def bk_X11_seen_39 : List mI := [(.aload_n 0, 1, 0, 0, 0, []), (.iconst 1, 1, 0, 0, 0, [(1, 0)]), (.invokevirtual 89, 3, 123, 0, 399, []), (.ireturn, 1, 0, 0, 0, [])]
theorem ck_X11_seen_39 : mChk 99 39 bk_X11_seen_39 = true := by decide +kernel
def bk_X11_seen_45 : List mI := [(.aload_n 0, 1, 0, 0, 0, []), (.getfield 35, 3, 11, 1, 362, []), (.aload_n 0, 1, 0, 0, 0, []), (.getfield 31, 3, 11, 0, 361, []), (.invokevirtual 224, 3, 68, 0, 689, []), (.iconst 1, 1, 0, 0, 0, [(1, 0)]), (.istore 4, 2, 0, 0, 0, [])]
theorem ck_X11_seen_45 : mChk 99 45 bk_X11_seen_45 = true := by decide +kernel
def bk_X11_seen_59 : List mI := [(.iload 4, 2, 0, 0, 0, []), (.iload_n 1, 1, 0, 0, 0, []), (.if_icmp .gt 35, 3, 97, 0, 0, []), (.aload_n 0, 1, 0, 0, 0, []), (.getfield 35, 3, 11, 1, 362, []), (.iconst 1, 1, 0, 0, 0, [(1, 0)]), (.invokevirtual 215, 3, 69, 0, 653, []), (.aload_n 0, 1, 0, 0, 0, []), (.getfield 35, 3, 11, 1, 362, []), (.getfield 133, 3, 10, 1, 252, []), (.iload_n 2, 1, 0, 0, 0, []), (.invokevirtual 227, 3, 42, 0, 711, []), (.iload_n 3, 1, 0, 0, 0, []), (.if_icmp .ne 6, 3, 91, 0, 0, []), (.iload 4, 2, 0, 0, 0, []), (.ireturn, 1, 0, 0, 0, [])]
theorem ck_X11_seen_59 : mChk 99 59 bk_X11_seen_59 = true := by decide +kernel
def bk_X11_seen_91 : List mI := [(.iinc 4 1, 3, 0, 0, 0, [(1, 0)]), (.goto (-35), 3, 59, 0, 0, [])]
theorem ck_X11_seen_91 : mChk 99 91 bk_X11_seen_91 = true := by decide +kernel
def bk_X11_seen_97 : List mI := [(.aload_n 0, 1, 0, 0, 0, []), (.iconst 2, 1, 0, 0, 0, [(2, 0)]), (.invokevirtual 89, 3, 123, 0, 399, []), (.ireturn, 1, 0, 0, 0, [])]
theorem ck_X11_seen_97 : mChk 99 97 bk_X11_seen_97 = true := by decide +kernel
def c_X11_seen_59 : Nat → Int32 → Int32 → Int32 → Int32 → Sg → Option (Int32 × Sg)
  | 0, _, _, _, _, _ => none
  | n + 1, x1, x2, x3, x4, σ => (if x1 < x4 then ((f_X11_error (2 : Int32) σ).bind fun q2 => (some (q2.1, q2.2))) else ((f_X10_goBy 44 6 9 (1 : Int32) σ).bind fun q3 => ((f_X7_wellOf 50 x2 q3).bind fun q4 => (if q4 = x3 then (some (x4, q3)) else (c_X11_seen_59  n x1 x2 x3 (x4 + (1 : Int32)) q3)))))
set_option maxHeartbeats 4000000 in
theorem okc_X11_seen_59 {L : Nat} {R : Int32 × Sg} {n : Nat} {x1 : Int32} {x2 : Int32} {x3 : Int32} {x4 : Int32} {σ : Sg} {pl : mLoc} (h : c_X11_seen_59 n x1 x2 x3 x4 σ = some R) (hl : mlf [some (.ref 0), some (.int x1), some (.int x2), some (.int x3), some (.int x4)] pl) : mAt 6 99 (some (.int R.1), (mSh, L, R.2)) 59 pl [] (mSh, L, σ) 0 0 := by
  induction n generalizing x1 x2 x3 x4 σ pl with
  | zero =>
    rw [c_X11_seen_59.eq_1] at h
    cases h
  | succ n ih =>
    refine mAt.less hl ?_
    rw [c_X11_seen_59.eq_2] at h
    refine mAt.blk bk_X11_seen_59 ck_X11_seen_59 ?_
    refine q_iload rfl ?_
    refine q_iload_n rfl ?_
    refine q_ic_gt (fun c1 => ?_) (fun c1 => ?_)
    · rw [if_pos c1] at h
      refine mAt.blk bk_X11_seen_97 ck_X11_seen_97 ?_
      refine q_aload_n rfl ?_
      refine q_iconst ?_
      obtain ⟨q2, e2, h⟩ := mbind h
      refine q_vI1 mcap_0 rfl rfl ob_0 rfl (by decide) (ok_X11_error  e2) ?_
      have h := Option.some.inj h
      subst h
      exact q_iretI mcap_0 rfl rfl
    · rw [if_neg c1] at h
      refine q_aload_n rfl ?_
      refine q_getR ob_0 rfl rfl ?_
      refine q_iconst ?_
      obtain ⟨q3, e3, h⟩ := mbind h
      refine q_vV1 mcap_0 rfl rfl ob_44 rfl (by decide) (ok_X10_goBy p10_44 e3) ?_
      refine q_aload_n rfl ?_
      refine q_getR ob_0 rfl rfl ?_
      refine q_getR ob_44 rfl rfl ?_
      refine q_iload_n rfl ?_
      obtain ⟨q4, e4, h⟩ := mbind h
      refine q_vI1 mcap_0 rfl rfl ob_50 rfl (by decide) (ok_X7_wellOf p7_50 e4) ?_
      refine q_iload_n rfl ?_
      refine q_ic_ne (fun c5 => ?_) (fun c5 => ?_)
      · rw [if_pos c5] at h
        refine q_iload rfl ?_
        have h := Option.some.inj h
        subst h
        exact q_iretI mcap_0 rfl rfl
      · rw [if_neg c5] at h
        refine mAt.blk bk_X11_seen_91 ck_X11_seen_91 ?_
        refine q_iinc rfl rfl ?_
        refine q_goto ?_
        exact ih  h ⟨rfl, rfl, rfl, rfl, rfl, trivial⟩
def f_X11_seen (p0 : Int32) (p1 : Int32) (p2 : Int32) (σ : Sg) : Option (Int32 × Sg) := ((f_X11_within p0 (1 : Int32) (200 : Int32) σ).bind fun q6 => (if q6 = 0 then ((f_X11_error (1 : Int32) σ).bind fun q8 => (some (q8.1, q8.2))) else ((f_X7_has 37 p1 σ).bind fun q9 => (if q9 = 0 then ((f_X11_error (1 : Int32) σ).bind fun q11 => (some (q11.1, q11.2))) else ((f_X9_has 32 p2 σ).bind fun q12 => (if q12 = 0 then ((f_X11_error (1 : Int32) σ).bind fun q15 => (some (q15.1, q15.2))) else ((f_X10_copyFrom 44 6 9 31 6 9 σ).bind fun q14 => (c_X11_seen_59   1000 p0 p1 p2 (1 : Int32) q14))))))))
set_option maxHeartbeats 4000000 in
theorem ok_X11_seen {L : Nat} {p0 : Int32} {p1 : Int32} {p2 : Int32} {σ : Sg} {R : Int32 × Sg} (h : f_X11_seen p0 p1 p2 σ = some R) : mEv 6 99 [.ref 0, .int p0, .int p1, .int p2] (mSh, L, σ) (some (.int R.1)) (mSh, L, R.2) := by
  refine mEv.of (by decide) rfl rfl ?_
  unfold f_X11_seen at h
  refine mAt.blk bk_X11_seen_0 ck_X11_seen_0 ?_
  refine q_iload_n rfl ?_
  refine q_iconst ?_
  refine q_sipush ?_
  obtain ⟨q6, e6, h⟩ := mbind h
  refine q_sI3 mcap_0 rfl rfl rfl rfl (by decide) (ok_X11_within  e6) ?_
  refine q_if_eq (fun c7 => ?_) (fun c7 => ?_)
  · rw [if_pos c7] at h
    refine mAt.blk bk_X11_seen_39 ck_X11_seen_39 ?_
    refine q_aload_n rfl ?_
    refine q_iconst ?_
    obtain ⟨q8, e8, h⟩ := mbind h
    refine q_vI1 mcap_0 rfl rfl ob_0 rfl (by decide) (ok_X11_error  e8) ?_
    have h := Option.some.inj h
    subst h
    exact q_iretI mcap_0 rfl rfl
  · rw [if_neg c7] at h
    refine q_aload_n rfl ?_
    refine q_getR ob_0 rfl rfl ?_
    refine q_getR ob_31 rfl rfl ?_
    refine q_iload_n rfl ?_
    obtain ⟨q9, e9, h⟩ := mbind h
    refine q_vI1 mcap_0 rfl rfl ob_37 rfl (by decide) (ok_X7_has p7_37 e9) ?_
    refine q_if_eq (fun c10 => ?_) (fun c10 => ?_)
    · rw [if_pos c10] at h
      refine mAt.blk bk_X11_seen_39 ck_X11_seen_39 ?_
      refine q_aload_n rfl ?_
      refine q_iconst ?_
      obtain ⟨q11, e11, h⟩ := mbind h
      refine q_vI1 mcap_0 rfl rfl ob_0 rfl (by decide) (ok_X11_error  e11) ?_
      have h := Option.some.inj h
      subst h
      exact q_iretI mcap_0 rfl rfl
    · rw [if_neg c10] at h
      refine q_aload_n rfl ?_
      refine q_getR ob_0 rfl rfl ?_
      refine q_getR ob_31 rfl rfl ?_
      refine q_iload_n rfl ?_
      obtain ⟨q12, e12, h⟩ := mbind h
      refine q_vI1 mcap_0 rfl rfl ob_32 rfl (by decide) (ok_X9_has p9_32 e12) ?_
      refine q_if_ne (fun c13 => ?_) (fun c13 => ?_)
      · rw [if_pos c13] at h
        refine mAt.blk bk_X11_seen_39 ck_X11_seen_39 ?_
        refine q_aload_n rfl ?_
        refine q_iconst ?_
        obtain ⟨q15, e15, h⟩ := mbind h
        refine q_vI1 mcap_0 rfl rfl ob_0 rfl (by decide) (ok_X11_error  e15) ?_
        have h := Option.some.inj h
        subst h
        exact q_iretI mcap_0 rfl rfl
      · rw [if_neg c13] at h
        refine mAt.blk bk_X11_seen_45 ck_X11_seen_45 ?_
        refine q_aload_n rfl ?_
        refine q_getR ob_0 rfl rfl ?_
        refine q_aload_n rfl ?_
        refine q_getR ob_0 rfl rfl ?_
        obtain ⟨q14, e14, h⟩ := mbind h
        refine q_vV1 mcap_0 rfl rfl ob_44 rfl (by decide) (ok_X10_copyFrom p10_44 p10_31 e14) ?_
        refine q_iconst ?_
        refine q_istore rfl rfl ?_
        exact okc_X11_seen_59  h ⟨rfl, rfl, rfl, rfl, rfl, trivial⟩
def bk_X11_round_0 : List mI := [(.aload_n 0, 1, 0, 0, 0, []), (.getfield 31, 3, 11, 0, 361, []), (.getfield 133, 3, 10, 1, 252, []), (.iload_n 1, 1, 0, 0, 0, []), (.invokevirtual 160, 3, 39, 0, 486, []), (.ifCond .eq 17, 3, 28, 0, 0, []), (.aload_n 0, 1, 0, 0, 0, []), (.getfield 31, 3, 11, 0, 361, []), (.getfield 79, 3, 10, 0, 250, []), (.iload_n 2, 1, 0, 0, 0, []), (.invokevirtual 97, 3, 54, 0, 423, []), (.ifCond .ne 9, 3, 34, 0, 0, [])]
theorem ck_X11_round_0 : mChk 100 0 bk_X11_round_0 = true := by decide +kernel
def bk_X11_round_28 : List mI := [(.aload_n 0, 1, 0, 0, 0, []), (.iconst 1, 1, 0, 0, 0, [(1, 0)]), (.invokevirtual 89, 3, 123, 0, 399, []), (.ireturn, 1, 0, 0, 0, [])]
theorem ck_X11_round_28 : mChk 100 28 bk_X11_round_28 = true := by decide +kernel
def bk_X11_round_34 : List mI := [(.aload_n 0, 1, 0, 0, 0, []), (.getfield 35, 3, 11, 1, 362, []), (.aload_n 0, 1, 0, 0, 0, []), (.getfield 31, 3, 11, 0, 361, []), (.invokevirtual 224, 3, 68, 0, 689, []), (.aload_n 0, 1, 0, 0, 0, []), (.getfield 35, 3, 11, 1, 362, []), (.iload_n 1, 1, 0, 0, 0, []), (.iload_n 2, 1, 0, 0, 0, []), (.invokevirtual 230, 3, 79, 0, 716, []), (.iconst 0, 1, 0, 0, 0, [(0, 0)]), (.istore_n 3, 1, 0, 0, 0, []), (.iconst 1, 1, 0, 0, 0, [(1, 0)]), (.istore 4, 2, 0, 0, 0, [])]
theorem ck_X11_round_34 : mChk 100 34 bk_X11_round_34 = true := by decide +kernel
def bk_X11_round_59 : List mI := [(.iload 4, 2, 0, 0, 0, []), (.sipush 200, 3, 0, 0, 0, [(200, 0)]), (.if_icmp .gt 67, 3, 131, 0, 0, []), (.aload_n 0, 1, 0, 0, 0, []), (.getfield 35, 3, 11, 1, 362, []), (.iconst 1, 1, 0, 0, 0, [(1, 0)]), (.invokevirtual 215, 3, 69, 0, 653, []), (.iload_n 3, 1, 0, 0, 0, []), (.ifCond .ne 21, 3, 97, 0, 0, []), (.aload_n 0, 1, 0, 0, 0, []), (.getfield 35, 3, 11, 1, 362, []), (.getfield 133, 3, 10, 1, 252, []), (.getfield 176, 3, 7, 2, 223, []), (.iload_n 1, 1, 0, 0, 0, []), (.invokestatic 122, 3, 130, 0, 403, []), (.iconst 1, 1, 0, 0, 0, [(1, 0)]), (.if_icmp .ne 7, 3, 101, 0, 0, [])]
theorem ck_X11_round_59 : mChk 100 59 bk_X11_round_59 = true := by decide +kernel
def bk_X11_round_97 : List mI := [(.iconst 1, 1, 0, 0, 0, [(1, 0)]), (.goto 4, 3, 102, 0, 0, [])]
theorem ck_X11_round_97 : mChk 100 97 bk_X11_round_97 = true := by decide +kernel
def bk_X11_round_101 : List mI := [(.iconst 0, 1, 0, 0, 0, [(0, 0)])]
theorem ck_X11_round_101 : mChk 100 101 bk_X11_round_101 = true := by decide +kernel
def bk_X11_round_102 : List mI := [(.istore_n 3, 1, 0, 0, 0, []), (.iload_n 3, 1, 0, 0, 0, []), (.ifCond .eq 21, 3, 125, 0, 0, []), (.aload_n 0, 1, 0, 0, 0, []), (.getfield 35, 3, 11, 1, 362, []), (.getfield 133, 3, 10, 1, 252, []), (.iload_n 1, 1, 0, 0, 0, []), (.invokevirtual 227, 3, 42, 0, 711, []), (.iload_n 2, 1, 0, 0, 0, []), (.if_icmp .ne 6, 3, 125, 0, 0, []), (.iload 4, 2, 0, 0, 0, []), (.ireturn, 1, 0, 0, 0, [])]
theorem ck_X11_round_102 : mChk 100 102 bk_X11_round_102 = true := by decide +kernel
def bk_X11_round_125 : List mI := [(.iinc 4 1, 3, 0, 0, 0, [(1, 0)]), (.goto (-69), 3, 59, 0, 0, [])]
theorem ck_X11_round_125 : mChk 100 125 bk_X11_round_125 = true := by decide +kernel
def bk_X11_round_131 : List mI := [(.aload_n 0, 1, 0, 0, 0, []), (.iconst 2, 1, 0, 0, 0, [(2, 0)]), (.invokevirtual 89, 3, 123, 0, 399, []), (.ireturn, 1, 0, 0, 0, [])]
theorem ck_X11_round_131 : mChk 100 131 bk_X11_round_131 = true := by decide +kernel
def c_X11_round_125 (k59 : Int32 → Int32 → Int32 → Int32 → Sg → Option (Int32 × Sg)) (x1 : Int32) (x2 : Int32) (x3 : Int32) (x4 : Int32) (σ : Sg) : Option (Int32 × Sg) := (k59 x1 x2 x3 (x4 + (1 : Int32)) σ)
set_option maxHeartbeats 4000000 in
theorem okc_X11_round_125 {L : Nat} {k59 : Int32 → Int32 → Int32 → Int32 → Sg → Option (Int32 × Sg)} {R : Int32 × Sg} (Hk59 : ∀ (x1 : Int32) (x2 : Int32) (x3 : Int32) (x4 : Int32) (σ : Sg) (pl : mLoc), k59 x1 x2 x3 x4 σ = some R → mlf [some (.ref 0), some (.int x1), some (.int x2), some (.int x3), some (.int x4)] pl → mAt 6 100 (some (.int R.1), (mSh, L, R.2)) 59 pl [] (mSh, L, σ) 0 0) {x1 : Int32} {x2 : Int32} {x3 : Int32} {x4 : Int32} {σ : Sg} {pl : mLoc} (h : c_X11_round_125 k59 x1 x2 x3 x4 σ = some R) (hl : mlf [some (.ref 0), some (.int x1), some (.int x2), some (.int x3), some (.int x4)] pl) : mAt 6 100 (some (.int R.1), (mSh, L, R.2)) 125 pl [] (mSh, L, σ) 0 0 := by
  refine mAt.less hl ?_
  unfold c_X11_round_125 at h
  refine mAt.blk bk_X11_round_125 ck_X11_round_125 ?_
  refine q_iinc rfl rfl ?_
  refine q_goto ?_
  exact Hk59 _ _ _ _ _ _  h ⟨rfl, rfl, rfl, rfl, rfl, trivial⟩
def c_X11_round_102 (k59 : Int32 → Int32 → Int32 → Int32 → Sg → Option (Int32 × Sg)) (x1 : Int32) (x2 : Int32) (x4 : Int32) (s0 : Int32) (σ : Sg) : Option (Int32 × Sg) := (if s0 = 0 then (c_X11_round_125 k59  x1 x2 s0 x4 σ) else ((f_X7_wellOf 50 x1 σ).bind fun q8 => (if q8 = x2 then (some (x4, σ)) else (c_X11_round_125 k59  x1 x2 s0 x4 σ))))
set_option maxHeartbeats 4000000 in
theorem okc_X11_round_102 {L : Nat} {k59 : Int32 → Int32 → Int32 → Int32 → Sg → Option (Int32 × Sg)} {R : Int32 × Sg} (Hk59 : ∀ (x1 : Int32) (x2 : Int32) (x3 : Int32) (x4 : Int32) (σ : Sg) (pl : mLoc), k59 x1 x2 x3 x4 σ = some R → mlf [some (.ref 0), some (.int x1), some (.int x2), some (.int x3), some (.int x4)] pl → mAt 6 100 (some (.int R.1), (mSh, L, R.2)) 59 pl [] (mSh, L, σ) 0 0) {x1 : Int32} {x2 : Int32} {x4 : Int32} {s0 : Int32} {σ : Sg} {pl : mLoc} (h : c_X11_round_102 k59 x1 x2 x4 s0 σ = some R) (hl : mlf [some (.ref 0), some (.int x1), some (.int x2), none, some (.int x4)] pl) : mAt 6 100 (some (.int R.1), (mSh, L, R.2)) 102 pl [.int s0] (mSh, L, σ) 0 0 := by
  refine mAt.less hl ?_
  unfold c_X11_round_102 at h
  refine mAt.blk bk_X11_round_102 ck_X11_round_102 ?_
  refine q_istore_n rfl rfl ?_
  refine q_iload_n rfl ?_
  refine q_if_eq (fun c7 => ?_) (fun c7 => ?_)
  · rw [if_pos c7] at h
    exact okc_X11_round_125 Hk59 h ⟨rfl, rfl, rfl, rfl, rfl, trivial⟩
  · rw [if_neg c7] at h
    refine q_aload_n rfl ?_
    refine q_getR ob_0 rfl rfl ?_
    refine q_getR ob_44 rfl rfl ?_
    refine q_iload_n rfl ?_
    obtain ⟨q8, e8, h⟩ := mbind h
    refine q_vI1 mcap_0 rfl rfl ob_50 rfl (by decide) (ok_X7_wellOf p7_50 e8) ?_
    refine q_iload_n rfl ?_
    refine q_ic_ne (fun c9 => ?_) (fun c9 => ?_)
    · rw [if_pos c9] at h
      refine q_iload rfl ?_
      have h := Option.some.inj h
      subst h
      exact q_iretI mcap_0 rfl rfl
    · rw [if_neg c9] at h
      exact okc_X11_round_125 Hk59 h ⟨rfl, rfl, rfl, rfl, rfl, trivial⟩
def c_X11_round_97 (k59 : Int32 → Int32 → Int32 → Int32 → Sg → Option (Int32 × Sg)) (x1 : Int32) (x2 : Int32) (x4 : Int32) (σ : Sg) : Option (Int32 × Sg) := (c_X11_round_102 k59  x1 x2 x4 (1 : Int32) σ)
set_option maxHeartbeats 4000000 in
theorem okc_X11_round_97 {L : Nat} {k59 : Int32 → Int32 → Int32 → Int32 → Sg → Option (Int32 × Sg)} {R : Int32 × Sg} (Hk59 : ∀ (x1 : Int32) (x2 : Int32) (x3 : Int32) (x4 : Int32) (σ : Sg) (pl : mLoc), k59 x1 x2 x3 x4 σ = some R → mlf [some (.ref 0), some (.int x1), some (.int x2), some (.int x3), some (.int x4)] pl → mAt 6 100 (some (.int R.1), (mSh, L, R.2)) 59 pl [] (mSh, L, σ) 0 0) {x1 : Int32} {x2 : Int32} {x4 : Int32} {σ : Sg} {pl : mLoc} (h : c_X11_round_97 k59 x1 x2 x4 σ = some R) (hl : mlf [some (.ref 0), some (.int x1), some (.int x2), none, some (.int x4)] pl) : mAt 6 100 (some (.int R.1), (mSh, L, R.2)) 97 pl [] (mSh, L, σ) 0 0 := by
  refine mAt.less hl ?_
  unfold c_X11_round_97 at h
  refine mAt.blk bk_X11_round_97 ck_X11_round_97 ?_
  refine q_iconst ?_
  refine q_goto ?_
  exact okc_X11_round_102 Hk59 h ⟨rfl, rfl, rfl, rfl, trivial⟩
def c_X11_round_59 : Nat → Int32 → Int32 → Int32 → Int32 → Sg → Option (Int32 × Sg)
  | 0, _, _, _, _, _ => none
  | n + 1, x1, x2, x3, x4, σ => (if (200 : Int32) < x4 then ((f_X11_error (2 : Int32) σ).bind fun q2 => (some (q2.1, q2.2))) else ((f_X10_goBy 44 6 9 (1 : Int32) σ).bind fun q3 => (if x3 = 0 then ((f_X11_pick 53 10 x1 q3).bind fun q5 => (if q5 = (1 : Int32) then (c_X11_round_97 (c_X11_round_59  n)  x1 x2 x4 q3) else (c_X11_round_102 (c_X11_round_59  n)  x1 x2 x4 (0 : Int32) q3))) else (c_X11_round_97 (c_X11_round_59  n)  x1 x2 x4 q3))))
set_option maxHeartbeats 4000000 in
theorem okc_X11_round_59 {L : Nat} {R : Int32 × Sg} {n : Nat} {x1 : Int32} {x2 : Int32} {x3 : Int32} {x4 : Int32} {σ : Sg} {pl : mLoc} (h : c_X11_round_59 n x1 x2 x3 x4 σ = some R) (hl : mlf [some (.ref 0), some (.int x1), some (.int x2), some (.int x3), some (.int x4)] pl) : mAt 6 100 (some (.int R.1), (mSh, L, R.2)) 59 pl [] (mSh, L, σ) 0 0 := by
  induction n generalizing x1 x2 x3 x4 σ pl with
  | zero =>
    rw [c_X11_round_59.eq_1] at h
    cases h
  | succ n ih =>
    refine mAt.less hl ?_
    rw [c_X11_round_59.eq_2] at h
    refine mAt.blk bk_X11_round_59 ck_X11_round_59 ?_
    refine q_iload rfl ?_
    refine q_sipush ?_
    refine q_ic_gt (fun c1 => ?_) (fun c1 => ?_)
    · rw [if_pos c1] at h
      refine mAt.blk bk_X11_round_131 ck_X11_round_131 ?_
      refine q_aload_n rfl ?_
      refine q_iconst ?_
      obtain ⟨q2, e2, h⟩ := mbind h
      refine q_vI1 mcap_0 rfl rfl ob_0 rfl (by decide) (ok_X11_error  e2) ?_
      have h := Option.some.inj h
      subst h
      exact q_iretI mcap_0 rfl rfl
    · rw [if_neg c1] at h
      refine q_aload_n rfl ?_
      refine q_getR ob_0 rfl rfl ?_
      refine q_iconst ?_
      obtain ⟨q3, e3, h⟩ := mbind h
      refine q_vV1 mcap_0 rfl rfl ob_44 rfl (by decide) (ok_X10_goBy p10_44 e3) ?_
      refine q_iload_n rfl ?_
      refine q_if_ne (fun c4 => ?_) (fun c4 => ?_)
      · rw [if_pos c4] at h
        refine q_aload_n rfl ?_
        refine q_getR ob_0 rfl rfl ?_
        refine q_getR ob_44 rfl rfl ?_
        refine q_getR ob_50 rfl rfl ?_
        refine q_iload_n rfl ?_
        obtain ⟨q5, e5, h⟩ := mbind h
        refine q_sI2 mcap_0 rfl rfl rfl rfl (by decide) (ok_X11_pick (mrd ar_53) e5) ?_
        refine q_iconst ?_
        refine q_ic_ne (fun c6 => ?_) (fun c6 => ?_)
        · rw [if_pos c6] at h
          exact okc_X11_round_97 (fun _ _ _ _ _ _ e hl => ih  e hl) h ⟨rfl, rfl, rfl, rfl, trivial⟩
        · rw [if_neg c6] at h
          refine mAt.blk bk_X11_round_101 ck_X11_round_101 ?_
          refine q_iconst ?_
          exact okc_X11_round_102 (fun _ _ _ _ _ _ e hl => ih  e hl) h ⟨rfl, rfl, rfl, rfl, trivial⟩
      · rw [if_neg c4] at h
        exact okc_X11_round_97 (fun _ _ _ _ _ _ e hl => ih  e hl) h ⟨rfl, rfl, rfl, rfl, trivial⟩
def f_X11_round (p0 : Int32) (p1 : Int32) (σ : Sg) : Option (Int32 × Sg) := ((f_X7_has 37 p0 σ).bind fun q10 => (if q10 = 0 then ((f_X11_error (1 : Int32) σ).bind fun q12 => (some (q12.1, q12.2))) else ((f_X9_has 32 p1 σ).bind fun q13 => (if q13 = 0 then ((f_X11_error (1 : Int32) σ).bind fun q17 => (some (q17.1, q17.2))) else ((f_X10_copyFrom 44 6 9 31 6 9 σ).bind fun q15 => ((f_X10_leaveAlone 44 6 9 p0 p1 q15).bind fun q16 => (c_X11_round_59   1000 p0 p1 (0 : Int32) (1 : Int32) q16)))))))
set_option maxHeartbeats 4000000 in
theorem ok_X11_round {L : Nat} {p0 : Int32} {p1 : Int32} {σ : Sg} {R : Int32 × Sg} (h : f_X11_round p0 p1 σ = some R) : mEv 6 100 [.ref 0, .int p0, .int p1] (mSh, L, σ) (some (.int R.1)) (mSh, L, R.2) := by
  refine mEv.of (by decide) rfl rfl ?_
  unfold f_X11_round at h
  refine mAt.blk bk_X11_round_0 ck_X11_round_0 ?_
  refine q_aload_n rfl ?_
  refine q_getR ob_0 rfl rfl ?_
  refine q_getR ob_31 rfl rfl ?_
  refine q_iload_n rfl ?_
  obtain ⟨q10, e10, h⟩ := mbind h
  refine q_vI1 mcap_0 rfl rfl ob_37 rfl (by decide) (ok_X7_has p7_37 e10) ?_
  refine q_if_eq (fun c11 => ?_) (fun c11 => ?_)
  · rw [if_pos c11] at h
    refine mAt.blk bk_X11_round_28 ck_X11_round_28 ?_
    refine q_aload_n rfl ?_
    refine q_iconst ?_
    obtain ⟨q12, e12, h⟩ := mbind h
    refine q_vI1 mcap_0 rfl rfl ob_0 rfl (by decide) (ok_X11_error  e12) ?_
    have h := Option.some.inj h
    subst h
    exact q_iretI mcap_0 rfl rfl
  · rw [if_neg c11] at h
    refine q_aload_n rfl ?_
    refine q_getR ob_0 rfl rfl ?_
    refine q_getR ob_31 rfl rfl ?_
    refine q_iload_n rfl ?_
    obtain ⟨q13, e13, h⟩ := mbind h
    refine q_vI1 mcap_0 rfl rfl ob_32 rfl (by decide) (ok_X9_has p9_32 e13) ?_
    refine q_if_ne (fun c14 => ?_) (fun c14 => ?_)
    · rw [if_pos c14] at h
      refine mAt.blk bk_X11_round_28 ck_X11_round_28 ?_
      refine q_aload_n rfl ?_
      refine q_iconst ?_
      obtain ⟨q17, e17, h⟩ := mbind h
      refine q_vI1 mcap_0 rfl rfl ob_0 rfl (by decide) (ok_X11_error  e17) ?_
      have h := Option.some.inj h
      subst h
      exact q_iretI mcap_0 rfl rfl
    · rw [if_neg c14] at h
      refine mAt.blk bk_X11_round_34 ck_X11_round_34 ?_
      refine q_aload_n rfl ?_
      refine q_getR ob_0 rfl rfl ?_
      refine q_aload_n rfl ?_
      refine q_getR ob_0 rfl rfl ?_
      obtain ⟨q15, e15, h⟩ := mbind h
      refine q_vV1 mcap_0 rfl rfl ob_44 rfl (by decide) (ok_X10_copyFrom p10_44 p10_31 e15) ?_
      refine q_aload_n rfl ?_
      refine q_getR ob_0 rfl rfl ?_
      refine q_iload_n rfl ?_
      refine q_iload_n rfl ?_
      obtain ⟨q16, e16, h⟩ := mbind h
      refine q_vV2 mcap_0 rfl rfl ob_44 rfl (by decide) (ok_X10_leaveAlone p10_44 e16) ?_
      refine q_iconst ?_
      refine q_istore_n rfl rfl ?_
      refine q_iconst ?_
      refine q_istore rfl rfl ?_
      exact okc_X11_round_59  h ⟨rfl, rfl, rfl, rfl, rfl, trivial⟩
def bk_X11_soon_0 : List mI := [(.aload_n 0, 1, 0, 0, 0, []), (.getfield 31, 3, 11, 0, 361, []), (.getfield 79, 3, 10, 0, 250, []), (.iload_n 1, 1, 0, 0, 0, []), (.invokevirtual 97, 3, 54, 0, 423, []), (.ifCond .eq 27, 3, 38, 0, 0, []), (.aload_n 0, 1, 0, 0, 0, []), (.getfield 31, 3, 11, 0, 361, []), (.getfield 79, 3, 10, 0, 250, []), (.iload_n 2, 1, 0, 0, 0, []), (.invokevirtual 97, 3, 54, 0, 423, []), (.ifCond .eq 13, 3, 38, 0, 0, []), (.iload_n 3, 1, 0, 0, 0, []), (.iconst 1, 1, 0, 0, 0, [(1, 0)]), (.bipush 99, 2, 0, 0, 0, [(99, 0)]), (.invokestatic 112, 3, 125, 0, 445, []), (.ifCond .ne 9, 3, 44, 0, 0, [])]
theorem ck_X11_soon_0 : mChk 101 0 bk_X11_soon_0 = true := by decide +kernel
def bk_X11_soon_38 : List mI := [(.aload_n 0, 1, 0, 0, 0, []), (.iconst 1, 1, 0, 0, 0, [(1, 0)]), (.invokevirtual 89, 3, 123, 0, 399, []), (.ireturn, 1, 0, 0, 0, [])]
theorem ck_X11_soon_38 : mChk 101 38 bk_X11_soon_38 = true := by decide +kernel
def bk_X11_soon_44 : List mI := [(.aload_n 0, 1, 0, 0, 0, []), (.getfield 31, 3, 11, 0, 361, []), (.getfield 79, 3, 10, 0, 250, []), (.iload_n 1, 1, 0, 0, 0, []), (.iload_n 2, 1, 0, 0, 0, []), (.iload_n 3, 1, 0, 0, 0, []), (.iconst 0, 1, 0, 0, 0, [(0, 0)]), (.invokevirtual 234, 3, 61, 0, 724, []), (.ireturn, 1, 0, 0, 0, [])]
theorem ck_X11_soon_44 : mChk 101 44 bk_X11_soon_44 = true := by decide +kernel
def f_X11_soon (p0 : Int32) (p1 : Int32) (p2 : Int32) (σ : Sg) : Option (Int32 × Sg) := ((f_X9_has 32 p0 σ).bind fun q1 => (if q1 = 0 then ((f_X11_error (1 : Int32) σ).bind fun q3 => (some (q3.1, q3.2))) else ((f_X9_has 32 p1 σ).bind fun q4 => (if q4 = 0 then ((f_X11_error (1 : Int32) σ).bind fun q6 => (some (q6.1, q6.2))) else ((f_X11_within p2 (1 : Int32) (99 : Int32) σ).bind fun q7 => (if q7 = 0 then ((f_X11_error (1 : Int32) σ).bind fun q10 => (some (q10.1, q10.2))) else ((f_X9_leastSum 32 p0 p1 p2 (0 : Int32) σ).bind fun q9 => (some (q9, σ)))))))))
set_option maxHeartbeats 4000000 in
theorem ok_X11_soon {L : Nat} {p0 : Int32} {p1 : Int32} {p2 : Int32} {σ : Sg} {R : Int32 × Sg} (h : f_X11_soon p0 p1 p2 σ = some R) : mEv 3 101 [.ref 0, .int p0, .int p1, .int p2] (mSh, L, σ) (some (.int R.1)) (mSh, L, R.2) := by
  refine mEv.of (by decide) rfl rfl ?_
  unfold f_X11_soon at h
  refine mAt.blk bk_X11_soon_0 ck_X11_soon_0 ?_
  refine q_aload_n rfl ?_
  refine q_getR ob_0 rfl rfl ?_
  refine q_getR ob_31 rfl rfl ?_
  refine q_iload_n rfl ?_
  obtain ⟨q1, e1, h⟩ := mbind h
  refine q_vI1 mcap_0 rfl rfl ob_32 rfl (by decide) (ok_X9_has p9_32 e1) ?_
  refine q_if_eq (fun c2 => ?_) (fun c2 => ?_)
  · rw [if_pos c2] at h
    refine mAt.blk bk_X11_soon_38 ck_X11_soon_38 ?_
    refine q_aload_n rfl ?_
    refine q_iconst ?_
    obtain ⟨q3, e3, h⟩ := mbind h
    refine q_vI1 mcap_0 rfl rfl ob_0 rfl (by decide) (ok_X11_error  e3) ?_
    have h := Option.some.inj h
    subst h
    exact q_iretI mcap_0 rfl rfl
  · rw [if_neg c2] at h
    refine q_aload_n rfl ?_
    refine q_getR ob_0 rfl rfl ?_
    refine q_getR ob_31 rfl rfl ?_
    refine q_iload_n rfl ?_
    obtain ⟨q4, e4, h⟩ := mbind h
    refine q_vI1 mcap_0 rfl rfl ob_32 rfl (by decide) (ok_X9_has p9_32 e4) ?_
    refine q_if_eq (fun c5 => ?_) (fun c5 => ?_)
    · rw [if_pos c5] at h
      refine mAt.blk bk_X11_soon_38 ck_X11_soon_38 ?_
      refine q_aload_n rfl ?_
      refine q_iconst ?_
      obtain ⟨q6, e6, h⟩ := mbind h
      refine q_vI1 mcap_0 rfl rfl ob_0 rfl (by decide) (ok_X11_error  e6) ?_
      have h := Option.some.inj h
      subst h
      exact q_iretI mcap_0 rfl rfl
    · rw [if_neg c5] at h
      refine q_iload_n rfl ?_
      refine q_iconst ?_
      refine q_bipush ?_
      obtain ⟨q7, e7, h⟩ := mbind h
      refine q_sI3 mcap_0 rfl rfl rfl rfl (by decide) (ok_X11_within  e7) ?_
      refine q_if_ne (fun c8 => ?_) (fun c8 => ?_)
      · rw [if_pos c8] at h
        refine mAt.blk bk_X11_soon_38 ck_X11_soon_38 ?_
        refine q_aload_n rfl ?_
        refine q_iconst ?_
        obtain ⟨q10, e10, h⟩ := mbind h
        refine q_vI1 mcap_0 rfl rfl ob_0 rfl (by decide) (ok_X11_error  e10) ?_
        have h := Option.some.inj h
        subst h
        exact q_iretI mcap_0 rfl rfl
      · rw [if_neg c8] at h
        refine mAt.blk bk_X11_soon_44 ck_X11_soon_44 ?_
        refine q_aload_n rfl ?_
        refine q_getR ob_0 rfl rfl ?_
        refine q_getR ob_31 rfl rfl ?_
        refine q_iload_n rfl ?_
        refine q_iload_n rfl ?_
        refine q_iload_n rfl ?_
        refine q_iconst ?_
        obtain ⟨q9, e9, h⟩ := mbind h
        refine q_vI4 mcap_0 rfl rfl ob_32 rfl (by decide) (ok_X9_leastSum p9_32 e9) ?_
        have h := Option.some.inj h
        subst h
        exact q_iretI mcap_0 rfl rfl
def bk_X11_cheap_0 : List mI := [(.aload_n 0, 1, 0, 0, 0, []), (.getfield 31, 3, 11, 0, 361, []), (.getfield 79, 3, 10, 0, 250, []), (.iload_n 1, 1, 0, 0, 0, []), (.invokevirtual 97, 3, 54, 0, 423, []), (.ifCond .eq 27, 3, 38, 0, 0, []), (.aload_n 0, 1, 0, 0, 0, []), (.getfield 31, 3, 11, 0, 361, []), (.getfield 79, 3, 10, 0, 250, []), (.iload_n 2, 1, 0, 0, 0, []), (.invokevirtual 97, 3, 54, 0, 423, []), (.ifCond .eq 13, 3, 38, 0, 0, []), (.iload_n 3, 1, 0, 0, 0, []), (.iconst 0, 1, 0, 0, 0, [(0, 0)]), (.bipush 99, 2, 0, 0, 0, [(99, 0)]), (.invokestatic 112, 3, 125, 0, 445, []), (.ifCond .ne 9, 3, 44, 0, 0, [])]
theorem ck_X11_cheap_0 : mChk 102 0 bk_X11_cheap_0 = true := by decide +kernel
def bk_X11_cheap_38 : List mI := [(.aload_n 0, 1, 0, 0, 0, []), (.iconst 1, 1, 0, 0, 0, [(1, 0)]), (.invokevirtual 89, 3, 123, 0, 399, []), (.ireturn, 1, 0, 0, 0, [])]
theorem ck_X11_cheap_38 : mChk 102 38 bk_X11_cheap_38 = true := by decide +kernel
def bk_X11_cheap_44 : List mI := [(.aload_n 0, 1, 0, 0, 0, []), (.getfield 31, 3, 11, 0, 361, []), (.getfield 79, 3, 10, 0, 250, []), (.iload_n 1, 1, 0, 0, 0, []), (.iload_n 2, 1, 0, 0, 0, []), (.iload_n 3, 1, 0, 0, 0, []), (.iconst 1, 1, 0, 0, 0, [(1, 0)]), (.invokevirtual 234, 3, 61, 0, 724, []), (.ireturn, 1, 0, 0, 0, [])]
theorem ck_X11_cheap_44 : mChk 102 44 bk_X11_cheap_44 = true := by decide +kernel
def f_X11_cheap (p0 : Int32) (p1 : Int32) (p2 : Int32) (σ : Sg) : Option (Int32 × Sg) := ((f_X9_has 32 p0 σ).bind fun q1 => (if q1 = 0 then ((f_X11_error (1 : Int32) σ).bind fun q3 => (some (q3.1, q3.2))) else ((f_X9_has 32 p1 σ).bind fun q4 => (if q4 = 0 then ((f_X11_error (1 : Int32) σ).bind fun q6 => (some (q6.1, q6.2))) else ((f_X11_within p2 (0 : Int32) (99 : Int32) σ).bind fun q7 => (if q7 = 0 then ((f_X11_error (1 : Int32) σ).bind fun q10 => (some (q10.1, q10.2))) else ((f_X9_leastSum 32 p0 p1 p2 (1 : Int32) σ).bind fun q9 => (some (q9, σ)))))))))
set_option maxHeartbeats 4000000 in
theorem ok_X11_cheap {L : Nat} {p0 : Int32} {p1 : Int32} {p2 : Int32} {σ : Sg} {R : Int32 × Sg} (h : f_X11_cheap p0 p1 p2 σ = some R) : mEv 3 102 [.ref 0, .int p0, .int p1, .int p2] (mSh, L, σ) (some (.int R.1)) (mSh, L, R.2) := by
  refine mEv.of (by decide) rfl rfl ?_
  unfold f_X11_cheap at h
  refine mAt.blk bk_X11_cheap_0 ck_X11_cheap_0 ?_
  refine q_aload_n rfl ?_
  refine q_getR ob_0 rfl rfl ?_
  refine q_getR ob_31 rfl rfl ?_
  refine q_iload_n rfl ?_
  obtain ⟨q1, e1, h⟩ := mbind h
  refine q_vI1 mcap_0 rfl rfl ob_32 rfl (by decide) (ok_X9_has p9_32 e1) ?_
  refine q_if_eq (fun c2 => ?_) (fun c2 => ?_)
  · rw [if_pos c2] at h
    refine mAt.blk bk_X11_cheap_38 ck_X11_cheap_38 ?_
    refine q_aload_n rfl ?_
    refine q_iconst ?_
    obtain ⟨q3, e3, h⟩ := mbind h
    refine q_vI1 mcap_0 rfl rfl ob_0 rfl (by decide) (ok_X11_error  e3) ?_
    have h := Option.some.inj h
    subst h
    exact q_iretI mcap_0 rfl rfl
  · rw [if_neg c2] at h
    refine q_aload_n rfl ?_
    refine q_getR ob_0 rfl rfl ?_
    refine q_getR ob_31 rfl rfl ?_
    refine q_iload_n rfl ?_
    obtain ⟨q4, e4, h⟩ := mbind h
    refine q_vI1 mcap_0 rfl rfl ob_32 rfl (by decide) (ok_X9_has p9_32 e4) ?_
    refine q_if_eq (fun c5 => ?_) (fun c5 => ?_)
    · rw [if_pos c5] at h
      refine mAt.blk bk_X11_cheap_38 ck_X11_cheap_38 ?_
      refine q_aload_n rfl ?_
      refine q_iconst ?_
      obtain ⟨q6, e6, h⟩ := mbind h
      refine q_vI1 mcap_0 rfl rfl ob_0 rfl (by decide) (ok_X11_error  e6) ?_
      have h := Option.some.inj h
      subst h
      exact q_iretI mcap_0 rfl rfl
    · rw [if_neg c5] at h
      refine q_iload_n rfl ?_
      refine q_iconst ?_
      refine q_bipush ?_
      obtain ⟨q7, e7, h⟩ := mbind h
      refine q_sI3 mcap_0 rfl rfl rfl rfl (by decide) (ok_X11_within  e7) ?_
      refine q_if_ne (fun c8 => ?_) (fun c8 => ?_)
      · rw [if_pos c8] at h
        refine mAt.blk bk_X11_cheap_38 ck_X11_cheap_38 ?_
        refine q_aload_n rfl ?_
        refine q_iconst ?_
        obtain ⟨q10, e10, h⟩ := mbind h
        refine q_vI1 mcap_0 rfl rfl ob_0 rfl (by decide) (ok_X11_error  e10) ?_
        have h := Option.some.inj h
        subst h
        exact q_iretI mcap_0 rfl rfl
      · rw [if_neg c8] at h
        refine mAt.blk bk_X11_cheap_44 ck_X11_cheap_44 ?_
        refine q_aload_n rfl ?_
        refine q_getR ob_0 rfl rfl ?_
        refine q_getR ob_31 rfl rfl ?_
        refine q_iload_n rfl ?_
        refine q_iload_n rfl ?_
        refine q_iload_n rfl ?_
        refine q_iconst ?_
        obtain ⟨q9, e9, h⟩ := mbind h
        refine q_vI4 mcap_0 rfl rfl ob_32 rfl (by decide) (ok_X9_leastSum p9_32 e9) ?_
        have h := Option.some.inj h
        subst h
        exact q_iretI mcap_0 rfl rfl
