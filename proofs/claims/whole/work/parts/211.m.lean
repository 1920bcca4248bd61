def bk_X12_worked_0 : List mI := [(.aload_n 0, 1, 0, 0, 0, []), (.iload_n 1, 1, 0, 0, 0, []), (.putfield 62, 3, 12, 5, 942, []), (.aload_n 0, 1, 0, 0, 0, []), (.iconst 0, 1, 0, 0, 0, [(0, 0)]), (.putfield 52, 3, 12, 6, 943, []), (.aload_n 0, 1, 0, 0, 0, []), (.iload_n 2, 1, 0, 0, 0, []), (.putfield 56, 3, 12, 7, 944, []), (.aload_n 0, 1, 0, 0, 0, []), (.iconst (-1), 1, 0, 0, 0, [((-1), 0)]), (.putfield 59, 3, 12, 8, 945, []), (.aload_n 0, 1, 0, 0, 0, []), (.iconst 0, 1, 0, 0, 0, [(0, 0)]), (.putfield 92, 3, 12, 9, 946, []), (.aload_n 0, 1, 0, 0, 0, []), (.iload_n 3, 1, 0, 0, 0, []), (.ifCond .ne 7, 3, 34, 0, 0, []), (.iconst 1, 1, 0, 0, 0, [(1, 0)]), (.goto 4, 3, 35, 0, 0, [])]
theorem ck_X12_worked_0 : mChk 152 0 bk_X12_worked_0 = true := by decide +kernel
def bk_X12_worked_34 : List mI := [(.iconst 0, 1, 0, 0, 0, [(0, 0)])]
theorem ck_X12_worked_34 : mChk 152 34 bk_X12_worked_34 = true := by decide +kernel
def bk_X12_worked_35 : List mI := [(.putfield 69, 3, 12, 10, 947, []), (.aload_n 0, 1, 0, 0, 0, []), (.invokevirtual 98, 3, 146, 0, 1024, []), (.istore 4, 2, 0, 0, 0, []), (.aload_n 0, 1, 0, 0, 0, []), (.getfield 59, 3, 12, 8, 945, []), (.ifCond .ge 19, 3, 67, 0, 0, []), (.aload_n 0, 1, 0, 0, 0, []), (.getfield 52, 3, 12, 6, 943, []), (.aload_n 0, 1, 0, 0, 0, []), (.getfield 56, 3, 12, 7, 944, []), (.if_icmp .ge 8, 3, 67, 0, 0, []), (.aload_n 0, 1, 0, 0, 0, []), (.invokevirtual 95, 3, 143, 0, 1052, []), (.ireturn, 1, 0, 0, 0, [])]
theorem ck_X12_worked_35 : mChk 152 35 bk_X12_worked_35 = true := by decide +kernel
def bk_X12_worked_67 : List mI := [(.iload 4, 2, 0, 0, 0, []), (.ireturn, 1, 0, 0, 0, [])]
theorem ck_X12_worked_67 : mChk 152 67 bk_X12_worked_67 = true := by decide +kernel
def c_X12_worked_35 (s1 : Int32) (σ : Sg) : Option (Int32 × Sg) := (if s1 = 0 ∨ s1 = 1 then ((f_X12_either 64  (mup σ 93 10 s1)).bind fun q2 => (if 0 ≤ (q2.2 93 8) then (some (q2.1, q2.2)) else (if (q2.2 93 7) ≤ (q2.2 93 6) then (some (q2.1, q2.2)) else ((f_X12_wrong  q2.2).bind fun q5 => (some (q5.1, q5.2)))))) else none)
set_option maxHeartbeats 4000000 in
theorem okc_X12_worked_35 {L : Nat} {R : Int32 × Sg} {s1 : Int32} {σ : Sg} {pl : mLoc} (h : c_X12_worked_35 s1 σ = some R) (hl : mlf [some (.ref 93), none, none, none, none] pl) : mAt 67 152 (some (.int R.1), (mSh, L, R.2)) 35 pl [.int s1, .ref 93] (mSh, L, σ) 0 0 := by
  refine mAt.less hl ?_
  unfold c_X12_worked_35 at h
  refine mAt.blk bk_X12_worked_35 ck_X12_worked_35 ?_
  obtain ⟨c1, h⟩ := msome h
  refine q_putZ ob_93 rfl c1 ?_
  refine q_aload_n rfl ?_
  obtain ⟨q2, e2, h⟩ := mbind h
  refine q_vI0 mcap_0 rfl rfl ob_93 rfl (by decide) (ok_X12_either  e2) ?_
  refine q_istore rfl rfl ?_
  refine q_aload_n rfl ?_
  refine q_getI ob_93 rfl ?_
  refine q_if_ge (fun c3 => ?_) (fun c3 => ?_)
  · rw [if_pos c3] at h
    refine mAt.blk bk_X12_worked_67 ck_X12_worked_67 ?_
    refine q_iload rfl ?_
    have h := Option.some.inj h
    subst h
    exact q_iretI mcap_0 rfl rfl
  · rw [if_neg c3] at h
    refine q_aload_n rfl ?_
    refine q_getI ob_93 rfl ?_
    refine q_aload_n rfl ?_
    refine q_getI ob_93 rfl ?_
    refine q_ic_ge (fun c4 => ?_) (fun c4 => ?_)
    · rw [if_pos c4] at h
      refine mAt.blk bk_X12_worked_67 ck_X12_worked_67 ?_
      refine q_iload rfl ?_
      have h := Option.some.inj h
      subst h
      exact q_iretI mcap_0 rfl rfl
    · rw [if_neg c4] at h
      refine q_aload_n rfl ?_
      obtain ⟨q5, e5, h⟩ := mbind h
      refine q_vI0 mcap_0 rfl rfl ob_93 rfl (by decide) (ok_X12_wrong  e5) ?_
      have h := Option.some.inj h
      subst h
      exact q_iretI mcap_0 rfl rfl
def f_X12_worked (p0 : Int32) (p1 : Int32) (p2 : Int32) (σ : Sg) : Option (Int32 × Sg) := (if p2 = 0 then (c_X12_worked_35   (1 : Int32) (mup (mup (mup (mup (mup σ 93 5 p0) 93 6 (0 : Int32)) 93 7 p1) 93 8 (-1 : Int32)) 93 9 (0 : Int32))) else (c_X12_worked_35   (0 : Int32) (mup (mup (mup (mup (mup σ 93 5 p0) 93 6 (0 : Int32)) 93 7 p1) 93 8 (-1 : Int32)) 93 9 (0 : Int32))))
set_option maxHeartbeats 4000000 in
theorem ok_X12_worked {L : Nat} {p0 : Int32} {p1 : Int32} {p2 : Int32} {σ : Sg} {R : Int32 × Sg} (h : f_X12_worked p0 p1 p2 σ = some R) : mEv 67 152 [.ref 93, .int p0, .int p1, .int p2] (mSh, L, σ) (some (.int R.1)) (mSh, L, R.2) := by
  refine mEv.of (by decide) rfl rfl ?_
  unfold f_X12_worked at h
  refine mAt.blk bk_X12_worked_0 ck_X12_worked_0 ?_
  refine q_aload_n rfl ?_
  refine q_iload_n rfl ?_
  refine q_putI ob_93 rfl ?_
  refine q_aload_n rfl ?_
  refine q_iconst ?_
  refine q_putI ob_93 rfl ?_
  refine q_aload_n rfl ?_
  refine q_iload_n rfl ?_
  refine q_putI ob_93 rfl ?_
  refine q_aload_n rfl ?_
  refine q_iconst ?_
  refine q_putI ob_93 rfl ?_
  refine q_aload_n rfl ?_
  refine q_iconst ?_
  refine q_putI ob_93 rfl ?_
  refine q_aload_n rfl ?_
  refine q_iload_n rfl ?_
  refine q_if_ne (fun c6 => ?_) (fun c6 => ?_)
  · rw [if_pos c6] at h
    refine q_iconst ?_
    refine q_goto ?_
    exact okc_X12_worked_35  h ⟨rfl, trivial⟩
  · rw [if_neg c6] at h
    refine mAt.blk bk_X12_worked_34 ck_X12_worked_34 ?_
    refine q_iconst ?_
    exact okc_X12_worked_35  h ⟨rfl, trivial⟩
def bk_X12_feed_0 : List mI := [(.iload_n 3, 1, 0, 0, 0, []), (.i2l, 1, 0, 0, 0, []), (.lconst 1, 1, 0, 0, 0, [(1, 0)]), (.ldc2_w 109, 3, 0, 0, 1006, [(8, 0)]), (.invokestatic 48, 3, 135, 0, 1007, []), (.ifCond .ne 9, 3, 18, 0, 0, []), (.aload_n 0, 1, 0, 0, 0, []), (.iconst 1, 1, 0, 0, 0, [(1, 0)]), (.invokevirtual 111, 3, 134, 0, 1010, []), (.ireturn, 1, 0, 0, 0, [])]
theorem ck_X12_feed_0 : mChk 153 0 bk_X12_feed_0 = true := by decide +kernel
def bk_X12_feed_18 : List mI := [(.aload_n 0, 1, 0, 0, 0, []), (.getfield 7, 3, 12, 0, 937, []), (.iconst 5, 1, 0, 0, 0, [(5, 0)]), (.iaload, 1, 0, 0, 0, []), (.iload_n 3, 1, 0, 0, 0, []), (.iadd, 1, 0, 0, 0, []), (.bipush 50, 2, 0, 0, 0, [(50, 0)]), (.if_icmp .le 9, 3, 37, 0, 0, []), (.aload_n 0, 1, 0, 0, 0, []), (.iconst 4, 1, 0, 0, 0, [(4, 0)]), (.invokevirtual 111, 3, 134, 0, 1010, []), (.ireturn, 1, 0, 0, 0, [])]
theorem ck_X12_feed_18 : mChk 153 18 bk_X12_feed_18 = true := by decide +kernel
def bk_X12_feed_37 : List mI := [(.iconst 0, 1, 0, 0, 0, [(0, 0)]), (.istore 4, 2, 0, 0, 0, [])]
theorem ck_X12_feed_37 : mChk 153 37 bk_X12_feed_37 = true := by decide +kernel
def bk_X12_feed_40 : List mI := [(.iload 4, 2, 0, 0, 0, []), (.iload_n 3, 1, 0, 0, 0, []), (.if_icmp .ge 46, 3, 89, 0, 0, []), (.aload_n 0, 1, 0, 0, 0, []), (.getfield 7, 3, 12, 0, 937, []), (.sipush 264, 3, 0, 0, 0, [(264, 0)]), (.aload_n 0, 1, 0, 0, 0, []), (.getfield 7, 3, 12, 0, 937, []), (.iconst 5, 1, 0, 0, 0, [(5, 0)]), (.iaload, 1, 0, 0, 0, []), (.iadd, 1, 0, 0, 0, []), (.lload_n 1, 1, 0, 0, 0, []), (.bipush 8, 2, 0, 0, 0, [(8, 0)]), (.iload 4, 2, 0, 0, 0, []), (.imul, 1, 0, 0, 0, []), (.lshr, 1, 0, 0, 0, []), (.ldc2_w 114, 3, 0, 0, 1015, [(255, 0)]), (.land, 1, 0, 0, 0, []), (.l2i, 1, 0, 0, 0, []), (.iastore, 1, 0, 0, 0, []), (.aload_n 0, 1, 0, 0, 0, []), (.getfield 7, 3, 12, 0, 937, []), (.iconst 5, 1, 0, 0, 0, [(5, 0)]), (.dup2, 1, 0, 0, 0, []), (.iaload, 1, 0, 0, 0, []), (.iconst 1, 1, 0, 0, 0, [(1, 0)]), (.iadd, 1, 0, 0, 0, []), (.iastore, 1, 0, 0, 0, []), (.iinc 4 1, 3, 0, 0, 0, [(1, 0)]), (.goto (-46), 3, 40, 0, 0, [])]
theorem ck_X12_feed_40 : mChk 153 40 bk_X12_feed_40 = true := by decide +kernel
def bk_X12_feed_89 : List mI := [(.aload_n 0, 1, 0, 0, 0, []), (.getfield 7, 3, 12, 0, 937, []), (.iconst 5, 1, 0, 0, 0, [(5, 0)]), (.iaload, 1, 0, 0, 0, []), (.ireturn, 1, 0, 0, 0, [])]
theorem ck_X12_feed_89 : mChk 153 89 bk_X12_feed_89 = true := by decide +kernel
def c_X12_feed_40 : Nat → Int64 → Int32 → Int32 → Sg → Option (Int32 × Sg)
  | 0, _, _, _, _ => none
  | n + 1, x1, x3, x4, σ => (if x3 ≤ x4 then (some ((σ 94 5), σ)) else (if ((264 : Int32) + (σ 94 5)) < 0 ∨ 320 ≤ (((264 : Int32) + (σ 94 5))).toNatClampNeg then none else (c_X12_feed_40  n x1 x3 (x4 + (1 : Int32)) (mup (mup σ 94 (((264 : Int32) + (σ 94 5))).toNatClampNeg (((x1 >>> ((((8 : Int32) * x4)).toInt64 &&& 63)) &&& (255 : Int32).toInt64)).toInt32) 94 5 (((mup σ 94 (((264 : Int32) + (σ 94 5))).toNatClampNeg (((x1 >>> ((((8 : Int32) * x4)).toInt64 &&& 63)) &&& (255 : Int32).toInt64)).toInt32) 94 5) + (1 : Int32))))))
set_option maxHeartbeats 4000000 in
theorem okc_X12_feed_40 {L : Nat} {R : Int32 × Sg} {n : Nat} {x1 : Int64} {x3 : Int32} {x4 : Int32} {σ : Sg} {pl : mLoc} (h : c_X12_feed_40 n x1 x3 x4 σ = some R) (hl : mlf [some (.ref 93), some (.long x1), none, some (.int x3), some (.int x4)] pl) : mAt 1 153 (some (.int R.1), (mSh, L, R.2)) 40 pl [] (mSh, L, σ) 0 0 := by
  induction n generalizing x1 x3 x4 σ pl with
  | zero =>
    rw [c_X12_feed_40.eq_1] at h
    cases h
  | succ n ih =>
    refine mAt.less hl ?_
    rw [c_X12_feed_40.eq_2] at h
    refine mAt.blk bk_X12_feed_40 ck_X12_feed_40 ?_
    refine q_iload rfl ?_
    refine q_iload_n rfl ?_
    refine q_ic_ge (fun c1 => ?_) (fun c1 => ?_)
    · rw [if_pos c1] at h
      refine mAt.blk bk_X12_feed_89 ck_X12_feed_89 ?_
      refine q_aload_n rfl ?_
      refine q_getR ob_93 rfl rfl ?_
      refine q_iconst ?_
      refine q_iald (j := 5) (mrd ar_94 _ _) (by decide) (by decide) ?_
      have h := Option.some.inj h
      subst h
      exact q_iretI mcap_0 rfl rfl
    · rw [if_neg c1] at h
      refine q_aload_n rfl ?_
      refine q_getR ob_93 rfl rfl ?_
      refine q_sipush ?_
      refine q_aload_n rfl ?_
      refine q_getR ob_93 rfl rfl ?_
      refine q_iconst ?_
      refine q_iald (j := 5) (mrd ar_94 _ _) (by decide) (by decide) ?_
      refine q_iadd ?_
      refine q_lload_n rfl ?_
      refine q_bipush ?_
      refine q_iload rfl ?_
      refine q_imul ?_
      refine q_lshr ?_
      refine q_ldc2_w ?_
      refine q_land ?_
      refine q_l2i ?_
      obtain ⟨c4, h⟩ := mnone h
      refine q_iast rfl ar_94 c4 ?_
      refine q_aload_n rfl ?_
      refine q_getR ob_93 rfl rfl ?_
      refine q_iconst ?_
      refine q_dup2 ?_
      refine q_iald (j := 5) (mrd ar_94 _ _) (by decide) (by decide) ?_
      refine q_iconst ?_
      refine q_iadd ?_
      refine q_iast (j := 5) (by decide) ar_94 (by decide) ?_
      refine q_iinc rfl rfl ?_
      refine q_goto ?_
      exact ih  h ⟨rfl, rfl, rfl, rfl, trivial⟩
def f_X12_feed (p0 : Int64) (p1 : Int32) (σ : Sg) : Option (Int32 × Sg) := ((f_X12_isIn (p1).toInt64 (1 : Int32).toInt64 (8 : Int32).toInt64 σ).bind fun q7 => (if q7 = 0 then ((f_X12_finds (1 : Int32) σ).bind fun q12 => (some (q12.1, q12.2))) else (if ((σ 94 5) + p1) ≤ (50 : Int32) then (c_X12_feed_40   1000 p0 p1 (0 : Int32) σ) else ((f_X12_finds (4 : Int32) σ).bind fun q11 => (some (q11.1, q11.2))))))
set_option maxHeartbeats 4000000 in
theorem ok_X12_feed {L : Nat} {p0 : Int64} {p1 : Int32} {σ : Sg} {R : Int32 × Sg} (h : f_X12_feed p0 p1 σ = some R) : mEv 1 153 [.ref 93, .long p0, .int p1] (mSh, L, σ) (some (.int R.1)) (mSh, L, R.2) := by
  refine mEv.of (by decide) rfl rfl ?_
  unfold f_X12_feed at h
  refine mAt.blk bk_X12_feed_0 ck_X12_feed_0 ?_
  refine q_iload_n rfl ?_
  refine q_i2l ?_
  refine q_lconst ?_
  refine q_ldc2_w ?_
  obtain ⟨q7, e7, h⟩ := mbind h
  refine q_sI3 mcap_0 rfl rfl rfl rfl (by decide) (ok_X12_isIn  e7) ?_
  refine q_if_ne (fun c8 => ?_) (fun c8 => ?_)
  · rw [if_pos c8] at h
    refine q_aload_n rfl ?_
    refine q_iconst ?_
    obtain ⟨q12, e12, h⟩ := mbind h
    refine q_vI1 mcap_0 rfl rfl ob_93 rfl (by decide) (ok_X12_finds  e12) ?_
    have h := Option.some.inj h
    subst h
    exact q_iretI mcap_0 rfl rfl
  · rw [if_neg c8] at h
    refine mAt.blk bk_X12_feed_18 ck_X12_feed_18 ?_
    refine q_aload_n rfl ?_
    refine q_getR ob_93 rfl rfl ?_
    refine q_iconst ?_
    refine q_iald (j := 5) (mrd ar_94 _ _) (by decide) (by decide) ?_
    refine q_iload_n rfl ?_
    refine q_iadd ?_
    refine q_bipush ?_
    refine q_ic_le (fun c10 => ?_) (fun c10 => ?_)
    · rw [if_pos c10] at h
      refine mAt.blk bk_X12_feed_37 ck_X12_feed_37 ?_
      refine q_iconst ?_
      refine q_istore rfl rfl ?_
      exact okc_X12_feed_40  h ⟨rfl, rfl, rfl, rfl, trivial⟩
    · rw [if_neg c10] at h
      refine q_aload_n rfl ?_
      refine q_iconst ?_
      obtain ⟨q11, e11, h⟩ := mbind h
      refine q_vI1 mcap_0 rfl rfl ob_93 rfl (by decide) (ok_X12_finds  e11) ?_
      have h := Option.some.inj h
      subst h
      exact q_iretI mcap_0 rfl rfl
def bk_X12_text_0 : List mI := [(.iload_n 1, 1, 0, 0, 0, []), (.i2l, 1, 0, 0, 0, []), (.lconst 0, 1, 0, 0, 0, [(0, 0)]), (.lconst 1, 1, 0, 0, 0, [(1, 0)]), (.invokestatic 48, 3, 135, 0, 1007, []), (.ifCond .ne 9, 3, 16, 0, 0, []), (.aload_n 0, 1, 0, 0, 0, []), (.iconst 1, 1, 0, 0, 0, [(1, 0)]), (.invokevirtual 111, 3, 134, 0, 1010, []), (.ireturn, 1, 0, 0, 0, [])]
theorem ck_X12_text_0 : mChk 154 0 bk_X12_text_0 = true := by decide +kernel
def bk_X12_text_16 : List mI := [(.aload_n 0, 1, 0, 0, 0, []), (.getfield 7, 3, 12, 0, 937, []), (.iconst 5, 1, 0, 0, 0, [(5, 0)]), (.iaload, 1, 0, 0, 0, []), (.istore_n 2, 1, 0, 0, 0, []), (.aload_n 0, 1, 0, 0, 0, []), (.getfield 7, 3, 12, 0, 937, []), (.iconst 5, 1, 0, 0, 0, [(5, 0)]), (.iconst 0, 1, 0, 0, 0, [(0, 0)]), (.iastore, 1, 0, 0, 0, []), (.aload_n 0, 1, 0, 0, 0, []), (.sipush 264, 3, 0, 0, 0, [(264, 0)]), (.iload_n 2, 1, 0, 0, 0, []), (.iload_n 1, 1, 0, 0, 0, []), (.invokevirtual 116, 3, 152, 0, 1020, []), (.istore_n 3, 1, 0, 0, 0, []), (.aload_n 0, 1, 0, 0, 0, []), (.getfield 59, 3, 12, 8, 945, []), (.ifCond .lt 11, 3, 55, 0, 0, []), (.bipush (-10), 2, 0, 0, 0, [((-10), 0)]), (.aload_n 0, 1, 0, 0, 0, []), (.getfield 59, 3, 12, 8, 945, []), (.isub, 1, 0, 0, 0, []), (.ireturn, 1, 0, 0, 0, [])]
theorem ck_X12_text_16 : mChk 154 16 bk_X12_text_16 = true := by decide +kernel
def bk_X12_text_55 : List mI := [(.aload_n 0, 1, 0, 0, 0, []), (.getfield 7, 3, 12, 0, 937, []), (.sipush 142, 3, 0, 0, 0, [(142, 0)]), (.iload_n 1, 1, 0, 0, 0, []), (.iadd, 1, 0, 0, 0, []), (.iload_n 2, 1, 0, 0, 0, []), (.iastore, 1, 0, 0, 0, []), (.iconst 0, 1, 0, 0, 0, [(0, 0)]), (.istore 4, 2, 0, 0, 0, [])]
theorem ck_X12_text_55 : mChk 154 55 bk_X12_text_55 = true := by decide +kernel
def bk_X12_text_69 : List mI := [(.iload 4, 2, 0, 0, 0, []), (.iload_n 2, 1, 0, 0, 0, []), (.if_icmp .ge 36, 3, 108, 0, 0, []), (.aload_n 0, 1, 0, 0, 0, []), (.getfield 7, 3, 12, 0, 937, []), (.sipush 164, 3, 0, 0, 0, [(164, 0)]), (.bipush 50, 2, 0, 0, 0, [(50, 0)]), (.iload_n 1, 1, 0, 0, 0, []), (.imul, 1, 0, 0, 0, []), (.iadd, 1, 0, 0, 0, []), (.iload 4, 2, 0, 0, 0, []), (.iadd, 1, 0, 0, 0, []), (.aload_n 0, 1, 0, 0, 0, []), (.getfield 7, 3, 12, 0, 937, []), (.sipush 264, 3, 0, 0, 0, [(264, 0)]), (.iload 4, 2, 0, 0, 0, []), (.iadd, 1, 0, 0, 0, []), (.iaload, 1, 0, 0, 0, []), (.iastore, 1, 0, 0, 0, []), (.iinc 4 1, 3, 0, 0, 0, [(1, 0)]), (.goto (-36), 3, 69, 0, 0, [])]
theorem ck_X12_text_69 : mChk 154 69 bk_X12_text_69 = true := by decide +kernel
def bk_X12_text_108 : List mI := [(.iconst 1, 1, 0, 0, 0, [(1, 0)]), (.ireturn, 1, 0, 0, 0, [])]
theorem ck_X12_text_108 : mChk 154 108 bk_X12_text_108 = true := by decide +kernel
def c_X12_text_69 : Nat → Int32 → Int32 → Int32 → Sg → Option (Int32 × Sg)
  | 0, _, _, _, _ => none
  | n + 1, x1, x2, x4, σ => (if x2 ≤ x4 then (some ((1 : Int32), σ)) else (if ((264 : Int32) + x4) < 0 ∨ 320 ≤ (((264 : Int32) + x4)).toNatClampNeg then none else (if (((164 : Int32) + ((50 : Int32) * x1)) + x4) < 0 ∨ 320 ≤ ((((164 : Int32) + ((50 : Int32) * x1)) + x4)).toNatClampNeg then none else (c_X12_text_69  n x1 x2 (x4 + (1 : Int32)) (mup σ 94 ((((164 : Int32) + ((50 : Int32) * x1)) + x4)).toNatClampNeg (σ 94 (((264 : Int32) + x4)).toNatClampNeg))))))
set_option maxHeartbeats 4000000 in
theorem okc_X12_text_69 {L : Nat} {R : Int32 × Sg} {n : Nat} {x1 : Int32} {x2 : Int32} {x4 : Int32} {σ : Sg} {pl : mLoc} (h : c_X12_text_69 n x1 x2 x4 σ = some R) (hl : mlf [some (.ref 93), some (.int x1), some (.int x2), none, some (.int x4)] pl) : mAt 68 154 (some (.int R.1), (mSh, L, R.2)) 69 pl [] (mSh, L, σ) 0 0 := by
  induction n generalizing x1 x2 x4 σ pl with
  | zero =>
    rw [c_X12_text_69.eq_1] at h
    cases h
  | succ n ih =>
    refine mAt.less hl ?_
    rw [c_X12_text_69.eq_2] at h
    refine mAt.blk bk_X12_text_69 ck_X12_text_69 ?_
    refine q_iload rfl ?_
    refine q_iload_n rfl ?_
    refine q_ic_ge (fun c1 => ?_) (fun c1 => ?_)
    · rw [if_pos c1] at h
      refine mAt.blk bk_X12_text_108 ck_X12_text_108 ?_
      refine q_iconst ?_
      have h := Option.some.inj h
      subst h
      exact q_iretI mcap_0 rfl rfl
    · rw [if_neg c1] at h
      refine q_aload_n rfl ?_
      refine q_getR ob_93 rfl rfl ?_
      refine q_sipush ?_
      refine q_bipush ?_
      refine q_iload_n rfl ?_
      refine q_imul ?_
      refine q_iadd ?_
      refine q_iload rfl ?_
      refine q_iadd ?_
      refine q_aload_n rfl ?_
      refine q_getR ob_93 rfl rfl ?_
      refine q_sipush ?_
      refine q_iload rfl ?_
      refine q_iadd ?_
      obtain ⟨c2, h⟩ := mnone h
      refine q_iald (mrd ar_94 _ _) rfl c2 ?_
      obtain ⟨c3, h⟩ := mnone h
      refine q_iast rfl ar_94 c3 ?_
      refine q_iinc rfl rfl ?_
      refine q_goto ?_
      exact ih  h ⟨rfl, rfl, rfl, rfl, trivial⟩
def f_X12_text (p0 : Int32) (σ : Sg) : Option (Int32 × Sg) := ((f_X12_isIn (p0).toInt64 (0 : Int32).toInt64 (1 : Int32).toInt64 σ).bind fun q4 => (if q4 = 0 then ((f_X12_finds (1 : Int32) σ).bind fun q11 => (some (q11.1, q11.2))) else ((f_X12_worked (264 : Int32) (σ 94 5) p0 (mup σ 94 5 (0 : Int32))).bind fun q8 => (if (q8.2 93 8) < 0 then (if ((142 : Int32) + p0) < 0 ∨ 320 ≤ (((142 : Int32) + p0)).toNatClampNeg then none else (c_X12_text_69   1000 p0 (σ 94 5) (0 : Int32) (mup q8.2 94 (((142 : Int32) + p0)).toNatClampNeg (σ 94 5)))) else (some (((-10 : Int32) - (q8.2 93 8)), q8.2))))))
set_option maxHeartbeats 4000000 in
theorem ok_X12_text {L : Nat} {p0 : Int32} {σ : Sg} {R : Int32 × Sg} (h : f_X12_text p0 σ = some R) : mEv 68 154 [.ref 93, .int p0] (mSh, L, σ) (some (.int R.1)) (mSh, L, R.2) := by
  refine mEv.of (by decide) rfl rfl ?_
  unfold f_X12_text at h
  refine mAt.blk bk_X12_text_0 ck_X12_text_0 ?_
  refine q_iload_n rfl ?_
  refine q_i2l ?_
  refine q_lconst ?_
  refine q_lconst ?_
  obtain ⟨q4, e4, h⟩ := mbind h
  refine q_sI3 mcap_0 rfl rfl rfl rfl (by decide) (ok_X12_isIn  e4) ?_
  refine q_if_ne (fun c5 => ?_) (fun c5 => ?_)
  · rw [if_pos c5] at h
    refine q_aload_n rfl ?_
    refine q_iconst ?_
    obtain ⟨q11, e11, h⟩ := mbind h
    refine q_vI1 mcap_0 rfl rfl ob_93 rfl (by decide) (ok_X12_finds  e11) ?_
    have h := Option.some.inj h
    subst h
    exact q_iretI mcap_0 rfl rfl
  · rw [if_neg c5] at h
    refine mAt.blk bk_X12_text_16 ck_X12_text_16 ?_
    refine q_aload_n rfl ?_
    refine q_getR ob_93 rfl rfl ?_
    refine q_iconst ?_
    refine q_iald (j := 5) (mrd ar_94 _ _) (by decide) (by decide) ?_
    refine q_istore_n rfl rfl ?_
    refine q_aload_n rfl ?_
    refine q_getR ob_93 rfl rfl ?_
    refine q_iconst ?_
    refine q_iconst ?_
    refine q_iast (j := 5) (by decide) ar_94 (by decide) ?_
    refine q_aload_n rfl ?_
    refine q_sipush ?_
    refine q_iload_n rfl ?_
    refine q_iload_n rfl ?_
    obtain ⟨q8, e8, h⟩ := mbind h
    refine q_vI3 mcap_0 rfl rfl ob_93 rfl (by decide) (ok_X12_worked  e8) ?_
    refine q_istore_n rfl rfl ?_
    refine q_aload_n rfl ?_
    refine q_getI ob_93 rfl ?_
    refine q_if_lt (fun c9 => ?_) (fun c9 => ?_)
    · rw [if_pos c9] at h
      refine mAt.blk bk_X12_text_55 ck_X12_text_55 ?_
      refine q_aload_n rfl ?_
      refine q_getR ob_93 rfl rfl ?_
      refine q_sipush ?_
      refine q_iload_n rfl ?_
      refine q_iadd ?_
      refine q_iload_n rfl ?_
      obtain ⟨c10, h⟩ := mnone h
      refine q_iast rfl ar_94 c10 ?_
      refine q_iconst ?_
      refine q_istore rfl rfl ?_
      exact okc_X12_text_69  h ⟨rfl, rfl, rfl, rfl, trivial⟩
    · rw [if_neg c9] at h
      refine q_bipush ?_
      refine q_aload_n rfl ?_
      refine q_getI ob_93 rfl ?_
      refine q_isub ?_
      have h := Option.some.inj h
      subst h
      exact q_iretI mcap_0 rfl rfl
def bk_X12_gives_0 : List mI := [(.iload_n 1, 1, 0, 0, 0, []), (.istore 6, 2, 0, 0, 0, []), (.aload_n 0, 1, 0, 0, 0, []), (.getfield 7, 3, 12, 0, 937, []), (.sipush 142, 3, 0, 0, 0, [(142, 0)]), (.iload_n 1, 1, 0, 0, 0, []), (.iadd, 1, 0, 0, 0, []), (.iaload, 1, 0, 0, 0, []), (.ifCond .le 58, 3, 71, 0, 0, []), (.aload_n 0, 1, 0, 0, 0, []), (.getfield 22, 3, 12, 11, 948, []), (.iconst 0, 1, 0, 0, 0, [(0, 0)]), (.iload_n 2, 1, 0, 0, 0, []), (.iastore, 1, 0, 0, 0, []), (.aload_n 0, 1, 0, 0, 0, []), (.getfield 22, 3, 12, 11, 948, []), (.iconst 1, 1, 0, 0, 0, [(1, 0)]), (.iload_n 3, 1, 0, 0, 0, []), (.iastore, 1, 0, 0, 0, []), (.aload_n 0, 1, 0, 0, 0, []), (.getfield 22, 3, 12, 11, 948, []), (.iconst 2, 1, 0, 0, 0, [(2, 0)]), (.iload 4, 2, 0, 0, 0, []), (.iastore, 1, 0, 0, 0, []), (.aload_n 0, 1, 0, 0, 0, []), (.getfield 22, 3, 12, 11, 948, []), (.iconst 3, 1, 0, 0, 0, [(3, 0)]), (.iload 5, 2, 0, 0, 0, []), (.iastore, 1, 0, 0, 0, []), (.aload_n 0, 1, 0, 0, 0, []), (.sipush 164, 3, 0, 0, 0, [(164, 0)]), (.bipush 50, 2, 0, 0, 0, [(50, 0)]), (.iload_n 1, 1, 0, 0, 0, []), (.imul, 1, 0, 0, 0, []), (.iadd, 1, 0, 0, 0, []), (.aload_n 0, 1, 0, 0, 0, []), (.getfield 7, 3, 12, 0, 937, []), (.sipush 142, 3, 0, 0, 0, [(142, 0)]), (.iload_n 1, 1, 0, 0, 0, []), (.iadd, 1, 0, 0, 0, []), (.iaload, 1, 0, 0, 0, []), (.iload_n 1, 1, 0, 0, 0, []), (.invokevirtual 116, 3, 152, 0, 1020, []), (.istore 6, 2, 0, 0, 0, [])]
theorem ck_X12_gives_0 : mChk 155 0 bk_X12_gives_0 = true := by decide +kernel
def bk_X12_gives_71 : List mI := [(.iload_n 1, 1, 0, 0, 0, []), (.ifCond .ne 14, 3, 86, 0, 0, []), (.iload 6, 2, 0, 0, 0, []), (.iconst 0, 1, 0, 0, 0, [(0, 0)]), (.bipush 30, 2, 0, 0, 0, [(30, 0)]), (.invokestatic 120, 3, 136, 0, 1074, []), (.goto 5, 3, 88, 0, 0, [])]
theorem ck_X12_gives_71 : mChk 155 71 bk_X12_gives_71 = true := by decide +kernel
def bk_X12_gives_86 : List mI := [(.iload 6, 2, 0, 0, 0, [])]
theorem ck_X12_gives_86 : mChk 155 86 bk_X12_gives_86 = true := by decide +kernel
def bk_X12_gives_88 : List mI := [(.ireturn, 1, 0, 0, 0, [])]
theorem ck_X12_gives_88 : mChk 155 88 bk_X12_gives_88 = true := by decide +kernel
def c_X12_gives_71 (x1 : Int32) (x6 : Int32) (σ : Sg) : Option (Int32 × Sg) := (if x1 = 0 then ((f_X12_held x6 (0 : Int32) (30 : Int32) σ).bind fun q2 => (some (q2, σ))) else (some (x6, σ)))
set_option maxHeartbeats 4000000 in
theorem okc_X12_gives_71 {L : Nat} {R : Int32 × Sg} {x1 : Int32} {x6 : Int32} {σ : Sg} {pl : mLoc} (h : c_X12_gives_71 x1 x6 σ = some R) (hl : mlf [none, some (.int x1), none, none, none, none, some (.int x6)] pl) : mAt 68 155 (some (.int R.1), (mSh, L, R.2)) 71 pl [] (mSh, L, σ) 0 0 := by
  refine mAt.less hl ?_
  unfold c_X12_gives_71 at h
  refine mAt.blk bk_X12_gives_71 ck_X12_gives_71 ?_
  refine q_iload_n rfl ?_
  refine q_if_ne (fun c1 => ?_) (fun c1 => ?_)
  · rw [if_pos c1] at h
    refine q_iload rfl ?_
    refine q_iconst ?_
    refine q_bipush ?_
    obtain ⟨q2, e2, h⟩ := mbind h
    refine q_sI3 mcap_0 rfl rfl rfl rfl (by decide) (ok_X12_held  e2) ?_
    refine q_goto ?_
    refine mAt.blk bk_X12_gives_88 ck_X12_gives_88 ?_
    have h := Option.some.inj h
    subst h
    exact q_iretI mcap_0 rfl rfl
  · rw [if_neg c1] at h
    refine mAt.blk bk_X12_gives_86 ck_X12_gives_86 ?_
    refine q_iload rfl ?_
    refine mAt.blk bk_X12_gives_88 ck_X12_gives_88 ?_
    have h := Option.some.inj h
    subst h
    exact q_iretI mcap_0 rfl rfl
def f_X12_gives (p0 : Int32) (p1 : Int32) (p2 : Int32) (p3 : Int32) (p4 : Int32) (σ : Sg) : Option (Int32 × Sg) := (if ((142 : Int32) + p0) < 0 ∨ 320 ≤ (((142 : Int32) + p0)).toNatClampNeg then none else (if (σ 94 (((142 : Int32) + p0)).toNatClampNeg) ≤ 0 then (c_X12_gives_71   p0 p0 σ) else (if ((142 : Int32) + p0) < 0 ∨ 320 ≤ (((142 : Int32) + p0)).toNatClampNeg then none else ((f_X12_worked ((164 : Int32) + ((50 : Int32) * p0)) ((mup (mup (mup (mup σ 98 0 p1) 98 1 p2) 98 2 p3) 98 3 p4) 94 (((142 : Int32) + p0)).toNatClampNeg) p0 (mup (mup (mup (mup σ 98 0 p1) 98 1 p2) 98 2 p3) 98 3 p4)).bind fun q10 => (c_X12_gives_71   p0 q10.1 q10.2)))))
set_option maxHeartbeats 4000000 in
theorem ok_X12_gives {L : Nat} {p0 : Int32} {p1 : Int32} {p2 : Int32} {p3 : Int32} {p4 : Int32} {σ : Sg} {R : Int32 × Sg} (h : f_X12_gives p0 p1 p2 p3 p4 σ = some R) : mEv 68 155 [.ref 93, .int p0, .int p1, .int p2, .int p3, .int p4] (mSh, L, σ) (some (.int R.1)) (mSh, L, R.2) := by
  refine mEv.of (by decide) rfl rfl ?_
  unfold f_X12_gives at h
  refine mAt.blk bk_X12_gives_0 ck_X12_gives_0 ?_
  refine q_iload_n rfl ?_
  refine q_istore rfl rfl ?_
  refine q_aload_n rfl ?_
  refine q_getR ob_93 rfl rfl ?_
  refine q_sipush ?_
  refine q_iload_n rfl ?_
  refine q_iadd ?_
  obtain ⟨c3, h⟩ := mnone h
  refine q_iald (mrd ar_94 _ _) rfl c3 ?_
  refine q_if_le (fun c4 => ?_) (fun c4 => ?_)
  · rw [if_pos c4] at h
    exact okc_X12_gives_71  h ⟨rfl, rfl, trivial⟩
  · rw [if_neg c4] at h
    refine q_aload_n rfl ?_
    refine q_getR ob_93 rfl rfl ?_
    refine q_iconst ?_
    refine q_iload_n rfl ?_
    refine q_iast (j := 0) (by decide) ar_98 (by decide) ?_
    refine q_aload_n rfl ?_
    refine q_getR ob_93 rfl rfl ?_
    refine q_iconst ?_
    refine q_iload_n rfl ?_
    refine q_iast (j := 1) (by decide) ar_98 (by decide) ?_
    refine q_aload_n rfl ?_
    refine q_getR ob_93 rfl rfl ?_
    refine q_iconst ?_
    refine q_iload rfl ?_
    refine q_iast (j := 2) (by decide) ar_98 (by decide) ?_
    refine q_aload_n rfl ?_
    refine q_getR ob_93 rfl rfl ?_
    refine q_iconst ?_
    refine q_iload rfl ?_
    refine q_iast (j := 3) (by decide) ar_98 (by decide) ?_
    refine q_aload_n rfl ?_
    refine q_sipush ?_
    refine q_bipush ?_
    refine q_iload_n rfl ?_
    refine q_imul ?_
    refine q_iadd ?_
    refine q_aload_n rfl ?_
    refine q_getR ob_93 rfl rfl ?_
    refine q_sipush ?_
    refine q_iload_n rfl ?_
    refine q_iadd ?_
    obtain ⟨c9, h⟩ := mnone h
    refine q_iald (mrd ar_94 _ _) rfl c9 ?_
    refine q_iload_n rfl ?_
    obtain ⟨q10, e10, h⟩ := mbind h
    refine q_vI3 mcap_0 rfl rfl ob_93 rfl (by decide) (ok_X12_worked  e10) ?_
    refine q_istore rfl rfl ?_
    exact okc_X12_gives_71  h ⟨rfl, rfl, trivial⟩
def bk_X12_law_0 : List mI := [(.iload_n 1, 1, 0, 0, 0, []), (.i2l, 1, 0, 0, 0, []), (.lconst 0, 1, 0, 0, 0, [(0, 0)]), (.lconst 1, 1, 0, 0, 0, [(1, 0)]), (.invokestatic 48, 3, 135, 0, 1007, []), (.ifCond .eq 17, 3, 24, 0, 0, []), (.aload_n 0, 1, 0, 0, 0, []), (.iload_n 1, 1, 0, 0, 0, []), (.iload_n 2, 1, 0, 0, 0, []), (.iload_n 3, 1, 0, 0, 0, []), (.iload 4, 2, 0, 0, 0, []), (.iload 5, 2, 0, 0, 0, []), (.invokevirtual 123, 3, 155, 0, 1070, []), (.goto 8, 3, 29, 0, 0, [])]
theorem ck_X12_law_0 : mChk 156 0 bk_X12_law_0 = true := by decide +kernel
def bk_X12_law_24 : List mI := [(.aload_n 0, 1, 0, 0, 0, []), (.iconst 1, 1, 0, 0, 0, [(1, 0)]), (.invokevirtual 111, 3, 134, 0, 1010, [])]
theorem ck_X12_law_24 : mChk 156 24 bk_X12_law_24 = true := by decide +kernel
def bk_X12_law_29 : List mI := [(.ireturn, 1, 0, 0, 0, [])]
theorem ck_X12_law_29 : mChk 156 29 bk_X12_law_29 = true := by decide +kernel
def f_X12_law (p0 : Int32) (p1 : Int32) (p2 : Int32) (p3 : Int32) (p4 : Int32) (σ : Sg) : Option (Int32 × Sg) := ((f_X12_isIn (p0).toInt64 (0 : Int32).toInt64 (1 : Int32).toInt64 σ).bind fun q1 => (if q1 = 0 then ((f_X12_finds (1 : Int32) σ).bind fun q3 => (some (q3.1, q3.2))) else ((f_X12_gives p0 p1 p2 p3 p4 σ).bind fun q4 => (some (q4.1, q4.2)))))
set_option maxHeartbeats 4000000 in
theorem ok_X12_law {L : Nat} {p0 : Int32} {p1 : Int32} {p2 : Int32} {p3 : Int32} {p4 : Int32} {σ : Sg} {R : Int32 × Sg} (h : f_X12_law p0 p1 p2 p3 p4 σ = some R) : mEv 69 156 [.ref 93, .int p0, .int p1, .int p2, .int p3, .int p4] (mSh, L, σ) (some (.int R.1)) (mSh, L, R.2) := by
  refine mEv.of (by decide) rfl rfl ?_
  unfold f_X12_law at h
  refine mAt.blk bk_X12_law_0 ck_X12_law_0 ?_
  refine q_iload_n rfl ?_
  refine q_i2l ?_
  refine q_lconst ?_
  refine q_lconst ?_
  obtain ⟨q1, e1, h⟩ := mbind h
  refine q_sI3 mcap_0 rfl rfl rfl rfl (by decide) (ok_X12_isIn  e1) ?_
  refine q_if_eq (fun c2 => ?_) (fun c2 => ?_)
  · rw [if_pos c2] at h
    refine mAt.blk bk_X12_law_24 ck_X12_law_24 ?_
    refine q_aload_n rfl ?_
    refine q_iconst ?_
    obtain ⟨q3, e3, h⟩ := mbind h
    refine q_vI1 mcap_0 rfl rfl ob_93 rfl (by decide) (ok_X12_finds  e3) ?_
    refine mAt.blk bk_X12_law_29 ck_X12_law_29 ?_
    have h := Option.some.inj h
    subst h
    exact q_iretI mcap_0 rfl rfl
  · rw [if_neg c2] at h
    refine q_aload_n rfl ?_
    refine q_iload_n rfl ?_
    refine q_iload_n rfl ?_
    refine q_iload_n rfl ?_
    refine q_iload rfl ?_
    refine q_iload rfl ?_
    obtain ⟨q4, e4, h⟩ := mbind h
    refine q_vI5 mcap_0 rfl rfl ob_93 rfl (by decide) (ok_X12_gives  e4) ?_
    refine q_goto ?_
    refine mAt.blk bk_X12_law_29 ck_X12_law_29 ?_
    have h := Option.some.inj h
    subst h
    exact q_iretI mcap_0 rfl rfl
def bk_X12_well_0 : List mI := [(.aload_n 0, 1, 0, 0, 0, []), (.getfield 7, 3, 12, 0, 937, []), (.iconst 1, 1, 0, 0, 0, [(1, 0)]), (.iaload, 1, 0, 0, 0, []), (.bipush 9, 2, 0, 0, 0, [(9, 0)]), (.if_icmp .ne 9, 3, 17, 0, 0, []), (.aload_n 0, 1, 0, 0, 0, []), (.iconst 4, 1, 0, 0, 0, [(4, 0)]), (.invokevirtual 111, 3, 134, 0, 1010, []), (.ireturn, 1, 0, 0, 0, [])]
theorem ck_X12_well_0 : mChk 157 0 bk_X12_well_0 = true := by decide +kernel
def bk_X12_well_17 : List mI := [(.bipush 10, 2, 0, 0, 0, [(10, 0)]), (.iconst 4, 1, 0, 0, 0, [(4, 0)]), (.aload_n 0, 1, 0, 0, 0, []), (.getfield 7, 3, 12, 0, 937, []), (.iconst 1, 1, 0, 0, 0, [(1, 0)]), (.iaload, 1, 0, 0, 0, []), (.imul, 1, 0, 0, 0, []), (.iadd, 1, 0, 0, 0, []), (.istore_n 1, 1, 0, 0, 0, []), (.aload_n 0, 1, 0, 0, 0, []), (.getfield 7, 3, 12, 0, 937, []), (.iload_n 1, 1, 0, 0, 0, []), (.iconst 0, 1, 0, 0, 0, [(0, 0)]), (.iadd, 1, 0, 0, 0, []), (.iconst (-1), 1, 0, 0, 0, [((-1), 0)]), (.iastore, 1, 0, 0, 0, []), (.aload_n 0, 1, 0, 0, 0, []), (.getfield 7, 3, 12, 0, 937, []), (.iload_n 1, 1, 0, 0, 0, []), (.iconst 1, 1, 0, 0, 0, [(1, 0)]), (.iadd, 1, 0, 0, 0, []), (.iconst 1, 1, 0, 0, 0, [(1, 0)]), (.iastore, 1, 0, 0, 0, []), (.aload_n 0, 1, 0, 0, 0, []), (.getfield 7, 3, 12, 0, 937, []), (.iload_n 1, 1, 0, 0, 0, []), (.iconst 2, 1, 0, 0, 0, [(2, 0)]), (.iadd, 1, 0, 0, 0, []), (.iconst 0, 1, 0, 0, 0, [(0, 0)]), (.iastore, 1, 0, 0, 0, []), (.aload_n 0, 1, 0, 0, 0, []), (.getfield 7, 3, 12, 0, 937, []), (.iload_n 1, 1, 0, 0, 0, []), (.iconst 3, 1, 0, 0, 0, [(3, 0)]), (.iadd, 1, 0, 0, 0, []), (.iconst 0, 1, 0, 0, 0, [(0, 0)]), (.iastore, 1, 0, 0, 0, []), (.aload_n 0, 1, 0, 0, 0, []), (.getfield 7, 3, 12, 0, 937, []), (.iconst 1, 1, 0, 0, 0, [(1, 0)]), (.dup2, 1, 0, 0, 0, []), (.iaload, 1, 0, 0, 0, []), (.iconst 1, 1, 0, 0, 0, [(1, 0)]), (.iadd, 1, 0, 0, 0, []), (.iastore, 1, 0, 0, 0, []), (.aload_n 0, 1, 0, 0, 0, []), (.getfield 7, 3, 12, 0, 937, []), (.iconst 1, 1, 0, 0, 0, [(1, 0)]), (.iaload, 1, 0, 0, 0, []), (.iconst 1, 1, 0, 0, 0, [(1, 0)]), (.isub, 1, 0, 0, 0, []), (.ireturn, 1, 0, 0, 0, [])]
theorem ck_X12_well_17 : mChk 157 17 bk_X12_well_17 = true := by decide +kernel
def f_X12_well (σ : Sg) : Option (Int32 × Sg) := (if (σ 94 1) = (9 : Int32) then ((f_X12_finds (4 : Int32) σ).bind fun q11 => (some (q11.1, q11.2))) else (if (((10 : Int32) + ((4 : Int32) * (σ 94 1))) + (0 : Int32)) < 0 ∨ 320 ≤ ((((10 : Int32) + ((4 : Int32) * (σ 94 1))) + (0 : Int32))).toNatClampNeg then none else (if (((10 : Int32) + ((4 : Int32) * (σ 94 1))) + (1 : Int32)) < 0 ∨ 320 ≤ ((((10 : Int32) + ((4 : Int32) * (σ 94 1))) + (1 : Int32))).toNatClampNeg then none else (if (((10 : Int32) + ((4 : Int32) * (σ 94 1))) + (2 : Int32)) < 0 ∨ 320 ≤ ((((10 : Int32) + ((4 : Int32) * (σ 94 1))) + (2 : Int32))).toNatClampNeg then none else (if (((10 : Int32) + ((4 : Int32) * (σ 94 1))) + (3 : Int32)) < 0 ∨ 320 ≤ ((((10 : Int32) + ((4 : Int32) * (σ 94 1))) + (3 : Int32))).toNatClampNeg then none else (some ((((mup (mup (mup (mup (mup σ 94 ((((10 : Int32) + ((4 : Int32) * (σ 94 1))) + (0 : Int32))).toNatClampNeg (-1 : Int32)) 94 ((((10 : Int32) + ((4 : Int32) * (σ 94 1))) + (1 : Int32))).toNatClampNeg (1 : Int32)) 94 ((((10 : Int32) + ((4 : Int32) * (σ 94 1))) + (2 : Int32))).toNatClampNeg (0 : Int32)) 94 ((((10 : Int32) + ((4 : Int32) * (σ 94 1))) + (3 : Int32))).toNatClampNeg (0 : Int32)) 94 1 (((mup (mup (mup (mup σ 94 ((((10 : Int32) + ((4 : Int32) * (σ 94 1))) + (0 : Int32))).toNatClampNeg (-1 : Int32)) 94 ((((10 : Int32) + ((4 : Int32) * (σ 94 1))) + (1 : Int32))).toNatClampNeg (1 : Int32)) 94 ((((10 : Int32) + ((4 : Int32) * (σ 94 1))) + (2 : Int32))).toNatClampNeg (0 : Int32)) 94 ((((10 : Int32) + ((4 : Int32) * (σ 94 1))) + (3 : Int32))).toNatClampNeg (0 : Int32)) 94 1) + (1 : Int32))) 94 1) - (1 : Int32)), (mup (mup (mup (mup (mup σ 94 ((((10 : Int32) + ((4 : Int32) * (σ 94 1))) + (0 : Int32))).toNatClampNeg (-1 : Int32)) 94 ((((10 : Int32) + ((4 : Int32) * (σ 94 1))) + (1 : Int32))).toNatClampNeg (1 : Int32)) 94 ((((10 : Int32) + ((4 : Int32) * (σ 94 1))) + (2 : Int32))).toNatClampNeg (0 : Int32)) 94 ((((10 : Int32) + ((4 : Int32) * (σ 94 1))) + (3 : Int32))).toNatClampNeg (0 : Int32)) 94 1 (((mup (mup (mup (mup σ 94 ((((10 : Int32) + ((4 : Int32) * (σ 94 1))) + (0 : Int32))).toNatClampNeg (-1 : Int32)) 94 ((((10 : Int32) + ((4 : Int32) * (σ 94 1))) + (1 : Int32))).toNatClampNeg (1 : Int32)) 94 ((((10 : Int32) + ((4 : Int32) * (σ 94 1))) + (2 : Int32))).toNatClampNeg (0 : Int32)) 94 ((((10 : Int32) + ((4 : Int32) * (σ 94 1))) + (3 : Int32))).toNatClampNeg (0 : Int32)) 94 1) + (1 : Int32))))))))))
set_option maxHeartbeats 4000000 in
theorem ok_X12_well {L : Nat} {σ : Sg} {R : Int32 × Sg} (h : f_X12_well σ = some R) : mEv 1 157 [.ref 93] (mSh, L, σ) (some (.int R.1)) (mSh, L, R.2) := by
  refine mEv.of (by decide) rfl rfl ?_
  unfold f_X12_well at h
  refine mAt.blk bk_X12_well_0 ck_X12_well_0 ?_
  refine q_aload_n rfl ?_
  refine q_getR ob_93 rfl rfl ?_
  refine q_iconst ?_
  refine q_iald (j := 1) (mrd ar_94 _ _) (by decide) (by decide) ?_
  refine q_bipush ?_
  refine q_ic_ne (fun c2 => ?_) (fun c2 => ?_)
  · rw [if_pos c2] at h
    refine q_aload_n rfl ?_
    refine q_iconst ?_
    obtain ⟨q11, e11, h⟩ := mbind h
    refine q_vI1 mcap_0 rfl rfl ob_93 rfl (by decide) (ok_X12_finds  e11) ?_
    have h := Option.some.inj h
    subst h
    exact q_iretI mcap_0 rfl rfl
  · rw [if_neg c2] at h
    refine mAt.blk bk_X12_well_17 ck_X12_well_17 ?_
    refine q_bipush ?_
    refine q_iconst ?_
    refine q_aload_n rfl ?_
    refine q_getR ob_93 rfl rfl ?_
    refine q_iconst ?_
    refine q_iald (j := 1) (mrd ar_94 _ _) (by decide) (by decide) ?_
    refine q_imul ?_
    refine q_iadd ?_
    refine q_istore_n rfl rfl ?_
    refine q_aload_n rfl ?_
    refine q_getR ob_93 rfl rfl ?_
    refine q_iload_n rfl ?_
    refine q_iconst ?_
    refine q_iadd ?_
    refine q_iconst ?_
    obtain ⟨c4, h⟩ := mnone h
    refine q_iast rfl ar_94 c4 ?_
    refine q_aload_n rfl ?_
    refine q_getR ob_93 rfl rfl ?_
    refine q_iload_n rfl ?_
    refine q_iconst ?_
    refine q_iadd ?_
    refine q_iconst ?_
    obtain ⟨c5, h⟩ := mnone h
    refine q_iast rfl ar_94 c5 ?_
    refine q_aload_n rfl ?_
    refine q_getR ob_93 rfl rfl ?_
    refine q_iload_n rfl ?_
    refine q_iconst ?_
    refine q_iadd ?_
    refine q_iconst ?_
    obtain ⟨c6, h⟩ := mnone h
    refine q_iast rfl ar_94 c6 ?_
    refine q_aload_n rfl ?_
    refine q_getR ob_93 rfl rfl ?_
    refine q_iload_n rfl ?_
    refine q_iconst ?_
    refine q_iadd ?_
    refine q_iconst ?_
    obtain ⟨c7, h⟩ := mnone h
    refine q_iast rfl ar_94 c7 ?_
    refine q_aload_n rfl ?_
    refine q_getR ob_93 rfl rfl ?_
    refine q_iconst ?_
    refine q_dup2 ?_
    refine q_iald (j := 1) (mrd ar_94 _ _) (by decide) (by decide) ?_
    refine q_iconst ?_
    refine q_iadd ?_
    refine q_iast (j := 1) (by decide) ar_94 (by decide) ?_
    refine q_aload_n rfl ?_
    refine q_getR ob_93 rfl rfl ?_
    refine q_iconst ?_
    refine q_iald (j := 1) (mrd ar_94 _ _) (by decide) (by decide) ?_
    refine q_iconst ?_
    refine q_isub ?_
    have h := Option.some.inj h
    subst h
    exact q_iretI mcap_0 rfl rfl
def bk_X12_mayGo_0 : List mI := [(.iload_n 1, 1, 0, 0, 0, []), (.i2l, 1, 0, 0, 0, []), (.ldc2_w 127, 3, 0, 0, 1093, [((-1), 0)]), (.aload_n 0, 1, 0, 0, 0, []), (.getfield 7, 3, 12, 0, 937, []), (.iconst 1, 1, 0, 0, 0, [(1, 0)]), (.iaload, 1, 0, 0, 0, []), (.iconst 1, 1, 0, 0, 0, [(1, 0)]), (.isub, 1, 0, 0, 0, []), (.i2l, 1, 0, 0, 0, []), (.invokestatic 48, 3, 135, 0, 1007, []), (.ifCond .eq 19, 3, 36, 0, 0, []), (.iload_n 2, 1, 0, 0, 0, []), (.i2l, 1, 0, 0, 0, []), (.lconst 1, 1, 0, 0, 0, [(1, 0)]), (.ldc2_w 129, 3, 0, 0, 1094, [(30, 0)]), (.invokestatic 48, 3, 135, 0, 1007, []), (.ifCond .eq 7, 3, 36, 0, 0, []), (.iconst 1, 1, 0, 0, 0, [(1, 0)]), (.goto 4, 3, 37, 0, 0, [])]
theorem ck_X12_mayGo_0 : mChk 158 0 bk_X12_mayGo_0 = true := by decide +kernel
def bk_X12_mayGo_36 : List mI := [(.iconst 0, 1, 0, 0, 0, [(0, 0)])]
theorem ck_X12_mayGo_36 : mChk 158 36 bk_X12_mayGo_36 = true := by decide +kernel
def bk_X12_mayGo_37 : List mI := [(.ireturn, 1, 0, 0, 0, [])]
theorem ck_X12_mayGo_37 : mChk 158 37 bk_X12_mayGo_37 = true := by decide +kernel
def f_X12_mayGo (p0 : Int32) (p1 : Int32) (σ : Sg) : Option (Int32) := ((f_X12_isIn (p0).toInt64 (-1 : Int32).toInt64 (((σ 94 1) - (1 : Int32))).toInt64 σ).bind fun q2 => (if q2 = 0 then (some (0 : Int32)) else ((f_X12_isIn (p1).toInt64 (1 : Int32).toInt64 (30 : Int32).toInt64 σ).bind fun q4 => (if q4 = 0 then (some (0 : Int32)) else (some (1 : Int32))))))
set_option maxHeartbeats 4000000 in
theorem ok_X12_mayGo {L : Nat} {p0 : Int32} {p1 : Int32} {σ : Sg} {R : Int32} (h : f_X12_mayGo p0 p1 σ = some R) : mEv 1 158 [.ref 93, .int p0, .int p1] (mSh, L, σ) (some (.int R)) (mSh, L, σ) := by
  refine mEv.of (by decide) rfl rfl ?_
  unfold f_X12_mayGo at h
  refine mAt.blk bk_X12_mayGo_0 ck_X12_mayGo_0 ?_
  refine q_iload_n rfl ?_
  refine q_i2l ?_
  refine q_ldc2_w ?_
  refine q_aload_n rfl ?_
  refine q_getR ob_93 rfl rfl ?_
  refine q_iconst ?_
  refine q_iald (j := 1) (mrd ar_94 _ _) (by decide) (by decide) ?_
  refine q_iconst ?_
  refine q_isub ?_
  refine q_i2l ?_
  obtain ⟨q2, e2, h⟩ := mbind h
  refine q_sI3 mcap_0 rfl rfl rfl rfl (by decide) (ok_X12_isIn  e2) ?_
  refine q_if_eq (fun c3 => ?_) (fun c3 => ?_)
  · rw [if_pos c3] at h
    refine mAt.blk bk_X12_mayGo_36 ck_X12_mayGo_36 ?_
    refine q_iconst ?_
    refine mAt.blk bk_X12_mayGo_37 ck_X12_mayGo_37 ?_
    have h := Option.some.inj h
    subst h
    exact q_iretZ mcap_0 rfl (by decide) rfl
  · rw [if_neg c3] at h
    refine q_iload_n rfl ?_
    refine q_i2l ?_
    refine q_lconst ?_
    refine q_ldc2_w ?_
    obtain ⟨q4, e4, h⟩ := mbind h
    refine q_sI3 mcap_0 rfl rfl rfl rfl (by decide) (ok_X12_isIn  e4) ?_
    refine q_if_eq (fun c5 => ?_) (fun c5 => ?_)
    · rw [if_pos c5] at h
      refine mAt.blk bk_X12_mayGo_36 ck_X12_mayGo_36 ?_
      refine q_iconst ?_
      refine mAt.blk bk_X12_mayGo_37 ck_X12_mayGo_37 ?_
      have h := Option.some.inj h
      subst h
      exact q_iretZ mcap_0 rfl (by decide) rfl
    · rw [if_neg c5] at h
      refine q_iconst ?_
      refine q_goto ?_
      refine mAt.blk bk_X12_mayGo_37 ck_X12_mayGo_37 ?_
      have h := Option.some.inj h
      subst h
      exact q_iretZ mcap_0 rfl (by decide) rfl
def bk_X12_leads_0 : List mI := [(.aload_n 0, 1, 0, 0, 0, []), (.getfield 7, 3, 12, 0, 937, []), (.bipush 10, 2, 0, 0, 0, [(10, 0)]), (.iconst 4, 1, 0, 0, 0, [(4, 0)]), (.iload_n 1, 1, 0, 0, 0, []), (.imul, 1, 0, 0, 0, []), (.iadd, 1, 0, 0, 0, []), (.iconst 0, 1, 0, 0, 0, [(0, 0)]), (.iadd, 1, 0, 0, 0, []), (.iload_n 2, 1, 0, 0, 0, []), (.iastore, 1, 0, 0, 0, []), (.aload_n 0, 1, 0, 0, 0, []), (.getfield 7, 3, 12, 0, 937, []), (.bipush 10, 2, 0, 0, 0, [(10, 0)]), (.iconst 4, 1, 0, 0, 0, [(4, 0)]), (.iload_n 1, 1, 0, 0, 0, []), (.imul, 1, 0, 0, 0, []), (.iadd, 1, 0, 0, 0, []), (.iconst 1, 1, 0, 0, 0, [(1, 0)]), (.iadd, 1, 0, 0, 0, []), (.iload_n 3, 1, 0, 0, 0, []), (.iastore, 1, 0, 0, 0, []), (.return_, 1, 0, 0, 0, [])]
theorem ck_X12_leads_0 : mChk 159 0 bk_X12_leads_0 = true := by decide +kernel
def f_X12_leads (p0 : Int32) (p1 : Int32) (p2 : Int32) (σ : Sg) : Option (Sg) := (if (((10 : Int32) + ((4 : Int32) * p0)) + (0 : Int32)) < 0 ∨ 320 ≤ ((((10 : Int32) + ((4 : Int32) * p0)) + (0 : Int32))).toNatClampNeg then none else (if (((10 : Int32) + ((4 : Int32) * p0)) + (1 : Int32)) < 0 ∨ 320 ≤ ((((10 : Int32) + ((4 : Int32) * p0)) + (1 : Int32))).toNatClampNeg then none else (some (mup (mup σ 94 ((((10 : Int32) + ((4 : Int32) * p0)) + (0 : Int32))).toNatClampNeg p1) 94 ((((10 : Int32) + ((4 : Int32) * p0)) + (1 : Int32))).toNatClampNeg p2))))
set_option maxHeartbeats 4000000 in
theorem ok_X12_leads {L : Nat} {p0 : Int32} {p1 : Int32} {p2 : Int32} {σ : Sg} {R : Sg} (h : f_X12_leads p0 p1 p2 σ = some R) : mEv 0 159 [.ref 93, .int p0, .int p1, .int p2] (mSh, L, σ) none (mSh, L, R) := by
  refine mEv.of (by decide) rfl rfl ?_
  unfold f_X12_leads at h
  refine mAt.blk bk_X12_leads_0 ck_X12_leads_0 ?_
  refine q_aload_n rfl ?_
  refine q_getR ob_93 rfl rfl ?_
  refine q_bipush ?_
  refine q_iconst ?_
  refine q_iload_n rfl ?_
  refine q_imul ?_
  refine q_iadd ?_
  refine q_iconst ?_
  refine q_iadd ?_
  refine q_iload_n rfl ?_
  obtain ⟨c1, h⟩ := mnone h
  refine q_iast rfl ar_94 c1 ?_
  refine q_aload_n rfl ?_
  refine q_getR ob_93 rfl rfl ?_
  refine q_bipush ?_
  refine q_iconst ?_
  refine q_iload_n rfl ?_
  refine q_imul ?_
  refine q_iadd ?_
  refine q_iconst ?_
  refine q_iadd ?_
  refine q_iload_n rfl ?_
  obtain ⟨c2, h⟩ := mnone h
  refine q_iast rfl ar_94 c2 ?_
  have h := Option.some.inj h
  subst h
  exact q_vret mcap_0 rfl rfl
def bk_X12_itsWell_0 : List mI := [(.aload_n 0, 1, 0, 0, 0, []), (.getfield 7, 3, 12, 0, 937, []), (.bipush 10, 2, 0, 0, 0, [(10, 0)]), (.iconst 4, 1, 0, 0, 0, [(4, 0)]), (.iload_n 1, 1, 0, 0, 0, []), (.imul, 1, 0, 0, 0, []), (.iadd, 1, 0, 0, 0, []), (.iload_n 2, 1, 0, 0, 0, []), (.iadd, 1, 0, 0, 0, []), (.iaload, 1, 0, 0, 0, []), (.ireturn, 1, 0, 0, 0, [])]
theorem ck_X12_itsWell_0 : mChk 193 0 bk_X12_itsWell_0 = true := by decide +kernel
def f_X12_itsWell (p0 : Int32) (p1 : Int32) (σ : Sg) : Option (Int32) := (if (((10 : Int32) + ((4 : Int32) * p0)) + p1) < 0 ∨ 320 ≤ ((((10 : Int32) + ((4 : Int32) * p0)) + p1)).toNatClampNeg then none else (some (σ 94 ((((10 : Int32) + ((4 : Int32) * p0)) + p1)).toNatClampNeg)))
set_option maxHeartbeats 4000000 in
theorem ok_X12_itsWell {L : Nat} {p0 : Int32} {p1 : Int32} {σ : Sg} {R : Int32} (h : f_X12_itsWell p0 p1 σ = some R) : mEv 0 193 [.ref 93, .int p0, .int p1] (mSh, L, σ) (some (.int R)) (mSh, L, σ) := by
  refine mEv.of (by decide) rfl rfl ?_
  unfold f_X12_itsWell at h
  refine mAt.blk bk_X12_itsWell_0 ck_X12_itsWell_0 ?_
  refine q_aload_n rfl ?_
  refine q_getR ob_93 rfl rfl ?_
  refine q_bipush ?_
  refine q_iconst ?_
  refine q_iload_n rfl ?_
  refine q_imul ?_
  refine q_iadd ?_
  refine q_iload_n rfl ?_
  refine q_iadd ?_
  obtain ⟨c1, h⟩ := mnone h
  refine q_iald (mrd ar_94 _ _) rfl c1 ?_
  have h := Option.some.inj h
  subst h
  exact q_iretI mcap_0 rfl rfl
def bk_X12_going_0 : List mI := [(.aload_n 0, 1, 0, 0, 0, []), (.iload_n 1, 1, 0, 0, 0, []), (.invokevirtual 131, 3, 138, 0, 1085, []), (.ifCond .eq 12, 3, 17, 0, 0, []), (.aload_n 0, 1, 0, 0, 0, []), (.iload_n 2, 1, 0, 0, 0, []), (.iload_n 3, 1, 0, 0, 0, []), (.invokevirtual 134, 3, 158, 0, 1089, []), (.ifCond .ne 9, 3, 23, 0, 0, [])]
theorem ck_X12_going_0 : mChk 160 0 bk_X12_going_0 = true := by decide +kernel
def bk_X12_going_17 : List mI := [(.aload_n 0, 1, 0, 0, 0, []), (.iconst 1, 1, 0, 0, 0, [(1, 0)]), (.invokevirtual 111, 3, 134, 0, 1010, []), (.ireturn, 1, 0, 0, 0, [])]
theorem ck_X12_going_17 : mChk 160 17 bk_X12_going_17 = true := by decide +kernel
def bk_X12_going_23 : List mI := [(.aload_n 0, 1, 0, 0, 0, []), (.iload_n 1, 1, 0, 0, 0, []), (.iconst 0, 1, 0, 0, 0, [(0, 0)]), (.invokevirtual 138, 3, 193, 0, 1095, []), (.istore 4, 2, 0, 0, 0, []), (.aload_n 0, 1, 0, 0, 0, []), (.iload_n 1, 1, 0, 0, 0, []), (.iload_n 2, 1, 0, 0, 0, []), (.iload_n 3, 1, 0, 0, 0, []), (.invokevirtual 142, 3, 159, 0, 1099, []), (.iload 4, 2, 0, 0, 0, []), (.ireturn, 1, 0, 0, 0, [])]
theorem ck_X12_going_23 : mChk 160 23 bk_X12_going_23 = true := by decide +kernel
def f_X12_going (p0 : Int32) (p1 : Int32) (p2 : Int32) (σ : Sg) : Option (Int32 × Sg) := ((f_X12_isWell p0 σ).bind fun q1 => (if q1 = 0 then ((f_X12_finds (1 : Int32) σ).bind fun q3 => (some (q3.1, q3.2))) else ((f_X12_mayGo p1 p2 σ).bind fun q4 => (if q4 = 0 then ((f_X12_finds (1 : Int32) σ).bind fun q8 => (some (q8.1, q8.2))) else ((f_X12_itsWell p0 (0 : Int32) σ).bind fun q6 => ((f_X12_leads p0 p1 p2 σ).bind fun q7 => (some (q6, q7))))))))
set_option maxHeartbeats 4000000 in
theorem ok_X12_going {L : Nat} {p0 : Int32} {p1 : Int32} {p2 : Int32} {σ : Sg} {R : Int32 × Sg} (h : f_X12_going p0 p1 p2 σ = some R) : mEv 2 160 [.ref 93, .int p0, .int p1, .int p2] (mSh, L, σ) (some (.int R.1)) (mSh, L, R.2) := by
  refine mEv.of (by decide) rfl rfl ?_
  unfold f_X12_going at h
  refine mAt.blk bk_X12_going_0 ck_X12_going_0 ?_
  refine q_aload_n rfl ?_
  refine q_iload_n rfl ?_
  obtain ⟨q1, e1, h⟩ := mbind h
  refine q_vI1 mcap_0 rfl rfl ob_93 rfl (by decide) (ok_X12_isWell  e1) ?_
  refine q_if_eq (fun c2 => ?_) (fun c2 => ?_)
  · rw [if_pos c2] at h
    refine mAt.blk bk_X12_going_17 ck_X12_going_17 ?_
    refine q_aload_n rfl ?_
    refine q_iconst ?_
    obtain ⟨q3, e3, h⟩ := mbind h
    refine q_vI1 mcap_0 rfl rfl ob_93 rfl (by decide) (ok_X12_finds  e3) ?_
    have h := Option.some.inj h
    subst h
    exact q_iretI mcap_0 rfl rfl
  · rw [if_neg c2] at h
    refine q_aload_n rfl ?_
    refine q_iload_n rfl ?_
    refine q_iload_n rfl ?_
    obtain ⟨q4, e4, h⟩ := mbind h
    refine q_vI2 mcap_0 rfl rfl ob_93 rfl (by decide) (ok_X12_mayGo  e4) ?_
    refine q_if_ne (fun c5 => ?_) (fun c5 => ?_)
    · rw [if_pos c5] at h
      refine mAt.blk bk_X12_going_17 ck_X12_going_17 ?_
      refine q_aload_n rfl ?_
      refine q_iconst ?_
      obtain ⟨q8, e8, h⟩ := mbind h
      refine q_vI1 mcap_0 rfl rfl ob_93 rfl (by decide) (ok_X12_finds  e8) ?_
      have h := Option.some.inj h
      subst h
      exact q_iretI mcap_0 rfl rfl
    · rw [if_neg c5] at h
      refine mAt.blk bk_X12_going_23 ck_X12_going_23 ?_
      refine q_aload_n rfl ?_
      refine q_iload_n rfl ?_
      refine q_iconst ?_
      obtain ⟨q6, e6, h⟩ := mbind h
      refine q_vI2 mcap_0 rfl rfl ob_93 rfl (by decide) (ok_X12_itsWell  e6) ?_
      refine q_istore rfl rfl ?_
      refine q_aload_n rfl ?_
      refine q_iload_n rfl ?_
      refine q_iload_n rfl ?_
      refine q_iload_n rfl ?_
      obtain ⟨q7, e7, h⟩ := mbind h
      refine q_vV3 mcap_0 rfl rfl ob_93 rfl (by decide) (ok_X12_leads  e7) ?_
      refine q_iload rfl ?_
      have h := Option.some.inj h
      subst h
      exact q_iretI mcap_0 rfl rfl
def bk_X12_set_0 : List mI := [(.aload_n 0, 1, 0, 0, 0, []), (.iload_n 1, 1, 0, 0, 0, []), (.invokevirtual 131, 3, 138, 0, 1085, []), (.ifCond .eq 33, 3, 38, 0, 0, []), (.iload_n 2, 1, 0, 0, 0, []), (.i2l, 1, 0, 0, 0, []), (.lconst 0, 1, 0, 0, 0, [(0, 0)]), (.lconst 1, 1, 0, 0, 0, [(1, 0)]), (.invokestatic 48, 3, 135, 0, 1007, []), (.ifCond .eq 23, 3, 38, 0, 0, []), (.iload_n 3, 1, 0, 0, 0, []), (.i2l, 1, 0, 0, 0, []), (.lconst 0, 1, 0, 0, 0, [(0, 0)]), (.iload_n 2, 1, 0, 0, 0, []), (.ifCond .ne 9, 3, 31, 0, 0, []), (.ldc2_w 146, 3, 0, 0, 1107, [(99, 0)]), (.goto 4, 3, 32, 0, 0, [])]
theorem ck_X12_set_0 : mChk 161 0 bk_X12_set_0 = true := by decide +kernel
def bk_X12_set_31 : List mI := [(.lconst 1, 1, 0, 0, 0, [(1, 0)])]
theorem ck_X12_set_31 : mChk 161 31 bk_X12_set_31 = true := by decide +kernel
def bk_X12_set_32 : List mI := [(.invokestatic 48, 3, 135, 0, 1007, []), (.ifCond .ne 9, 3, 44, 0, 0, [])]
theorem ck_X12_set_32 : mChk 161 32 bk_X12_set_32 = true := by decide +kernel
def bk_X12_set_38 : List mI := [(.aload_n 0, 1, 0, 0, 0, []), (.iconst 1, 1, 0, 0, 0, [(1, 0)]), (.invokevirtual 111, 3, 134, 0, 1010, []), (.ireturn, 1, 0, 0, 0, [])]
theorem ck_X12_set_38 : mChk 161 38 bk_X12_set_38 = true := by decide +kernel
def bk_X12_set_44 : List mI := [(.aload_n 0, 1, 0, 0, 0, []), (.iload_n 1, 1, 0, 0, 0, []), (.iconst 2, 1, 0, 0, 0, [(2, 0)]), (.iload_n 2, 1, 0, 0, 0, []), (.iadd, 1, 0, 0, 0, []), (.invokevirtual 138, 3, 193, 0, 1095, []), (.istore 4, 2, 0, 0, 0, []), (.aload_n 0, 1, 0, 0, 0, []), (.getfield 7, 3, 12, 0, 937, []), (.bipush 10, 2, 0, 0, 0, [(10, 0)]), (.iconst 4, 1, 0, 0, 0, [(4, 0)]), (.iload_n 1, 1, 0, 0, 0, []), (.imul, 1, 0, 0, 0, []), (.iadd, 1, 0, 0, 0, []), (.iconst 2, 1, 0, 0, 0, [(2, 0)]), (.iadd, 1, 0, 0, 0, []), (.iload_n 2, 1, 0, 0, 0, []), (.iadd, 1, 0, 0, 0, []), (.iload_n 3, 1, 0, 0, 0, []), (.iastore, 1, 0, 0, 0, []), (.iload 4, 2, 0, 0, 0, []), (.ireturn, 1, 0, 0, 0, [])]
theorem ck_X12_set_44 : mChk 161 44 bk_X12_set_44 = true := by decide +kernel
def c_X12_set_32 (x1 : Int32) (x2 : Int32) (x3 : Int32) (s0 : Int64) (s1 : Int64) (s2 : Int64) (σ : Sg) : Option (Int32 × Sg) := ((f_X12_isIn s0 s1 s2 σ).bind fun q1 => (if q1 = 0 then ((f_X12_finds (1 : Int32) σ).bind fun q5 => (some (q5.1, q5.2))) else ((f_X12_itsWell x1 ((2 : Int32) + x2) σ).bind fun q3 => (if ((((10 : Int32) + ((4 : Int32) * x1)) + (2 : Int32)) + x2) < 0 ∨ 320 ≤ (((((10 : Int32) + ((4 : Int32) * x1)) + (2 : Int32)) + x2)).toNatClampNeg then none else (some (q3, (mup σ 94 (((((10 : Int32) + ((4 : Int32) * x1)) + (2 : Int32)) + x2)).toNatClampNeg x3)))))))
set_option maxHeartbeats 4000000 in
theorem okc_X12_set_32 {L : Nat} {R : Int32 × Sg} {x1 : Int32} {x2 : Int32} {x3 : Int32} {s0 : Int64} {s1 : Int64} {s2 : Int64} {σ : Sg} {pl : mLoc} (h : c_X12_set_32 x1 x2 x3 s0 s1 s2 σ = some R) (hl : mlf [some (.ref 93), some (.int x1), some (.int x2), some (.int x3), none] pl) : mAt 2 161 (some (.int R.1), (mSh, L, R.2)) 32 pl [.long s2, .long s1, .long s0] (mSh, L, σ) 0 0 := by
  refine mAt.less hl ?_
  unfold c_X12_set_32 at h
  refine mAt.blk bk_X12_set_32 ck_X12_set_32 ?_
  obtain ⟨q1, e1, h⟩ := mbind h
  refine q_sI3 mcap_0 rfl rfl rfl rfl (by decide) (ok_X12_isIn  e1) ?_
  refine q_if_ne (fun c2 => ?_) (fun c2 => ?_)
  · rw [if_pos c2] at h
    refine mAt.blk bk_X12_set_38 ck_X12_set_38 ?_
    refine q_aload_n rfl ?_
    refine q_iconst ?_
    obtain ⟨q5, e5, h⟩ := mbind h
    refine q_vI1 mcap_0 rfl rfl ob_93 rfl (by decide) (ok_X12_finds  e5) ?_
    have h := Option.some.inj h
    subst h
    exact q_iretI mcap_0 rfl rfl
  · rw [if_neg c2] at h
    refine mAt.blk bk_X12_set_44 ck_X12_set_44 ?_
    refine q_aload_n rfl ?_
    refine q_iload_n rfl ?_
    refine q_iconst ?_
    refine q_iload_n rfl ?_
    refine q_iadd ?_
    obtain ⟨q3, e3, h⟩ := mbind h
    refine q_vI2 mcap_0 rfl rfl ob_93 rfl (by decide) (ok_X12_itsWell  e3) ?_
    refine q_istore rfl rfl ?_
    refine q_aload_n rfl ?_
    refine q_getR ob_93 rfl rfl ?_
    refine q_bipush ?_
    refine q_iconst ?_
    refine q_iload_n rfl ?_
    refine q_imul ?_
    refine q_iadd ?_
    refine q_iconst ?_
    refine q_iadd ?_
    refine q_iload_n rfl ?_
    refine q_iadd ?_
    refine q_iload_n rfl ?_
    obtain ⟨c4, h⟩ := mnone h
    refine q_iast rfl ar_94 c4 ?_
    refine q_iload rfl ?_
    have h := Option.some.inj h
    subst h
    exact q_iretI mcap_0 rfl rfl
def f_X12_set (p0 : Int32) (p1 : Int32) (p2 : Int32) (σ : Sg) : Option (Int32 × Sg) := ((f_X12_isWell p0 σ).bind fun q6 => (if q6 = 0 then ((f_X12_finds (1 : Int32) σ).bind fun q8 => (some (q8.1, q8.2))) else ((f_X12_isIn (p1).toInt64 (0 : Int32).toInt64 (1 : Int32).toInt64 σ).bind fun q9 => (if q9 = 0 then ((f_X12_finds (1 : Int32) σ).bind fun q11 => (some (q11.1, q11.2))) else (if p1 = 0 then (c_X12_set_32   p0 p1 p2 (p2).toInt64 (0 : Int32).toInt64 (99 : Int32).toInt64 σ) else (c_X12_set_32   p0 p1 p2 (p2).toInt64 (0 : Int32).toInt64 (1 : Int32).toInt64 σ))))))
set_option maxHeartbeats 4000000 in
theorem ok_X12_set {L : Nat} {p0 : Int32} {p1 : Int32} {p2 : Int32} {σ : Sg} {R : Int32 × Sg} (h : f_X12_set p0 p1 p2 σ = some R) : mEv 2 161 [.ref 93, .int p0, .int p1, .int p2] (mSh, L, σ) (some (.int R.1)) (mSh, L, R.2) := by
  refine mEv.of (by decide) rfl rfl ?_
  unfold f_X12_set at h
  refine mAt.blk bk_X12_set_0 ck_X12_set_0 ?_
  refine q_aload_n rfl ?_
  refine q_iload_n rfl ?_
  obtain ⟨q6, e6, h⟩ := mbind h
  refine q_vI1 mcap_0 rfl rfl ob_93 rfl (by decide) (ok_X12_isWell  e6) ?_
  refine q_if_eq (fun c7 => ?_) (fun c7 => ?_)
  · rw [if_pos c7] at h
    refine mAt.blk bk_X12_set_38 ck_X12_set_38 ?_
    refine q_aload_n rfl ?_
    refine q_iconst ?_
    obtain ⟨q8, e8, h⟩ := mbind h
    refine q_vI1 mcap_0 rfl rfl ob_93 rfl (by decide) (ok_X12_finds  e8) ?_
    have h := Option.some.inj h
    subst h
    exact q_iretI mcap_0 rfl rfl
  · rw [if_neg c7] at h
    refine q_iload_n rfl ?_
    refine q_i2l ?_
    refine q_lconst ?_
    refine q_lconst ?_
    obtain ⟨q9, e9, h⟩ := mbind h
    refine q_sI3 mcap_0 rfl rfl rfl rfl (by decide) (ok_X12_isIn  e9) ?_
    refine q_if_eq (fun c10 => ?_) (fun c10 => ?_)
    · rw [if_pos c10] at h
      refine mAt.blk bk_X12_set_38 ck_X12_set_38 ?_
      refine q_aload_n rfl ?_
      refine q_iconst ?_
      obtain ⟨q11, e11, h⟩ := mbind h
      refine q_vI1 mcap_0 rfl rfl ob_93 rfl (by decide) (ok_X12_finds  e11) ?_
      have h := Option.some.inj h
      subst h
      exact q_iretI mcap_0 rfl rfl
    · rw [if_neg c10] at h
      refine q_iload_n rfl ?_
      refine q_i2l ?_
      refine q_lconst ?_
      refine q_iload_n rfl ?_
      refine q_if_ne (fun c12 => ?_) (fun c12 => ?_)
      · rw [if_pos c12] at h
        refine q_ldc2_w ?_
        refine q_goto ?_
        exact okc_X12_set_32  h ⟨rfl, rfl, rfl, rfl, trivial⟩
      · rw [if_neg c12] at h
        refine mAt.blk bk_X12_set_31 ck_X12_set_31 ?_
        refine q_lconst ?_
        exact okc_X12_set_32  h ⟨rfl, rfl, rfl, rfl, trivial⟩
def bk_X12_thingsIn_0 : List mI := [(.iconst 0, 1, 0, 0, 0, [(0, 0)]), (.istore_n 3, 1, 0, 0, 0, []), (.iconst 0, 1, 0, 0, 0, [(0, 0)]), (.istore 4, 2, 0, 0, 0, [])]
theorem ck_X12_thingsIn_0 : mChk 162 0 bk_X12_thingsIn_0 = true := by decide +kernel
def bk_X12_thingsIn_5 : List mI := [(.iload 4, 2, 0, 0, 0, []), (.aload_n 0, 1, 0, 0, 0, []), (.iconst 2, 1, 0, 0, 0, [(2, 0)]), (.iaload, 1, 0, 0, 0, []), (.if_icmp .ge 42, 3, 52, 0, 0, []), (.iload_n 3, 1, 0, 0, 0, []), (.aload_n 0, 1, 0, 0, 0, []), (.iload 4, 2, 0, 0, 0, []), (.iconst 2, 1, 0, 0, 0, [(2, 0)]), (.invokestatic 148, 3, 141, 0, 1116, []), (.iload_n 1, 1, 0, 0, 0, []), (.if_icmp .ne 21, 3, 43, 0, 0, []), (.aload_n 0, 1, 0, 0, 0, []), (.iload 4, 2, 0, 0, 0, []), (.iconst 3, 1, 0, 0, 0, [(3, 0)]), (.invokestatic 148, 3, 141, 0, 1116, []), (.iload_n 2, 1, 0, 0, 0, []), (.if_icmp .ne 10, 3, 43, 0, 0, []), (.iconst 1, 1, 0, 0, 0, [(1, 0)]), (.iload 4, 2, 0, 0, 0, []), (.ishl, 1, 0, 0, 0, []), (.goto 4, 3, 44, 0, 0, [])]
theorem ck_X12_thingsIn_5 : mChk 162 5 bk_X12_thingsIn_5 = true := by decide +kernel
def bk_X12_thingsIn_43 : List mI := [(.iconst 0, 1, 0, 0, 0, [(0, 0)])]
theorem ck_X12_thingsIn_43 : mChk 162 43 bk_X12_thingsIn_43 = true := by decide +kernel
def bk_X12_thingsIn_44 : List mI := [(.ior, 1, 0, 0, 0, []), (.istore_n 3, 1, 0, 0, 0, []), (.iinc 4 1, 3, 0, 0, 0, [(1, 0)]), (.goto (-44), 3, 5, 0, 0, [])]
theorem ck_X12_thingsIn_44 : mChk 162 44 bk_X12_thingsIn_44 = true := by decide +kernel
def bk_X12_thingsIn_52 : List mI := [(.iload_n 3, 1, 0, 0, 0, []), (.ireturn, 1, 0, 0, 0, [])]
theorem ck_X12_thingsIn_52 : mChk 162 52 bk_X12_thingsIn_52 = true := by decide +kernel
def c_X12_thingsIn_44 (k5 : Int32 → Int32 → Int32 → Int32 → Option (Int32)) (r0 : Nat) (σ : Sg) (x1 : Int32) (x2 : Int32) (x4 : Int32) (s0 : Int32) (s1 : Int32) : Option (Int32) := (k5 x1 x2 (s0 ||| s1) (x4 + (1 : Int32)))
set_option maxHeartbeats 4000000 in
theorem okc_X12_thingsIn_44 {L : Nat} {k5 : Int32 → Int32 → Int32 → Int32 → Option (Int32)} {r0 : Nat} {σ : Sg} {R : Int32} (hr0 : mnth mSh r0 = some (1, 320, [])) (Hk5 : ∀ (x1 : Int32) (x2 : Int32) (x3 : Int32) (x4 : Int32) (pl : mLoc), k5 x1 x2 x3 x4 = some R → mlf [some (.ref r0), some (.int x1), some (.int x2), some (.int x3), some (.int x4)] pl → mAt 1 162 (some (.int R), (mSh, L, σ)) 5 pl [] (mSh, L, σ) 0 0) {x1 : Int32} {x2 : Int32} {x4 : Int32} {s0 : Int32} {s1 : Int32} {pl : mLoc} (h : c_X12_thingsIn_44 k5 r0 σ x1 x2 x4 s0 s1 = some R) (hl : mlf [some (.ref r0), some (.int x1), some (.int x2), none, some (.int x4)] pl) : mAt 1 162 (some (.int R), (mSh, L, σ)) 44 pl [.int s1, .int s0] (mSh, L, σ) 0 0 := by
  refine mAt.less hl ?_
  unfold c_X12_thingsIn_44 at h
  refine mAt.blk bk_X12_thingsIn_44 ck_X12_thingsIn_44 ?_
  refine q_ior ?_
  refine q_istore_n rfl rfl ?_
  refine q_iinc rfl rfl ?_
  refine q_goto ?_
  exact Hk5 _ _ _ _ _  h ⟨rfl, rfl, rfl, rfl, rfl, trivial⟩
def c_X12_thingsIn_43 (k5 : Int32 → Int32 → Int32 → Int32 → Option (Int32)) (r0 : Nat) (σ : Sg) (x1 : Int32) (x2 : Int32) (x4 : Int32) (s0 : Int32) : Option (Int32) := (c_X12_thingsIn_44 k5 r0 σ x1 x2 x4 s0 (0 : Int32))
set_option maxHeartbeats 4000000 in
theorem okc_X12_thingsIn_43 {L : Nat} {k5 : Int32 → Int32 → Int32 → Int32 → Option (Int32)} {r0 : Nat} {σ : Sg} {R : Int32} (hr0 : mnth mSh r0 = some (1, 320, [])) (Hk5 : ∀ (x1 : Int32) (x2 : Int32) (x3 : Int32) (x4 : Int32) (pl : mLoc), k5 x1 x2 x3 x4 = some R → mlf [some (.ref r0), some (.int x1), some (.int x2), some (.int x3), some (.int x4)] pl → mAt 1 162 (some (.int R), (mSh, L, σ)) 5 pl [] (mSh, L, σ) 0 0) {x1 : Int32} {x2 : Int32} {x4 : Int32} {s0 : Int32} {pl : mLoc} (h : c_X12_thingsIn_43 k5 r0 σ x1 x2 x4 s0 = some R) (hl : mlf [some (.ref r0), some (.int x1), some (.int x2), none, some (.int x4)] pl) : mAt 1 162 (some (.int R), (mSh, L, σ)) 43 pl [.int s0] (mSh, L, σ) 0 0 := by
  refine mAt.less hl ?_
  unfold c_X12_thingsIn_43 at h
  refine mAt.blk bk_X12_thingsIn_43 ck_X12_thingsIn_43 ?_
  refine q_iconst ?_
  exact okc_X12_thingsIn_44 hr0 Hk5 h ⟨rfl, rfl, rfl, rfl, trivial⟩
def c_X12_thingsIn_5 (r0 : Nat) (σ : Sg) : Nat → Int32 → Int32 → Int32 → Int32 → Option (Int32)
  | 0, _, _, _, _ => none
  | n + 1, x1, x2, x3, x4 => (if (σ r0 2) ≤ x4 then (some x3) else ((f_X12_aThing r0 x4 (2 : Int32) σ).bind fun q3 => (if q3 = x1 then ((f_X12_aThing r0 x4 (3 : Int32) σ).bind fun q5 => (if q5 = x2 then (c_X12_thingsIn_44 (c_X12_thingsIn_5 r0 σ n) r0 σ x1 x2 x4 x3 ((1 : Int32) <<< (x4 &&& 31))) else (c_X12_thingsIn_43 (c_X12_thingsIn_5 r0 σ n) r0 σ x1 x2 x4 x3))) else (c_X12_thingsIn_43 (c_X12_thingsIn_5 r0 σ n) r0 σ x1 x2 x4 x3))))
set_option maxHeartbeats 4000000 in
theorem okc_X12_thingsIn_5 {L : Nat} {r0 : Nat} {σ : Sg} {R : Int32} (hr0 : mnth mSh r0 = some (1, 320, [])) {n : Nat} {x1 : Int32} {x2 : Int32} {x3 : Int32} {x4 : Int32} {pl : mLoc} (h : c_X12_thingsIn_5 r0 σ n x1 x2 x3 x4 = some R) (hl : mlf [some (.ref r0), some (.int x1), some (.int x2), some (.int x3), some (.int x4)] pl) : mAt 1 162 (some (.int R), (mSh, L, σ)) 5 pl [] (mSh, L, σ) 0 0 := by
  induction n generalizing x1 x2 x3 x4 pl with
  | zero =>
    rw [c_X12_thingsIn_5.eq_1] at h
    cases h
  | succ n ih =>
    refine mAt.less hl ?_
    rw [c_X12_thingsIn_5.eq_2] at h
    refine mAt.blk bk_X12_thingsIn_5 ck_X12_thingsIn_5 ?_
    refine q_iload rfl ?_
    refine q_aload_n rfl ?_
    refine q_iconst ?_
    refine q_iald (j := 2) (mrd hr0 _ _) (by decide) (by decide) ?_
    refine q_ic_ge (fun c2 => ?_) (fun c2 => ?_)
    · rw [if_pos c2] at h
      refine mAt.blk bk_X12_thingsIn_52 ck_X12_thingsIn_52 ?_
      refine q_iload_n rfl ?_
      have h := Option.some.inj h
      subst h
      exact q_iretI mcap_0 rfl rfl
    · rw [if_neg c2] at h
      refine q_iload_n rfl ?_
      refine q_aload_n rfl ?_
      refine q_iload rfl ?_
      refine q_iconst ?_
      obtain ⟨q3, e3, h⟩ := mbind h
      refine q_sI3 mcap_0 rfl rfl rfl rfl (by decide) (ok_X12_aThing hr0 e3) ?_
      refine q_iload_n rfl ?_
      refine q_ic_ne (fun c4 => ?_) (fun c4 => ?_)
      · rw [if_pos c4] at h
        refine q_aload_n rfl ?_
        refine q_iload rfl ?_
        refine q_iconst ?_
        obtain ⟨q5, e5, h⟩ := mbind h
        refine q_sI3 mcap_0 rfl rfl rfl rfl (by decide) (ok_X12_aThing hr0 e5) ?_
        refine q_iload_n rfl ?_
        refine q_ic_ne (fun c6 => ?_) (fun c6 => ?_)
        · rw [if_pos c6] at h
          refine q_iconst ?_
          refine q_iload rfl ?_
          refine q_ishl ?_
          refine q_goto ?_
          exact okc_X12_thingsIn_44 hr0 (fun _ _ _ _ _ e hl => ih  e hl) h ⟨rfl, rfl, rfl, rfl, trivial⟩
        · rw [if_neg c6] at h
          exact okc_X12_thingsIn_43 hr0 (fun _ _ _ _ _ e hl => ih  e hl) h ⟨rfl, rfl, rfl, rfl, trivial⟩
      · rw [if_neg c4] at h
        exact okc_X12_thingsIn_43 hr0 (fun _ _ _ _ _ e hl => ih  e hl) h ⟨rfl, rfl, rfl, rfl, trivial⟩
def f_X12_thingsIn (r0 : Nat) (p1 : Int32) (p2 : Int32) (σ : Sg) : Option (Int32) := (c_X12_thingsIn_5  r0 σ 1000 p1 p2 (0 : Int32) (0 : Int32))
set_option maxHeartbeats 4000000 in
theorem ok_X12_thingsIn {L : Nat} {r0 : Nat} {p1 : Int32} {p2 : Int32} {σ : Sg} {R : Int32} (hr0 : mnth mSh r0 = some (1, 320, [])) (h : f_X12_thingsIn r0 p1 p2 σ = some R) : mEv 1 162 [.ref r0, .int p1, .int p2] (mSh, L, σ) (some (.int R)) (mSh, L, σ) := by
  refine mEv.of (by decide) rfl rfl ?_
  unfold f_X12_thingsIn at h
  refine mAt.blk bk_X12_thingsIn_0 ck_X12_thingsIn_0 ?_
  refine q_iconst ?_
  refine q_istore_n rfl rfl ?_
  refine q_iconst ?_
  refine q_istore rfl rfl ?_
  exact okc_X12_thingsIn_5 hr0 h ⟨rfl, rfl, rfl, rfl, rfl, trivial⟩
def bk_X12_ofWell_0 : List mI := [(.aload_n 0, 1, 0, 0, 0, []), (.iload_n 1, 1, 0, 0, 0, []), (.invokevirtual 131, 3, 138, 0, 1085, []), (.ifCond .eq 15, 3, 20, 0, 0, []), (.iload_n 2, 1, 0, 0, 0, []), (.i2l, 1, 0, 0, 0, []), (.lconst 0, 1, 0, 0, 0, [(0, 0)]), (.ldc2_w 152, 3, 0, 0, 1112, [(5, 0)]), (.invokestatic 48, 3, 135, 0, 1007, []), (.ifCond .ne 9, 3, 26, 0, 0, [])]
theorem ck_X12_ofWell_0 : mChk 163 0 bk_X12_ofWell_0 = true := by decide +kernel
def bk_X12_ofWell_20 : List mI := [(.aload_n 0, 1, 0, 0, 0, []), (.iconst 1, 1, 0, 0, 0, [(1, 0)]), (.invokevirtual 111, 3, 134, 0, 1010, []), (.ireturn, 1, 0, 0, 0, [])]
theorem ck_X12_ofWell_20 : mChk 163 20 bk_X12_ofWell_20 = true := by decide +kernel
def bk_X12_ofWell_26 : List mI := [(.iload_n 2, 1, 0, 0, 0, []), (.iconst 4, 1, 0, 0, 0, [(4, 0)]), (.if_icmp .ge 12, 3, 40, 0, 0, []), (.aload_n 0, 1, 0, 0, 0, []), (.iload_n 1, 1, 0, 0, 0, []), (.iload_n 2, 1, 0, 0, 0, []), (.invokevirtual 138, 3, 193, 0, 1095, []), (.goto 14, 3, 51, 0, 0, [])]
theorem ck_X12_ofWell_26 : mChk 163 26 bk_X12_ofWell_26 = true := by decide +kernel
def bk_X12_ofWell_40 : List mI := [(.aload_n 0, 1, 0, 0, 0, []), (.getfield 7, 3, 12, 0, 937, []), (.iload_n 2, 1, 0, 0, 0, []), (.iconst 4, 1, 0, 0, 0, [(4, 0)]), (.isub, 1, 0, 0, 0, []), (.iload_n 1, 1, 0, 0, 0, []), (.invokestatic 154, 3, 162, 0, 1113, [])]
theorem ck_X12_ofWell_40 : mChk 163 40 bk_X12_ofWell_40 = true := by decide +kernel
def bk_X12_ofWell_51 : List mI := [(.ireturn, 1, 0, 0, 0, [])]
theorem ck_X12_ofWell_51 : mChk 163 51 bk_X12_ofWell_51 = true := by decide +kernel
def f_X12_ofWell (p0 : Int32) (p1 : Int32) (σ : Sg) : Option (Int32 × Sg) := ((f_X12_isWell p0 σ).bind fun q1 => (if q1 = 0 then ((f_X12_finds (1 : Int32) σ).bind fun q3 => (some (q3.1, q3.2))) else ((f_X12_isIn (p1).toInt64 (0 : Int32).toInt64 (5 : Int32).toInt64 σ).bind fun q4 => (if q4 = 0 then ((f_X12_finds (1 : Int32) σ).bind fun q9 => (some (q9.1, q9.2))) else (if (4 : Int32) ≤ p1 then ((f_X12_thingsIn 94 (p1 - (4 : Int32)) p0 σ).bind fun q7 => (some (q7, σ))) else ((f_X12_itsWell p0 p1 σ).bind fun q8 => (some (q8, σ))))))))
set_option maxHeartbeats 4000000 in
theorem ok_X12_ofWell {L : Nat} {p0 : Int32} {p1 : Int32} {σ : Sg} {R : Int32 × Sg} (h : f_X12_ofWell p0 p1 σ = some R) : mEv 2 163 [.ref 93, .int p0, .int p1] (mSh, L, σ) (some (.int R.1)) (mSh, L, R.2) := by
  refine mEv.of (by decide) rfl rfl ?_
  unfold f_X12_ofWell at h
  refine mAt.blk bk_X12_ofWell_0 ck_X12_ofWell_0 ?_
  refine q_aload_n rfl ?_
  refine q_iload_n rfl ?_
  obtain ⟨q1, e1, h⟩ := mbind h
  refine q_vI1 mcap_0 rfl rfl ob_93 rfl (by decide) (ok_X12_isWell  e1) ?_
  refine q_if_eq (fun c2 => ?_) (fun c2 => ?_)
  · rw [if_pos c2] at h
    refine mAt.blk bk_X12_ofWell_20 ck_X12_ofWell_20 ?_
    refine q_aload_n rfl ?_
    refine q_iconst ?_
    obtain ⟨q3, e3, h⟩ := mbind h
    refine q_vI1 mcap_0 rfl rfl ob_93 rfl (by decide) (ok_X12_finds  e3) ?_
    have h := Option.some.inj h
    subst h
    exact q_iretI mcap_0 rfl rfl
  · rw [if_neg c2] at h
    refine q_iload_n rfl ?_
    refine q_i2l ?_
    refine q_lconst ?_
    refine q_ldc2_w ?_
    obtain ⟨q4, e4, h⟩ := mbind h
    refine q_sI3 mcap_0 rfl rfl rfl rfl (by decide) (ok_X12_isIn  e4) ?_
    refine q_if_ne (fun c5 => ?_) (fun c5 => ?_)
    · rw [if_pos c5] at h
      refine mAt.blk bk_X12_ofWell_20 ck_X12_ofWell_20 ?_
      refine q_aload_n rfl ?_
      refine q_iconst ?_
      obtain ⟨q9, e9, h⟩ := mbind h
      refine q_vI1 mcap_0 rfl rfl ob_93 rfl (by decide) (ok_X12_finds  e9) ?_
      have h := Option.some.inj h
      subst h
      exact q_iretI mcap_0 rfl rfl
    · rw [if_neg c5] at h
      refine mAt.blk bk_X12_ofWell_26 ck_X12_ofWell_26 ?_
      refine q_iload_n rfl ?_
      refine q_iconst ?_
      refine q_ic_ge (fun c6 => ?_) (fun c6 => ?_)
      · rw [if_pos c6] at h
        refine mAt.blk bk_X12_ofWell_40 ck_X12_ofWell_40 ?_
        refine q_aload_n rfl ?_
        refine q_getR ob_93 rfl rfl ?_
        refine q_iload_n rfl ?_
        refine q_iconst ?_
        refine q_isub ?_
        refine q_iload_n rfl ?_
        obtain ⟨q7, e7, h⟩ := mbind h
        refine q_sI3 mcap_0 rfl rfl rfl rfl (by decide) (ok_X12_thingsIn ar_94 e7) ?_
        refine mAt.blk bk_X12_ofWell_51 ck_X12_ofWell_51 ?_
        have h := Option.some.inj h
        subst h
        exact q_iretI mcap_0 rfl rfl
      · rw [if_neg c6] at h
        refine q_aload_n rfl ?_
        refine q_iload_n rfl ?_
        refine q_iload_n rfl ?_
        obtain ⟨q8, e8, h⟩ := mbind h
        refine q_vI2 mcap_0 rfl rfl ob_93 rfl (by decide) (ok_X12_itsWell  e8) ?_
        refine q_goto ?_
        refine mAt.blk bk_X12_ofWell_51 ck_X12_ofWell_51 ?_
        have h := Option.some.inj h
        subst h
        exact q_iretI mcap_0 rfl rfl
