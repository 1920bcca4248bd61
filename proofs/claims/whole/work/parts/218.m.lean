def bk_X12_image_0 : List mI := [(.aload_n 0, 1, 0, 0, 0, []), (.getfield 7, 3, 12, 0, 937, []), (.aload_n 0, 1, 0, 0, 0, []), (.getfield 16, 3, 12, 2, 939, []), (.invokestatic 221, 3, 137, 0, 1226, []), (.aload_n 0, 1, 0, 0, 0, []), (.dup, 1, 0, 0, 0, []), (.getfield 282, 3, 12, 3, 940, []), (.iconst 1, 1, 0, 0, 0, [(1, 0)]), (.iadd, 1, 0, 0, 0, []), (.putfield 282, 3, 12, 3, 940, []), (.aload_n 0, 1, 0, 0, 0, []), (.getfield 282, 3, 12, 3, 940, []), (.ireturn, 1, 0, 0, 0, [])]
theorem ck_X12_image_0 : mChk 221 0 bk_X12_image_0 = true := by decide +kernel
def f_X12_image (σ : Sg) : Option (Int32 × Sg) := ((f_X12_copies 94 96 σ).bind fun q1 => (some (((mup q1 93 3 ((q1 93 3) + (1 : Int32))) 93 3), (mup q1 93 3 ((q1 93 3) + (1 : Int32))))))
set_option maxHeartbeats 4000000 in
theorem ok_X12_image {L : Nat} {σ : Sg} {R : Int32 × Sg} (h : f_X12_image σ = some R) : mEv 1 221 [.ref 93] (mSh, L, σ) (some (.int R.1)) (mSh, L, R.2) := by
  refine mEv.of (by decide) rfl rfl ?_
  unfold f_X12_image at h
  refine mAt.blk bk_X12_image_0 ck_X12_image_0 ?_
  refine q_aload_n rfl ?_
  refine q_getR ob_93 rfl rfl ?_
  refine q_aload_n rfl ?_
  refine q_getR ob_93 rfl rfl ?_
  obtain ⟨q1, e1, h⟩ := mbind h
  refine q_sV2 mcap_0 rfl rfl rfl rfl (by decide) (ok_X12_copies ar_94 ar_96 e1) ?_
  refine q_aload_n rfl ?_
  refine q_dupR ?_
  refine q_getI ob_93 rfl ?_
  refine q_iconst ?_
  refine q_iadd ?_
  refine q_putI ob_93 rfl ?_
  refine q_aload_n rfl ?_
  refine q_getI ob_93 rfl ?_
  have h := Option.some.inj h
  subst h
  exact q_iretI mcap_0 rfl rfl
def bk_X12_restore_0 : List mI := [(.aload_n 0, 1, 0, 0, 0, []), (.getfield 282, 3, 12, 3, 940, []), (.ifCond .ne 9, 3, 13, 0, 0, []), (.aload_n 0, 1, 0, 0, 0, []), (.iconst 2, 1, 0, 0, 0, [(2, 0)]), (.invokevirtual 111, 3, 134, 0, 1010, []), (.ireturn, 1, 0, 0, 0, [])]
theorem ck_X12_restore_0 : mChk 222 0 bk_X12_restore_0 = true := by decide +kernel
def bk_X12_restore_13 : List mI := [(.aload_n 0, 1, 0, 0, 0, []), (.getfield 16, 3, 12, 2, 939, []), (.aload_n 0, 1, 0, 0, 0, []), (.getfield 7, 3, 12, 0, 937, []), (.invokestatic 221, 3, 137, 0, 1226, []), (.aload_n 0, 1, 0, 0, 0, []), (.getfield 7, 3, 12, 0, 937, []), (.iconst 0, 1, 0, 0, 0, [(0, 0)]), (.iaload, 1, 0, 0, 0, []), (.ireturn, 1, 0, 0, 0, [])]
theorem ck_X12_restore_13 : mChk 222 13 bk_X12_restore_13 = true := by decide +kernel
def f_X12_restore (σ : Sg) : Option (Int32 × Sg) := (if (σ 93 3) = 0 then ((f_X12_finds (2 : Int32) σ).bind fun q4 => (some (q4.1, q4.2))) else ((f_X12_copies 96 94 σ).bind fun q2 => (some ((q2 94 0), q2))))
set_option maxHeartbeats 4000000 in
theorem ok_X12_restore {L : Nat} {σ : Sg} {R : Int32 × Sg} (h : f_X12_restore σ = some R) : mEv 1 222 [.ref 93] (mSh, L, σ) (some (.int R.1)) (mSh, L, R.2) := by
  refine mEv.of (by decide) rfl rfl ?_
  unfold f_X12_restore at h
  refine mAt.blk bk_X12_restore_0 ck_X12_restore_0 ?_
  refine q_aload_n rfl ?_
  refine q_getI ob_93 rfl ?_
  refine q_if_ne (fun c1 => ?_) (fun c1 => ?_)
  · rw [if_pos c1] at h
    refine q_aload_n rfl ?_
    refine q_iconst ?_
    obtain ⟨q4, e4, h⟩ := mbind h
    refine q_vI1 mcap_0 rfl rfl ob_93 rfl (by decide) (ok_X12_finds  e4) ?_
    have h := Option.some.inj h
    subst h
    exact q_iretI mcap_0 rfl rfl
  · rw [if_neg c1] at h
    refine mAt.blk bk_X12_restore_13 ck_X12_restore_13 ?_
    refine q_aload_n rfl ?_
    refine q_getR ob_93 rfl rfl ?_
    refine q_aload_n rfl ?_
    refine q_getR ob_93 rfl rfl ?_
    obtain ⟨q2, e2, h⟩ := mbind h
    refine q_sV2 mcap_0 rfl rfl rfl rfl (by decide) (ok_X12_copies ar_96 ar_94 e2) ?_
    refine q_aload_n rfl ?_
    refine q_getR ob_93 rfl rfl ?_
    refine q_iconst ?_
    refine q_iald (j := 0) (mrd ar_94 _ _) (by decide) (by decide) ?_
    have h := Option.some.inj h
    subst h
    exact q_iretI mcap_0 rfl rfl
def bk_X12_tell_0 : List mI := [(.aload_n 0, 1, 0, 0, 0, []), (.getfield 7, 3, 12, 0, 937, []), (.bipush 6, 2, 0, 0, 0, [(6, 0)]), (.iaload, 1, 0, 0, 0, []), (.bipush 20, 2, 0, 0, 0, [(20, 0)]), (.if_icmp .ne 9, 3, 18, 0, 0, []), (.aload_n 0, 1, 0, 0, 0, []), (.iconst 4, 1, 0, 0, 0, [(4, 0)]), (.invokevirtual 111, 3, 134, 0, 1010, []), (.ireturn, 1, 0, 0, 0, [])]
theorem ck_X12_tell_0 : mChk 223 0 bk_X12_tell_0 = true := by decide +kernel
def bk_X12_tell_18 : List mI := [(.aload_n 0, 1, 0, 0, 0, []), (.getfield 7, 3, 12, 0, 937, []), (.sipush 144, 3, 0, 0, 0, [(144, 0)]), (.aload_n 0, 1, 0, 0, 0, []), (.getfield 7, 3, 12, 0, 937, []), (.bipush 6, 2, 0, 0, 0, [(6, 0)]), (.iaload, 1, 0, 0, 0, []), (.iadd, 1, 0, 0, 0, []), (.iload_n 1, 1, 0, 0, 0, []), (.iastore, 1, 0, 0, 0, []), (.aload_n 0, 1, 0, 0, 0, []), (.getfield 7, 3, 12, 0, 937, []), (.bipush 6, 2, 0, 0, 0, [(6, 0)]), (.dup2, 1, 0, 0, 0, []), (.iaload, 1, 0, 0, 0, []), (.iconst 1, 1, 0, 0, 0, [(1, 0)]), (.iadd, 1, 0, 0, 0, []), (.iastore, 1, 0, 0, 0, []), (.aload_n 0, 1, 0, 0, 0, []), (.getfield 7, 3, 12, 0, 937, []), (.bipush 6, 2, 0, 0, 0, [(6, 0)]), (.iaload, 1, 0, 0, 0, []), (.ireturn, 1, 0, 0, 0, [])]
theorem ck_X12_tell_18 : mChk 223 18 bk_X12_tell_18 = true := by decide +kernel
def f_X12_tell (p0 : Int32) (σ : Sg) : Option (Int32 × Sg) := (if (σ 94 6) = (20 : Int32) then ((f_X12_finds (4 : Int32) σ).bind fun q8 => (some (q8.1, q8.2))) else (if ((144 : Int32) + (σ 94 6)) < 0 ∨ 320 ≤ (((144 : Int32) + (σ 94 6))).toNatClampNeg then none else (some (((mup (mup σ 94 (((144 : Int32) + (σ 94 6))).toNatClampNeg p0) 94 6 (((mup σ 94 (((144 : Int32) + (σ 94 6))).toNatClampNeg p0) 94 6) + (1 : Int32))) 94 6), (mup (mup σ 94 (((144 : Int32) + (σ 94 6))).toNatClampNeg p0) 94 6 (((mup σ 94 (((144 : Int32) + (σ 94 6))).toNatClampNeg p0) 94 6) + (1 : Int32)))))))
set_option maxHeartbeats 4000000 in
theorem ok_X12_tell {L : Nat} {p0 : Int32} {σ : Sg} {R : Int32 × Sg} (h : f_X12_tell p0 σ = some R) : mEv 1 223 [.ref 93, .int p0] (mSh, L, σ) (some (.int R.1)) (mSh, L, R.2) := by
  refine mEv.of (by decide) rfl rfl ?_
  unfold f_X12_tell at h
  refine mAt.blk bk_X12_tell_0 ck_X12_tell_0 ?_
  refine q_aload_n rfl ?_
  refine q_getR ob_93 rfl rfl ?_
  refine q_bipush ?_
  refine q_iald (j := 6) (mrd ar_94 _ _) (by decide) (by decide) ?_
  refine q_bipush ?_
  refine q_ic_ne (fun c2 => ?_) (fun c2 => ?_)
  · rw [if_pos c2] at h
    refine q_aload_n rfl ?_
    refine q_iconst ?_
    obtain ⟨q8, e8, h⟩ := mbind h
    refine q_vI1 mcap_0 rfl rfl ob_93 rfl (by decide) (ok_X12_finds  e8) ?_
    have h := Option.some.inj h
    subst h
    exact q_iretI mcap_0 rfl rfl
  · rw [if_neg c2] at h
    refine mAt.blk bk_X12_tell_18 ck_X12_tell_18 ?_
    refine q_aload_n rfl ?_
    refine q_getR ob_93 rfl rfl ?_
    refine q_sipush ?_
    refine q_aload_n rfl ?_
    refine q_getR ob_93 rfl rfl ?_
    refine q_bipush ?_
    refine q_iald (j := 6) (mrd ar_94 _ _) (by decide) (by decide) ?_
    refine q_iadd ?_
    refine q_iload_n rfl ?_
    obtain ⟨c4, h⟩ := mnone h
    refine q_iast rfl ar_94 c4 ?_
    refine q_aload_n rfl ?_
    refine q_getR ob_93 rfl rfl ?_
    refine q_bipush ?_
    refine q_dup2 ?_
    refine q_iald (j := 6) (mrd ar_94 _ _) (by decide) (by decide) ?_
    refine q_iconst ?_
    refine q_iadd ?_
    refine q_iast (j := 6) (by decide) ar_94 (by decide) ?_
    refine q_aload_n rfl ?_
    refine q_getR ob_93 rfl rfl ?_
    refine q_bipush ?_
    refine q_iald (j := 6) (mrd ar_94 _ _) (by decide) (by decide) ?_
    have h := Option.some.inj h
    subst h
    exact q_iretI mcap_0 rfl rfl
def bk_X12_check_0 : List mI := [(.aload_n 0, 1, 0, 0, 0, []), (.getfield 7, 3, 12, 0, 937, []), (.bipush 6, 2, 0, 0, 0, [(6, 0)]), (.iaload, 1, 0, 0, 0, []), (.istore_n 2, 1, 0, 0, 0, []), (.aload_n 0, 1, 0, 0, 0, []), (.getfield 7, 3, 12, 0, 937, []), (.bipush 6, 2, 0, 0, 0, [(6, 0)]), (.iconst 0, 1, 0, 0, 0, [(0, 0)]), (.iastore, 1, 0, 0, 0, []), (.aload_n 0, 1, 0, 0, 0, []), (.iload_n 1, 1, 0, 0, 0, []), (.invokevirtual 182, 3, 139, 0, 1136, []), (.ifCond .ne 9, 3, 30, 0, 0, []), (.aload_n 0, 1, 0, 0, 0, []), (.iconst 1, 1, 0, 0, 0, [(1, 0)]), (.invokevirtual 111, 3, 134, 0, 1010, []), (.ireturn, 1, 0, 0, 0, [])]
theorem ck_X12_check_0 : mChk 224 0 bk_X12_check_0 = true := by decide +kernel
def bk_X12_check_30 : List mI := [(.aload_n 0, 1, 0, 0, 0, []), (.getfield 7, 3, 12, 0, 937, []), (.aload_n 0, 1, 0, 0, 0, []), (.getfield 13, 3, 12, 1, 938, []), (.invokestatic 221, 3, 137, 0, 1226, []), (.iconst 0, 1, 0, 0, 0, [(0, 0)]), (.istore_n 3, 1, 0, 0, 0, [])]
theorem ck_X12_check_30 : mChk 224 30 bk_X12_check_30 = true := by decide +kernel
def bk_X12_check_43 : List mI := [(.iload_n 3, 1, 0, 0, 0, []), (.iload_n 2, 1, 0, 0, 0, []), (.if_icmp .ge 42, 3, 87, 0, 0, []), (.aload_n 0, 1, 0, 0, 0, []), (.aload_n 0, 1, 0, 0, 0, []), (.getfield 13, 3, 12, 1, 938, []), (.invokevirtual 206, 3, 180, 0, 1196, []), (.aload_n 0, 1, 0, 0, 0, []), (.getfield 13, 3, 12, 1, 938, []), (.iload_n 1, 1, 0, 0, 0, []), (.invokestatic 232, 3, 189, 0, 1237, []), (.aload_n 0, 1, 0, 0, 0, []), (.getfield 7, 3, 12, 0, 937, []), (.sipush 144, 3, 0, 0, 0, [(144, 0)]), (.iload_n 3, 1, 0, 0, 0, []), (.iadd, 1, 0, 0, 0, []), (.iaload, 1, 0, 0, 0, []), (.if_icmp .eq 7, 3, 81, 0, 0, []), (.iconst 1, 1, 0, 0, 0, [(1, 0)]), (.iload_n 3, 1, 0, 0, 0, []), (.iadd, 1, 0, 0, 0, []), (.ireturn, 1, 0, 0, 0, [])]
theorem ck_X12_check_43 : mChk 224 43 bk_X12_check_43 = true := by decide +kernel
def bk_X12_check_81 : List mI := [(.iinc 3 1, 3, 0, 0, 0, [(1, 0)]), (.goto (-41), 3, 43, 0, 0, [])]
theorem ck_X12_check_81 : mChk 224 81 bk_X12_check_81 = true := by decide +kernel
def bk_X12_check_87 : List mI := [(.iconst 0, 1, 0, 0, 0, [(0, 0)]), (.ireturn, 1, 0, 0, 0, [])]
theorem ck_X12_check_87 : mChk 224 87 bk_X12_check_87 = true := by decide +kernel
def c_X12_check_43 : Nat → Int32 → Int32 → Int32 → Sg → Option (Int32 × Sg)
  | 0, _, _, _, _ => none
  | n + 1, x1, x2, x3, σ => (if x2 ≤ x3 then (some ((0 : Int32), σ)) else ((f_X12_goesBy 95 σ).bind fun q2 => ((f_X12_inWhich 95 x1 q2).bind fun q3 => (if ((144 : Int32) + x3) < 0 ∨ 320 ≤ (((144 : Int32) + x3)).toNatClampNeg then none else (if q3 = (q2 94 (((144 : Int32) + x3)).toNatClampNeg) then (c_X12_check_43  n x1 x2 (x3 + (1 : Int32)) q2) else (some (((1 : Int32) + x3), q2)))))))
set_option maxHeartbeats 4000000 in
theorem okc_X12_check_43 {L : Nat} {R : Int32 × Sg} {n : Nat} {x1 : Int32} {x2 : Int32} {x3 : Int32} {σ : Sg} {pl : mLoc} (h : c_X12_check_43 n x1 x2 x3 σ = some R) (hl : mlf [some (.ref 93), some (.int x1), some (.int x2), some (.int x3)] pl) : mAt 71 224 (some (.int R.1), (mSh, L, R.2)) 43 pl [] (mSh, L, σ) 0 0 := by
  induction n generalizing x1 x2 x3 σ pl with
  | zero =>
    rw [c_X12_check_43.eq_1] at h
    cases h
  | succ n ih =>
    refine mAt.less hl ?_
    rw [c_X12_check_43.eq_2] at h
    refine mAt.blk bk_X12_check_43 ck_X12_check_43 ?_
    refine q_iload_n rfl ?_
    refine q_iload_n rfl ?_
    refine q_ic_ge (fun c1 => ?_) (fun c1 => ?_)
    · rw [if_pos c1] at h
      refine mAt.blk bk_X12_check_87 ck_X12_check_87 ?_
      refine q_iconst ?_
      have h := Option.some.inj h
      subst h
      exact q_iretI mcap_0 rfl rfl
    · rw [if_neg c1] at h
      refine q_aload_n rfl ?_
      refine q_aload_n rfl ?_
      refine q_getR ob_93 rfl rfl ?_
      obtain ⟨q2, e2, h⟩ := mbind h
      refine q_vV1 mcap_0 rfl rfl ob_93 rfl (by decide) (ok_X12_goesBy ar_95 e2) ?_
      refine q_aload_n rfl ?_
      refine q_getR ob_93 rfl rfl ?_
      refine q_iload_n rfl ?_
      obtain ⟨q3, e3, h⟩ := mbind h
      refine q_sI2 mcap_0 rfl rfl rfl rfl (by decide) (ok_X12_inWhich ar_95 e3) ?_
      refine q_aload_n rfl ?_
      refine q_getR ob_93 rfl rfl ?_
      refine q_sipush ?_
      refine q_iload_n rfl ?_
      refine q_iadd ?_
      obtain ⟨c4, h⟩ := mnone h
      refine q_iald (mrd ar_94 _ _) rfl c4 ?_
      refine q_ic_eq (fun c5 => ?_) (fun c5 => ?_)
      · rw [if_pos c5] at h
        refine mAt.blk bk_X12_check_81 ck_X12_check_81 ?_
        refine q_iinc rfl rfl ?_
        refine q_goto ?_
        exact ih  h ⟨rfl, rfl, rfl, rfl, trivial⟩
      · rw [if_neg c5] at h
        refine q_iconst ?_
        refine q_iload_n rfl ?_
        refine q_iadd ?_
        have h := Option.some.inj h
        subst h
        exact q_iretI mcap_0 rfl rfl
def f_X12_check (p0 : Int32) (σ : Sg) : Option (Int32 × Sg) := ((f_X12_isThing p0 (mup σ 94 6 (0 : Int32))).bind fun q8 => (if q8 = 0 then ((f_X12_finds (1 : Int32) (mup σ 94 6 (0 : Int32))).bind fun q11 => (some (q11.1, q11.2))) else ((f_X12_copies 94 95 (mup σ 94 6 (0 : Int32))).bind fun q10 => (c_X12_check_43   1000 p0 (σ 94 6) (0 : Int32) q10))))
set_option maxHeartbeats 4000000 in
theorem ok_X12_check {L : Nat} {p0 : Int32} {σ : Sg} {R : Int32 × Sg} (h : f_X12_check p0 σ = some R) : mEv 71 224 [.ref 93, .int p0] (mSh, L, σ) (some (.int R.1)) (mSh, L, R.2) := by
  refine mEv.of (by decide) rfl rfl ?_
  unfold f_X12_check at h
  refine mAt.blk bk_X12_check_0 ck_X12_check_0 ?_
  refine q_aload_n rfl ?_
  refine q_getR ob_93 rfl rfl ?_
  refine q_bipush ?_
  refine q_iald (j := 6) (mrd ar_94 _ _) (by decide) (by decide) ?_
  refine q_istore_n rfl rfl ?_
  refine q_aload_n rfl ?_
  refine q_getR ob_93 rfl rfl ?_
  refine q_bipush ?_
  refine q_iconst ?_
  refine q_iast (j := 6) (by decide) ar_94 (by decide) ?_
  refine q_aload_n rfl ?_
  refine q_iload_n rfl ?_
  obtain ⟨q8, e8, h⟩ := mbind h
  refine q_vI1 mcap_0 rfl rfl ob_93 rfl (by decide) (ok_X12_isThing  e8) ?_
  refine q_if_ne (fun c9 => ?_) (fun c9 => ?_)
  · rw [if_pos c9] at h
    refine q_aload_n rfl ?_
    refine q_iconst ?_
    obtain ⟨q11, e11, h⟩ := mbind h
    refine q_vI1 mcap_0 rfl rfl ob_93 rfl (by decide) (ok_X12_finds  e11) ?_
    have h := Option.some.inj h
    subst h
    exact q_iretI mcap_0 rfl rfl
  · rw [if_neg c9] at h
    refine mAt.blk bk_X12_check_30 ck_X12_check_30 ?_
    refine q_aload_n rfl ?_
    refine q_getR ob_93 rfl rfl ?_
    refine q_aload_n rfl ?_
    refine q_getR ob_93 rfl rfl ?_
    obtain ⟨q10, e10, h⟩ := mbind h
    refine q_sV2 mcap_0 rfl rfl rfl rfl (by decide) (ok_X12_copies ar_94 ar_95 e10) ?_
    refine q_iconst ?_
    refine q_istore_n rfl rfl ?_
    exact okc_X12_check_43  h ⟨rfl, rfl, rfl, rfl, trivial⟩
def bk_X12_manyOut_0 : List mI := [(.iconst 0, 1, 0, 0, 0, [(0, 0)]), (.istore_n 1, 1, 0, 0, 0, []), (.iconst 0, 1, 0, 0, 0, [(0, 0)]), (.istore_n 2, 1, 0, 0, 0, [])]
theorem ck_X12_manyOut_0 : mChk 225 0 bk_X12_manyOut_0 = true := by decide +kernel
def bk_X12_manyOut_4 : List mI := [(.iload_n 2, 1, 0, 0, 0, []), (.aload_n 0, 1, 0, 0, 0, []), (.getfield 7, 3, 12, 0, 937, []), (.iconst 2, 1, 0, 0, 0, [(2, 0)]), (.iaload, 1, 0, 0, 0, []), (.if_icmp .ge 26, 3, 37, 0, 0, []), (.iload_n 1, 1, 0, 0, 0, []), (.aload_n 0, 1, 0, 0, 0, []), (.iload_n 2, 1, 0, 0, 0, []), (.invokevirtual 194, 3, 176, 0, 1176, []), (.iconst 2, 1, 0, 0, 0, [(2, 0)]), (.if_icmp .ne 7, 3, 28, 0, 0, []), (.iconst 1, 1, 0, 0, 0, [(1, 0)]), (.goto 4, 3, 29, 0, 0, [])]
theorem ck_X12_manyOut_4 : mChk 225 4 bk_X12_manyOut_4 = true := by decide +kernel
def bk_X12_manyOut_28 : List mI := [(.iconst 0, 1, 0, 0, 0, [(0, 0)])]
theorem ck_X12_manyOut_28 : mChk 225 28 bk_X12_manyOut_28 = true := by decide +kernel
def bk_X12_manyOut_29 : List mI := [(.iadd, 1, 0, 0, 0, []), (.istore_n 1, 1, 0, 0, 0, []), (.iinc 2 1, 3, 0, 0, 0, [(1, 0)]), (.goto (-30), 3, 4, 0, 0, [])]
theorem ck_X12_manyOut_29 : mChk 225 29 bk_X12_manyOut_29 = true := by decide +kernel
def bk_X12_manyOut_37 : List mI := [(.iload_n 1, 1, 0, 0, 0, []), (.ireturn, 1, 0, 0, 0, [])]
theorem ck_X12_manyOut_37 : mChk 225 37 bk_X12_manyOut_37 = true := by decide +kernel
def c_X12_manyOut_29 (k4 : Int32 → Int32 → Option (Int32)) (σ : Sg) (x2 : Int32) (s0 : Int32) (s1 : Int32) : Option (Int32) := (k4 (s0 + s1) (x2 + (1 : Int32)))
set_option maxHeartbeats 4000000 in
theorem okc_X12_manyOut_29 {L : Nat} {k4 : Int32 → Int32 → Option (Int32)} {σ : Sg} {R : Int32} (Hk4 : ∀ (x1 : Int32) (x2 : Int32) (pl : mLoc), k4 x1 x2 = some R → mlf [some (.ref 93), some (.int x1), some (.int x2)] pl → mAt 1 225 (some (.int R), (mSh, L, σ)) 4 pl [] (mSh, L, σ) 0 0) {x2 : Int32} {s0 : Int32} {s1 : Int32} {pl : mLoc} (h : c_X12_manyOut_29 k4 σ x2 s0 s1 = some R) (hl : mlf [some (.ref 93), none, some (.int x2)] pl) : mAt 1 225 (some (.int R), (mSh, L, σ)) 29 pl [.int s1, .int s0] (mSh, L, σ) 0 0 := by
  refine mAt.less hl ?_
  unfold c_X12_manyOut_29 at h
  refine mAt.blk bk_X12_manyOut_29 ck_X12_manyOut_29 ?_
  refine q_iadd ?_
  refine q_istore_n rfl rfl ?_
  refine q_iinc rfl rfl ?_
  refine q_goto ?_
  exact Hk4 _ _ _  h ⟨rfl, rfl, rfl, trivial⟩
def c_X12_manyOut_4 (σ : Sg) : Nat → Int32 → Int32 → Option (Int32)
  | 0, _, _ => none
  | n + 1, x1, x2 => (if (σ 94 2) ≤ x2 then (some x1) else ((f_X12_isNow x2 σ).bind fun q3 => (if q3 = (2 : Int32) then (c_X12_manyOut_29 (c_X12_manyOut_4 σ n) σ x2 x1 (1 : Int32)) else (c_X12_manyOut_29 (c_X12_manyOut_4 σ n) σ x2 x1 (0 : Int32)))))
set_option maxHeartbeats 4000000 in
theorem okc_X12_manyOut_4 {L : Nat} {σ : Sg} {R : Int32} {n : Nat} {x1 : Int32} {x2 : Int32} {pl : mLoc} (h : c_X12_manyOut_4 σ n x1 x2 = some R) (hl : mlf [some (.ref 93), some (.int x1), some (.int x2)] pl) : mAt 1 225 (some (.int R), (mSh, L, σ)) 4 pl [] (mSh, L, σ) 0 0 := by
  induction n generalizing x1 x2 pl with
  | zero =>
    rw [c_X12_manyOut_4.eq_1] at h
    cases h
  | succ n ih =>
    refine mAt.less hl ?_
    rw [c_X12_manyOut_4.eq_2] at h
    refine mAt.blk bk_X12_manyOut_4 ck_X12_manyOut_4 ?_
    refine q_iload_n rfl ?_
    refine q_aload_n rfl ?_
    refine q_getR ob_93 rfl rfl ?_
    refine q_iconst ?_
    refine q_iald (j := 2) (mrd ar_94 _ _) (by decide) (by decide) ?_
    refine q_ic_ge (fun c2 => ?_) (fun c2 => ?_)
    · rw [if_pos c2] at h
      refine mAt.blk bk_X12_manyOut_37 ck_X12_manyOut_37 ?_
      refine q_iload_n rfl ?_
      have h := Option.some.inj h
      subst h
      exact q_iretI mcap_0 rfl rfl
    · rw [if_neg c2] at h
      refine q_iload_n rfl ?_
      refine q_aload_n rfl ?_
      refine q_iload_n rfl ?_
      obtain ⟨q3, e3, h⟩ := mbind h
      refine q_vI1 mcap_0 rfl rfl ob_93 rfl (by decide) (ok_X12_isNow  e3) ?_
      refine q_iconst ?_
      refine q_ic_ne (fun c4 => ?_) (fun c4 => ?_)
      · rw [if_pos c4] at h
        refine q_iconst ?_
        refine q_goto ?_
        exact okc_X12_manyOut_29 (fun _ _ _ e hl => ih  e hl) h ⟨rfl, rfl, trivial⟩
      · rw [if_neg c4] at h
        refine mAt.blk bk_X12_manyOut_28 ck_X12_manyOut_28 ?_
        refine q_iconst ?_
        exact okc_X12_manyOut_29 (fun _ _ _ e hl => ih  e hl) h ⟨rfl, rfl, trivial⟩
def f_X12_manyOut (σ : Sg) : Option (Int32) := (c_X12_manyOut_4  σ 1000 (0 : Int32) (0 : Int32))
set_option maxHeartbeats 4000000 in
theorem ok_X12_manyOut {L : Nat} {σ : Sg} {R : Int32} (h : f_X12_manyOut σ = some R) : mEv 1 225 [.ref 93] (mSh, L, σ) (some (.int R)) (mSh, L, σ) := by
  refine mEv.of (by decide) rfl rfl ?_
  unfold f_X12_manyOut at h
  refine mAt.blk bk_X12_manyOut_0 ck_X12_manyOut_0 ?_
  refine q_iconst ?_
  refine q_istore_n rfl rfl ?_
  refine q_iconst ?_
  refine q_istore_n rfl rfl ?_
  exact okc_X12_manyOut_4  h ⟨rfl, rfl, rfl, trivial⟩
def bk_X12_count_0 : List mI := [(.iload_n 1, 1, 0, 0, 0, []), (.tableswitch 111 0 8 #[51, 58, 65, 72, 77, 84, 91, 99, 104], 51, 112, 0, 0, [(0, 52), (1, 59), (2, 66), (3, 73), (4, 78), (5, 85), (6, 92), (7, 100), (8, 105)])]
theorem ck_X12_count_0 : mChk 226 0 bk_X12_count_0 = true := by decide +kernel
def bk_X12_count_52 : List mI := [(.aload_n 0, 1, 0, 0, 0, []), (.getfield 7, 3, 12, 0, 937, []), (.iconst 0, 1, 0, 0, 0, [(0, 0)]), (.iaload, 1, 0, 0, 0, []), (.ireturn, 1, 0, 0, 0, [])]
theorem ck_X12_count_52 : mChk 226 52 bk_X12_count_52 = true := by decide +kernel
def bk_X12_count_59 : List mI := [(.aload_n 0, 1, 0, 0, 0, []), (.getfield 7, 3, 12, 0, 937, []), (.iconst 1, 1, 0, 0, 0, [(1, 0)]), (.iaload, 1, 0, 0, 0, []), (.ireturn, 1, 0, 0, 0, [])]
theorem ck_X12_count_59 : mChk 226 59 bk_X12_count_59 = true := by decide +kernel
def bk_X12_count_66 : List mI := [(.aload_n 0, 1, 0, 0, 0, []), (.getfield 7, 3, 12, 0, 937, []), (.iconst 2, 1, 0, 0, 0, [(2, 0)]), (.iaload, 1, 0, 0, 0, []), (.ireturn, 1, 0, 0, 0, [])]
theorem ck_X12_count_66 : mChk 226 66 bk_X12_count_66 = true := by decide +kernel
def bk_X12_count_73 : List mI := [(.aload_n 0, 1, 0, 0, 0, []), (.invokevirtual 285, 3, 225, 0, 1373, []), (.ireturn, 1, 0, 0, 0, [])]
theorem ck_X12_count_73 : mChk 226 73 bk_X12_count_73 = true := by decide +kernel
def bk_X12_count_78 : List mI := [(.aload_n 0, 1, 0, 0, 0, []), (.getfield 7, 3, 12, 0, 937, []), (.iconst 3, 1, 0, 0, 0, [(3, 0)]), (.iaload, 1, 0, 0, 0, []), (.ireturn, 1, 0, 0, 0, [])]
theorem ck_X12_count_78 : mChk 226 78 bk_X12_count_78 = true := by decide +kernel
def bk_X12_count_85 : List mI := [(.aload_n 0, 1, 0, 0, 0, []), (.getfield 7, 3, 12, 0, 937, []), (.iconst 5, 1, 0, 0, 0, [(5, 0)]), (.iaload, 1, 0, 0, 0, []), (.ireturn, 1, 0, 0, 0, [])]
theorem ck_X12_count_85 : mChk 226 85 bk_X12_count_85 = true := by decide +kernel
def bk_X12_count_92 : List mI := [(.aload_n 0, 1, 0, 0, 0, []), (.getfield 7, 3, 12, 0, 937, []), (.bipush 6, 2, 0, 0, 0, [(6, 0)]), (.iaload, 1, 0, 0, 0, []), (.ireturn, 1, 0, 0, 0, [])]
theorem ck_X12_count_92 : mChk 226 92 bk_X12_count_92 = true := by decide +kernel
def bk_X12_count_100 : List mI := [(.aload_n 0, 1, 0, 0, 0, []), (.getfield 256, 3, 12, 15, 952, []), (.ireturn, 1, 0, 0, 0, [])]
theorem ck_X12_count_100 : mChk 226 100 bk_X12_count_100 = true := by decide +kernel
def bk_X12_count_105 : List mI := [(.aload_n 0, 1, 0, 0, 0, []), (.getfield 7, 3, 12, 0, 937, []), (.iconst 4, 1, 0, 0, 0, [(4, 0)]), (.iaload, 1, 0, 0, 0, []), (.ireturn, 1, 0, 0, 0, [])]
theorem ck_X12_count_105 : mChk 226 105 bk_X12_count_105 = true := by decide +kernel
def bk_X12_count_112 : List mI := [(.aload_n 0, 1, 0, 0, 0, []), (.iconst 1, 1, 0, 0, 0, [(1, 0)]), (.invokevirtual 111, 3, 134, 0, 1010, []), (.ireturn, 1, 0, 0, 0, [])]
theorem ck_X12_count_112 : mChk 226 112 bk_X12_count_112 = true := by decide +kernel
def f_X12_count (p0 : Int32) (σ : Sg) : Option (Int32 × Sg) := (if p0 = (0 : Int32) then (some ((σ 94 0), σ)) else (if p0 = (1 : Int32) then (some ((σ 94 1), σ)) else (if p0 = (2 : Int32) then (some ((σ 94 2), σ)) else (if p0 = (3 : Int32) then ((f_X12_manyOut  σ).bind fun q4 => (some (q4, σ))) else (if p0 = (4 : Int32) then (some ((σ 94 3), σ)) else (if p0 = (5 : Int32) then (some ((σ 94 5), σ)) else (if p0 = (6 : Int32) then (some ((σ 94 6), σ)) else (if p0 = (7 : Int32) then (some ((σ 93 15), σ)) else (if p0 = (8 : Int32) then (some ((σ 94 4), σ)) else ((f_X12_finds (1 : Int32) σ).bind fun q9 => (some (q9.1, q9.2))))))))))))
set_option maxHeartbeats 4000000 in
theorem ok_X12_count {L : Nat} {p0 : Int32} {σ : Sg} {R : Int32 × Sg} (h : f_X12_count p0 σ = some R) : mEv 2 226 [.ref 93, .int p0] (mSh, L, σ) (some (.int R.1)) (mSh, L, R.2) := by
  refine mEv.of (by decide) rfl rfl ?_
  unfold f_X12_count at h
  refine mAt.blk bk_X12_count_0 ck_X12_count_0 ?_
  refine q_iload_n rfl ?_
  refine q_tsw ?_
  refine ⟨fun c18 => ?_, fun c18 => ?_⟩
  · rw [if_pos c18] at h
    refine mAt.blk bk_X12_count_52 ck_X12_count_52 ?_
    refine q_aload_n rfl ?_
    refine q_getR ob_93 rfl rfl ?_
    refine q_iconst ?_
    refine q_iald (j := 0) (mrd ar_94 _ _) (by decide) (by decide) ?_
    have h := Option.some.inj h
    subst h
    exact q_iretI mcap_0 rfl rfl
  · rw [if_neg c18] at h
    refine ⟨fun c17 => ?_, fun c17 => ?_⟩
    · rw [if_pos c17] at h
      refine mAt.blk bk_X12_count_59 ck_X12_count_59 ?_
      refine q_aload_n rfl ?_
      refine q_getR ob_93 rfl rfl ?_
      refine q_iconst ?_
      refine q_iald (j := 1) (mrd ar_94 _ _) (by decide) (by decide) ?_
      have h := Option.some.inj h
      subst h
      exact q_iretI mcap_0 rfl rfl
    · rw [if_neg c17] at h
      refine ⟨fun c16 => ?_, fun c16 => ?_⟩
      · rw [if_pos c16] at h
        refine mAt.blk bk_X12_count_66 ck_X12_count_66 ?_
        refine q_aload_n rfl ?_
        refine q_getR ob_93 rfl rfl ?_
        refine q_iconst ?_
        refine q_iald (j := 2) (mrd ar_94 _ _) (by decide) (by decide) ?_
        have h := Option.some.inj h
        subst h
        exact q_iretI mcap_0 rfl rfl
      · rw [if_neg c16] at h
        refine ⟨fun c15 => ?_, fun c15 => ?_⟩
        · rw [if_pos c15] at h
          refine mAt.blk bk_X12_count_73 ck_X12_count_73 ?_
          refine q_aload_n rfl ?_
          obtain ⟨q4, e4, h⟩ := mbind h
          refine q_vI0 mcap_0 rfl rfl ob_93 rfl (by decide) (ok_X12_manyOut  e4) ?_
          have h := Option.some.inj h
          subst h
          exact q_iretI mcap_0 rfl rfl
        · rw [if_neg c15] at h
          refine ⟨fun c14 => ?_, fun c14 => ?_⟩
          · rw [if_pos c14] at h
            refine mAt.blk bk_X12_count_78 ck_X12_count_78 ?_
            refine q_aload_n rfl ?_
            refine q_getR ob_93 rfl rfl ?_
            refine q_iconst ?_
            refine q_iald (j := 3) (mrd ar_94 _ _) (by decide) (by decide) ?_
            have h := Option.some.inj h
            subst h
            exact q_iretI mcap_0 rfl rfl
          · rw [if_neg c14] at h
            refine ⟨fun c13 => ?_, fun c13 => ?_⟩
            · rw [if_pos c13] at h
              refine mAt.blk bk_X12_count_85 ck_X12_count_85 ?_
              refine q_aload_n rfl ?_
              refine q_getR ob_93 rfl rfl ?_
              refine q_iconst ?_
              refine q_iald (j := 5) (mrd ar_94 _ _) (by decide) (by decide) ?_
              have h := Option.some.inj h
              subst h
              exact q_iretI mcap_0 rfl rfl
            · rw [if_neg c13] at h
              refine ⟨fun c12 => ?_, fun c12 => ?_⟩
              · rw [if_pos c12] at h
                refine mAt.blk bk_X12_count_92 ck_X12_count_92 ?_
                refine q_aload_n rfl ?_
                refine q_getR ob_93 rfl rfl ?_
                refine q_bipush ?_
                refine q_iald (j := 6) (mrd ar_94 _ _) (by decide) (by decide) ?_
                have h := Option.some.inj h
                subst h
                exact q_iretI mcap_0 rfl rfl
              · rw [if_neg c12] at h
                refine ⟨fun c11 => ?_, fun c11 => ?_⟩
                · rw [if_pos c11] at h
                  refine mAt.blk bk_X12_count_100 ck_X12_count_100 ?_
                  refine q_aload_n rfl ?_
                  refine q_getI ob_93 rfl ?_
                  have h := Option.some.inj h
                  subst h
                  exact q_iretI mcap_0 rfl rfl
                · rw [if_neg c11] at h
                  refine ⟨fun c10 => ?_, fun c10 => ?_⟩
                  · rw [if_pos c10] at h
                    refine mAt.blk bk_X12_count_105 ck_X12_count_105 ?_
                    refine q_aload_n rfl ?_
                    refine q_getR ob_93 rfl rfl ?_
                    refine q_iconst ?_
                    refine q_iald (j := 4) (mrd ar_94 _ _) (by decide) (by decide) ?_
                    have h := Option.some.inj h
                    subst h
                    exact q_iretI mcap_0 rfl rfl
                  · rw [if_neg c10] at h
                    refine mAt.blk bk_X12_count_112 ck_X12_count_112 ?_
                    refine q_aload_n rfl ?_
                    refine q_iconst ?_
                    obtain ⟨q9, e9, h⟩ := mbind h
                    refine q_vI1 mcap_0 rfl rfl ob_93 rfl (by decide) (ok_X12_finds  e9) ?_
                    have h := Option.some.inj h
                    subst h
                    exact q_iretI mcap_0 rfl rfl
def bk_X12_told_0 : List mI := [(.iload_n 1, 1, 0, 0, 0, []), (.i2l, 1, 0, 0, 0, []), (.lconst 1, 1, 0, 0, 0, [(1, 0)]), (.ldc2_w 152, 3, 0, 0, 1112, [(5, 0)]), (.invokestatic 48, 3, 135, 0, 1007, []), (.ifCond .eq 12, 3, 21, 0, 0, []), (.aload_n 0, 1, 0, 0, 0, []), (.getfield 19, 3, 12, 4, 941, []), (.iload_n 1, 1, 0, 0, 0, []), (.iaload, 1, 0, 0, 0, []), (.goto 8, 3, 26, 0, 0, [])]
theorem ck_X12_told_0 : mChk 227 0 bk_X12_told_0 = true := by decide +kernel
def bk_X12_told_21 : List mI := [(.aload_n 0, 1, 0, 0, 0, []), (.iconst 1, 1, 0, 0, 0, [(1, 0)]), (.invokevirtual 111, 3, 134, 0, 1010, [])]
theorem ck_X12_told_21 : mChk 227 21 bk_X12_told_21 = true := by decide +kernel
def bk_X12_told_26 : List mI := [(.ireturn, 1, 0, 0, 0, [])]
theorem ck_X12_told_26 : mChk 227 26 bk_X12_told_26 = true := by decide +kernel
def f_X12_told (p0 : Int32) (σ : Sg) : Option (Int32 × Sg) := ((f_X12_isIn (p0).toInt64 (1 : Int32).toInt64 (5 : Int32).toInt64 σ).bind fun q1 => (if q1 = 0 then ((f_X12_finds (1 : Int32) σ).bind fun q3 => (some (q3.1, q3.2))) else (if p0 < 0 ∨ 6 ≤ (p0).toNatClampNeg then none else (some ((σ 97 (p0).toNatClampNeg), σ)))))
set_option maxHeartbeats 4000000 in
theorem ok_X12_told {L : Nat} {p0 : Int32} {σ : Sg} {R : Int32 × Sg} (h : f_X12_told p0 σ = some R) : mEv 1 227 [.ref 93, .int p0] (mSh, L, σ) (some (.int R.1)) (mSh, L, R.2) := by
  refine mEv.of (by decide) rfl rfl ?_
  unfold f_X12_told at h
  refine mAt.blk bk_X12_told_0 ck_X12_told_0 ?_
  refine q_iload_n rfl ?_
  refine q_i2l ?_
  refine q_lconst ?_
  refine q_ldc2_w ?_
  obtain ⟨q1, e1, h⟩ := mbind h
  refine q_sI3 mcap_0 rfl rfl rfl rfl (by decide) (ok_X12_isIn  e1) ?_
  refine q_if_eq (fun c2 => ?_) (fun c2 => ?_)
  · rw [if_pos c2] at h
    refine mAt.blk bk_X12_told_21 ck_X12_told_21 ?_
    refine q_aload_n rfl ?_
    refine q_iconst ?_
    obtain ⟨q3, e3, h⟩ := mbind h
    refine q_vI1 mcap_0 rfl rfl ob_93 rfl (by decide) (ok_X12_finds  e3) ?_
    refine mAt.blk bk_X12_told_26 ck_X12_told_26 ?_
    have h := Option.some.inj h
    subst h
    exact q_iretI mcap_0 rfl rfl
  · rw [if_neg c2] at h
    refine q_aload_n rfl ?_
    refine q_getR ob_93 rfl rfl ?_
    refine q_iload_n rfl ?_
    obtain ⟨c4, h⟩ := mnone h
    refine q_iald (mrd ar_97 _ _) rfl c4 ?_
    refine q_goto ?_
    refine mAt.blk bk_X12_told_26 ck_X12_told_26 ?_
    have h := Option.some.inj h
    subst h
    exact q_iretI mcap_0 rfl rfl
