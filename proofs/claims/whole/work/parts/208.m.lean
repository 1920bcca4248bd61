def bk_X11_rings_0 : List mI := [(.iload_n 1, 1, 0, 0, 0, []), (.iconst 0, 1, 0, 0, 0, [(0, 0)]), (.iconst 1, 1, 0, 0, 0, [(1, 0)]), (.invokestatic 112, 3, 125, 0, 445, []), (.ifCond .ne 9, 3, 15, 0, 0, []), (.aload_n 0, 1, 0, 0, 0, []), (.iconst 1, 1, 0, 0, 0, [(1, 0)]), (.invokevirtual 89, 3, 123, 0, 399, []), (.ireturn, 1, 0, 0, 0, [])]
theorem ck_X11_rings_0 : mChk 103 0 bk_X11_rings_0 = true := by decide +kernel
def bk_X11_rings_15 : List mI := [(.iload_n 1, 1, 0, 0, 0, []), (.ifCond .ne 16, 3, 32, 0, 0, []), (.aload_n 0, 1, 0, 0, 0, []), (.getfield 31, 3, 11, 0, 361, []), (.getfield 79, 3, 10, 0, 250, []), (.invokevirtual 238, 3, 63, 0, 739, []), (.goto 13, 3, 42, 0, 0, [])]
theorem ck_X11_rings_15 : mChk 103 15 bk_X11_rings_15 = true := by decide +kernel
def bk_X11_rings_32 : List mI := [(.aload_n 0, 1, 0, 0, 0, []), (.getfield 31, 3, 11, 0, 361, []), (.getfield 79, 3, 10, 0, 250, []), (.invokevirtual 241, 3, 64, 0, 747, [])]
theorem ck_X11_rings_32 : mChk 103 32 bk_X11_rings_32 = true := by decide +kernel
def bk_X11_rings_42 : List mI := [(.ireturn, 1, 0, 0, 0, [])]
theorem ck_X11_rings_42 : mChk 103 42 bk_X11_rings_42 = true := by decide +kernel
def f_X11_rings (p0 : Int32) (σ : Sg) : Option (Int32 × Sg) := ((f_X11_within p0 (0 : Int32) (1 : Int32) σ).bind fun q1 => (if q1 = 0 then ((f_X11_error (1 : Int32) σ).bind fun q6 => (some (q6.1, q6.2))) else (if p0 = 0 then ((f_X9_deepBits 32 σ).bind fun q5 => (some (q5, σ))) else ((f_X9_howManyRings 32 σ).bind fun q4 => (some (q4, σ))))))
set_option maxHeartbeats 4000000 in
theorem ok_X11_rings {L : Nat} {p0 : Int32} {σ : Sg} {R : Int32 × Sg} (h : f_X11_rings p0 σ = some R) : mEv 4 103 [.ref 0, .int p0] (mSh, L, σ) (some (.int R.1)) (mSh, L, R.2) := by
  refine mEv.of (by decide) rfl rfl ?_
  unfold f_X11_rings at h
  refine mAt.blk bk_X11_rings_0 ck_X11_rings_0 ?_
  refine q_iload_n rfl ?_
  refine q_iconst ?_
  refine q_iconst ?_
  obtain ⟨q1, e1, h⟩ := mbind h
  refine q_sI3 mcap_0 rfl rfl rfl rfl (by decide) (ok_X11_within  e1) ?_
  refine q_if_ne (fun c2 => ?_) (fun c2 => ?_)
  · rw [if_pos c2] at h
    refine q_aload_n rfl ?_
    refine q_iconst ?_
    obtain ⟨q6, e6, h⟩ := mbind h
    refine q_vI1 mcap_0 rfl rfl ob_0 rfl (by decide) (ok_X11_error  e6) ?_
    have h := Option.some.inj h
    subst h
    exact q_iretI mcap_0 rfl rfl
  · rw [if_neg c2] at h
    refine mAt.blk bk_X11_rings_15 ck_X11_rings_15 ?_
    refine q_iload_n rfl ?_
    refine q_if_ne (fun c3 => ?_) (fun c3 => ?_)
    · rw [if_pos c3] at h
      refine q_aload_n rfl ?_
      refine q_getR ob_0 rfl rfl ?_
      refine q_getR ob_31 rfl rfl ?_
      obtain ⟨q5, e5, h⟩ := mbind h
      refine q_vI0 mcap_0 rfl rfl ob_32 rfl (by decide) (ok_X9_deepBits p9_32 e5) ?_
      refine q_goto ?_
      refine mAt.blk bk_X11_rings_42 ck_X11_rings_42 ?_
      have h := Option.some.inj h
      subst h
      exact q_iretI mcap_0 rfl rfl
    · rw [if_neg c3] at h
      refine mAt.blk bk_X11_rings_32 ck_X11_rings_32 ?_
      refine q_aload_n rfl ?_
      refine q_getR ob_0 rfl rfl ?_
      refine q_getR ob_31 rfl rfl ?_
      obtain ⟨q4, e4, h⟩ := mbind h
      refine q_vI0 mcap_0 rfl rfl ob_32 rfl (by decide) (ok_X9_howManyRings p9_32 e4) ?_
      refine mAt.blk bk_X11_rings_42 ck_X11_rings_42 ?_
      have h := Option.some.inj h
      subst h
      exact q_iretI mcap_0 rfl rfl
def bk_X11_meet_0 : List mI := [(.aload_n 0, 1, 0, 0, 0, []), (.getfield 31, 3, 11, 0, 361, []), (.getfield 79, 3, 10, 0, 250, []), (.iload_n 1, 1, 0, 0, 0, []), (.invokevirtual 97, 3, 54, 0, 423, []), (.ifCond .eq 17, 3, 28, 0, 0, []), (.aload_n 0, 1, 0, 0, 0, []), (.getfield 31, 3, 11, 0, 361, []), (.getfield 79, 3, 10, 0, 250, []), (.iload_n 2, 1, 0, 0, 0, []), (.invokevirtual 97, 3, 54, 0, 423, []), (.ifCond .ne 9, 3, 34, 0, 0, [])]
theorem ck_X11_meet_0 : mChk 104 0 bk_X11_meet_0 = true := by decide +kernel
def bk_X11_meet_28 : List mI := [(.aload_n 0, 1, 0, 0, 0, []), (.iconst 1, 1, 0, 0, 0, [(1, 0)]), (.invokevirtual 89, 3, 123, 0, 399, []), (.ireturn, 1, 0, 0, 0, [])]
theorem ck_X11_meet_28 : mChk 104 28 bk_X11_meet_28 = true := by decide +kernel
def bk_X11_meet_34 : List mI := [(.aload_n 0, 1, 0, 0, 0, []), (.getfield 31, 3, 11, 0, 361, []), (.getfield 79, 3, 10, 0, 250, []), (.iload_n 1, 1, 0, 0, 0, []), (.iload_n 2, 1, 0, 0, 0, []), (.invokevirtual 244, 3, 65, 0, 755, []), (.istore_n 3, 1, 0, 0, 0, []), (.iload_n 3, 1, 0, 0, 0, []), (.ifCond .ge 11, 3, 59, 0, 0, []), (.aload_n 0, 1, 0, 0, 0, []), (.iconst 2, 1, 0, 0, 0, [(2, 0)]), (.invokevirtual 89, 3, 123, 0, 399, []), (.goto 4, 3, 60, 0, 0, [])]
theorem ck_X11_meet_34 : mChk 104 34 bk_X11_meet_34 = true := by decide +kernel
def bk_X11_meet_59 : List mI := [(.iload_n 3, 1, 0, 0, 0, [])]
theorem ck_X11_meet_59 : mChk 104 59 bk_X11_meet_59 = true := by decide +kernel
def bk_X11_meet_60 : List mI := [(.ireturn, 1, 0, 0, 0, [])]
theorem ck_X11_meet_60 : mChk 104 60 bk_X11_meet_60 = true := by decide +kernel
def f_X11_meet (p0 : Int32) (p1 : Int32) (σ : Sg) : Option (Int32 × Sg) := ((f_X9_has 32 p0 σ).bind fun q1 => (if q1 = 0 then ((f_X11_error (1 : Int32) σ).bind fun q3 => (some (q3.1, q3.2))) else ((f_X9_has 32 p1 σ).bind fun q4 => (if q4 = 0 then ((f_X11_error (1 : Int32) σ).bind fun q9 => (some (q9.1, q9.2))) else ((f_X9_meetingDay 32 p0 p1 σ).bind fun q6 => (if 0 ≤ q6 then (some (q6, σ)) else ((f_X11_error (2 : Int32) σ).bind fun q8 => (some (q8.1, q8.2)))))))))
set_option maxHeartbeats 4000000 in
theorem ok_X11_meet {L : Nat} {p0 : Int32} {p1 : Int32} {σ : Sg} {R : Int32 × Sg} (h : f_X11_meet p0 p1 σ = some R) : mEv 3 104 [.ref 0, .int p0, .int p1] (mSh, L, σ) (some (.int R.1)) (mSh, L, R.2) := by
  refine mEv.of (by decide) rfl rfl ?_
  unfold f_X11_meet at h
  refine mAt.blk bk_X11_meet_0 ck_X11_meet_0 ?_
  refine q_aload_n rfl ?_
  refine q_getR ob_0 rfl rfl ?_
  refine q_getR ob_31 rfl rfl ?_
  refine q_iload_n rfl ?_
  obtain ⟨q1, e1, h⟩ := mbind h
  refine q_vI1 mcap_0 rfl rfl ob_32 rfl (by decide) (ok_X9_has p9_32 e1) ?_
  refine q_if_eq (fun c2 => ?_) (fun c2 => ?_)
  · rw [if_pos c2] at h
    refine mAt.blk bk_X11_meet_28 ck_X11_meet_28 ?_
    refine q_aload_n rfl ?_
    refine q_iconst ?_
    obtain ⟨q3, e3, h⟩ := mbind h
    refine q_vI1 mcap_0 rfl rfl ob_0 rfl (by decide) (ok_X11_error  e3) ?_
    have h := Option.some.inj h
    subst h
    exact q_iretI mcap_0 rfl rfl
  · rw [if_neg c2] at h
    refine q_aload_n rfl ?_
    refine q_getR ob_0 rfl rfl ?_
    refine q_getR ob_31 rfl rfl ?_
    refine q_iload_n rfl ?_
    obtain ⟨q4, e4, h⟩ := mbind h
    refine q_vI1 mcap_0 rfl rfl ob_32 rfl (by decide) (ok_X9_has p9_32 e4) ?_
    refine q_if_ne (fun c5 => ?_) (fun c5 => ?_)
    · rw [if_pos c5] at h
      refine mAt.blk bk_X11_meet_28 ck_X11_meet_28 ?_
      refine q_aload_n rfl ?_
      refine q_iconst ?_
      obtain ⟨q9, e9, h⟩ := mbind h
      refine q_vI1 mcap_0 rfl rfl ob_0 rfl (by decide) (ok_X11_error  e9) ?_
      have h := Option.some.inj h
      subst h
      exact q_iretI mcap_0 rfl rfl
    · rw [if_neg c5] at h
      refine mAt.blk bk_X11_meet_34 ck_X11_meet_34 ?_
      refine q_aload_n rfl ?_
      refine q_getR ob_0 rfl rfl ?_
      refine q_getR ob_31 rfl rfl ?_
      refine q_iload_n rfl ?_
      refine q_iload_n rfl ?_
      obtain ⟨q6, e6, h⟩ := mbind h
      refine q_vI2 mcap_0 rfl rfl ob_32 rfl (by decide) (ok_X9_meetingDay p9_32 e6) ?_
      refine q_istore_n rfl rfl ?_
      refine q_iload_n rfl ?_
      refine q_if_ge (fun c7 => ?_) (fun c7 => ?_)
      · rw [if_pos c7] at h
        refine mAt.blk bk_X11_meet_59 ck_X11_meet_59 ?_
        refine q_iload_n rfl ?_
        refine mAt.blk bk_X11_meet_60 ck_X11_meet_60 ?_
        have h := Option.some.inj h
        subst h
        exact q_iretI mcap_0 rfl rfl
      · rw [if_neg c7] at h
        refine q_aload_n rfl ?_
        refine q_iconst ?_
        obtain ⟨q8, e8, h⟩ := mbind h
        refine q_vI1 mcap_0 rfl rfl ob_0 rfl (by decide) (ok_X11_error  e8) ?_
        refine q_goto ?_
        refine mAt.blk bk_X11_meet_60 ck_X11_meet_60 ?_
        have h := Option.some.inj h
        subst h
        exact q_iretI mcap_0 rfl rfl
def bk_X11_tenth_0 : List mI := [(.aload_n 0, 1, 0, 0, 0, []), (.getfield 31, 3, 11, 0, 361, []), (.getfield 79, 3, 10, 0, 250, []), (.invokevirtual 247, 3, 66, 0, 764, []), (.istore_n 1, 1, 0, 0, 0, []), (.iload_n 1, 1, 0, 0, 0, []), (.ifCond .ge 11, 3, 23, 0, 0, []), (.aload_n 0, 1, 0, 0, 0, []), (.iconst 2, 1, 0, 0, 0, [(2, 0)]), (.invokevirtual 89, 3, 123, 0, 399, []), (.goto 4, 3, 24, 0, 0, [])]
theorem ck_X11_tenth_0 : mChk 105 0 bk_X11_tenth_0 = true := by decide +kernel
def bk_X11_tenth_23 : List mI := [(.iload_n 1, 1, 0, 0, 0, [])]
theorem ck_X11_tenth_23 : mChk 105 23 bk_X11_tenth_23 = true := by decide +kernel
def bk_X11_tenth_24 : List mI := [(.ireturn, 1, 0, 0, 0, [])]
theorem ck_X11_tenth_24 : mChk 105 24 bk_X11_tenth_24 = true := by decide +kernel
def f_X11_tenth (σ : Sg) : Option (Int32 × Sg) := ((f_X9_longestGoing 32 σ).bind fun q1 => (if 0 ≤ q1 then (some (q1, σ)) else ((f_X11_error (2 : Int32) σ).bind fun q3 => (some (q3.1, q3.2)))))
set_option maxHeartbeats 4000000 in
theorem ok_X11_tenth {L : Nat} {σ : Sg} {R : Int32 × Sg} (h : f_X11_tenth σ = some R) : mEv 3 105 [.ref 0] (mSh, L, σ) (some (.int R.1)) (mSh, L, R.2) := by
  refine mEv.of (by decide) rfl rfl ?_
  unfold f_X11_tenth at h
  refine mAt.blk bk_X11_tenth_0 ck_X11_tenth_0 ?_
  refine q_aload_n rfl ?_
  refine q_getR ob_0 rfl rfl ?_
  refine q_getR ob_31 rfl rfl ?_
  obtain ⟨q1, e1, h⟩ := mbind h
  refine q_vI0 mcap_0 rfl rfl ob_32 rfl (by decide) (ok_X9_longestGoing p9_32 e1) ?_
  refine q_istore_n rfl rfl ?_
  refine q_iload_n rfl ?_
  refine q_if_ge (fun c2 => ?_) (fun c2 => ?_)
  · rw [if_pos c2] at h
    refine mAt.blk bk_X11_tenth_23 ck_X11_tenth_23 ?_
    refine q_iload_n rfl ?_
    refine mAt.blk bk_X11_tenth_24 ck_X11_tenth_24 ?_
    have h := Option.some.inj h
    subst h
    exact q_iretI mcap_0 rfl rfl
  · rw [if_neg c2] at h
    refine q_aload_n rfl ?_
    refine q_iconst ?_
    obtain ⟨q3, e3, h⟩ := mbind h
    refine q_vI1 mcap_0 rfl rfl ob_0 rfl (by decide) (ok_X11_error  e3) ?_
    refine q_goto ?_
    refine mAt.blk bk_X11_tenth_24 ck_X11_tenth_24 ?_
    have h := Option.some.inj h
    subst h
    exact q_iretI mcap_0 rfl rfl
def bk_X11_find_0 : List mI := [(.aload_n 0, 1, 0, 0, 0, []), (.getfield 31, 3, 11, 0, 361, []), (.getfield 79, 3, 10, 0, 250, []), (.iload_n 1, 1, 0, 0, 0, []), (.invokevirtual 97, 3, 54, 0, 423, []), (.ifCond .eq 27, 3, 38, 0, 0, []), (.aload_n 0, 1, 0, 0, 0, []), (.getfield 31, 3, 11, 0, 361, []), (.getfield 79, 3, 10, 0, 250, []), (.iload_n 2, 1, 0, 0, 0, []), (.invokevirtual 97, 3, 54, 0, 423, []), (.ifCond .eq 13, 3, 38, 0, 0, []), (.iload_n 3, 1, 0, 0, 0, []), (.iconst 1, 1, 0, 0, 0, [(1, 0)]), (.bipush 99, 2, 0, 0, 0, [(99, 0)]), (.invokestatic 112, 3, 125, 0, 445, []), (.ifCond .ne 9, 3, 44, 0, 0, [])]
theorem ck_X11_find_0 : mChk 106 0 bk_X11_find_0 = true := by decide +kernel
def bk_X11_find_38 : List mI := [(.aload_n 0, 1, 0, 0, 0, []), (.iconst 1, 1, 0, 0, 0, [(1, 0)]), (.invokevirtual 89, 3, 123, 0, 399, []), (.ireturn, 1, 0, 0, 0, [])]
theorem ck_X11_find_38 : mChk 106 38 bk_X11_find_38 = true := by decide +kernel
def bk_X11_find_44 : List mI := [(.aload_n 0, 1, 0, 0, 0, []), (.getfield 10, 3, 11, 3, 364, []), (.getfield 250, 3, 1, 0, 150, []), (.getfield 254, 3, 2, 3, 100, []), (.bipush 12, 2, 0, 0, 0, [(12, 0)]), (.if_icmp .lt 9, 3, 65, 0, 0, []), (.aload_n 0, 1, 0, 0, 0, []), (.iconst 4, 1, 0, 0, 0, [(4, 0)]), (.invokevirtual 89, 3, 123, 0, 399, []), (.ireturn, 1, 0, 0, 0, [])]
theorem ck_X11_find_44 : mChk 106 44 bk_X11_find_44 = true := by decide +kernel
def bk_X11_find_65 : List mI := [(.aload_n 0, 1, 0, 0, 0, []), (.getfield 10, 3, 11, 3, 364, []), (.getfield 250, 3, 1, 0, 150, []), (.iload_n 1, 1, 0, 0, 0, []), (.iload_n 2, 1, 0, 0, 0, []), (.iload_n 3, 1, 0, 0, 0, []), (.invokevirtual 257, 3, 10, 0, 772, []), (.ireturn, 1, 0, 0, 0, [])]
theorem ck_X11_find_65 : mChk 106 65 bk_X11_find_65 = true := by decide +kernel
def f_X11_find (p0 : Int32) (p1 : Int32) (p2 : Int32) (σ : Sg) : Option (Int32 × Sg) := ((f_X9_has 32 p0 σ).bind fun q1 => (if q1 = 0 then ((f_X11_error (1 : Int32) σ).bind fun q3 => (some (q3.1, q3.2))) else ((f_X9_has 32 p1 σ).bind fun q4 => (if q4 = 0 then ((f_X11_error (1 : Int32) σ).bind fun q6 => (some (q6.1, q6.2))) else ((f_X11_within p2 (1 : Int32) (99 : Int32) σ).bind fun q7 => (if q7 = 0 then ((f_X11_error (1 : Int32) σ).bind fun q12 => (some (q12.1, q12.2))) else (if (σ 2 3) < (12 : Int32) then ((f_X2_append 2 p0 p1 p2 σ).bind fun q10 => (some (q10.1, q10.2))) else ((f_X11_error (4 : Int32) σ).bind fun q11 => (some (q11.1, q11.2))))))))))
set_option maxHeartbeats 4000000 in
theorem ok_X11_find {L : Nat} {p0 : Int32} {p1 : Int32} {p2 : Int32} {σ : Sg} {R : Int32 × Sg} (h : f_X11_find p0 p1 p2 σ = some R) : mEv 2 106 [.ref 0, .int p0, .int p1, .int p2] (mSh, L, σ) (some (.int R.1)) (mSh, L, R.2) := by
  refine mEv.of (by decide) rfl rfl ?_
  unfold f_X11_find at h
  refine mAt.blk bk_X11_find_0 ck_X11_find_0 ?_
  refine q_aload_n rfl ?_
  refine q_getR ob_0 rfl rfl ?_
  refine q_getR ob_31 rfl rfl ?_
  refine q_iload_n rfl ?_
  obtain ⟨q1, e1, h⟩ := mbind h
  refine q_vI1 mcap_0 rfl rfl ob_32 rfl (by decide) (ok_X9_has p9_32 e1) ?_
  refine q_if_eq (fun c2 => ?_) (fun c2 => ?_)
  · rw [if_pos c2] at h
    refine mAt.blk bk_X11_find_38 ck_X11_find_38 ?_
    refine q_aload_n rfl ?_
    refine q_iconst ?_
    obtain ⟨q3, e3, h⟩ := mbind h
    refine q_vI1 mcap_0 rfl rfl ob_0 rfl (by decide) (ok_X11_error  e3) ?_
    have h := Option.some.inj h
    subst h
    exact q_iretI mcap_0 rfl rfl
  · rw [if_neg c2] at h
    refine q_aload_n rfl ?_
    refine q_getR ob_0 rfl rfl ?_
    refine q_getR ob_31 rfl rfl ?_
    refine q_iload_n rfl ?_
    obtain ⟨q4, e4, h⟩ := mbind h
    refine q_vI1 mcap_0 rfl rfl ob_32 rfl (by decide) (ok_X9_has p9_32 e4) ?_
    refine q_if_eq (fun c5 => ?_) (fun c5 => ?_)
    · rw [if_pos c5] at h
      refine mAt.blk bk_X11_find_38 ck_X11_find_38 ?_
      refine q_aload_n rfl ?_
      refine q_iconst ?_
      obtain ⟨q6, e6, h⟩ := mbind h
      refine q_vI1 mcap_0 rfl rfl ob_0 rfl (by decide) (ok_X11_error  e6) ?_
      have h := Option.some.inj h
      subst h
      exact q_iretI mcap_0 rfl rfl
    · rw [if_neg c5] at h
      refine q_iload_n rfl ?_
      refine q_iconst ?_
      refine q_bipush ?_
      obtain ⟨q7, e7, h⟩ := mbind h
      refine q_sI3 mcap_0 rfl rfl rfl rfl (by decide) (ok_X11_within  e7) ?_
      refine q_if_ne (fun c8 => ?_) (fun c8 => ?_)
      · rw [if_pos c8] at h
        refine mAt.blk bk_X11_find_38 ck_X11_find_38 ?_
        refine q_aload_n rfl ?_
        refine q_iconst ?_
        obtain ⟨q12, e12, h⟩ := mbind h
        refine q_vI1 mcap_0 rfl rfl ob_0 rfl (by decide) (ok_X11_error  e12) ?_
        have h := Option.some.inj h
        subst h
        exact q_iretI mcap_0 rfl rfl
      · rw [if_neg c8] at h
        refine mAt.blk bk_X11_find_44 ck_X11_find_44 ?_
        refine q_aload_n rfl ?_
        refine q_getR ob_0 rfl rfl ?_
        refine q_getR ob_1 rfl rfl ?_
        refine q_getI ob_2 rfl ?_
        refine q_bipush ?_
        refine q_ic_lt (fun c9 => ?_) (fun c9 => ?_)
        · rw [if_pos c9] at h
          refine mAt.blk bk_X11_find_65 ck_X11_find_65 ?_
          refine q_aload_n rfl ?_
          refine q_getR ob_0 rfl rfl ?_
          refine q_getR ob_1 rfl rfl ?_
          refine q_iload_n rfl ?_
          refine q_iload_n rfl ?_
          refine q_iload_n rfl ?_
          obtain ⟨q10, e10, h⟩ := mbind h
          refine q_vI3 mcap_0 rfl rfl ob_2 rfl (by decide) (ok_X2_append p2_2 e10) ?_
          have h := Option.some.inj h
          subst h
          exact q_iretI mcap_0 rfl rfl
        · rw [if_neg c9] at h
          refine q_aload_n rfl ?_
          refine q_iconst ?_
          obtain ⟨q11, e11, h⟩ := mbind h
          refine q_vI1 mcap_0 rfl rfl ob_0 rfl (by decide) (ok_X11_error  e11) ?_
          have h := Option.some.inj h
          subst h
          exact q_iretI mcap_0 rfl rfl
def bk_X11_forget_0 : List mI := [(.aload_n 0, 1, 0, 0, 0, []), (.getfield 10, 3, 11, 3, 364, []), (.getfield 250, 3, 1, 0, 150, []), (.getfield 254, 3, 2, 3, 100, []), (.istore_n 1, 1, 0, 0, 0, []), (.aload_n 0, 1, 0, 0, 0, []), (.getfield 10, 3, 11, 3, 364, []), (.getfield 250, 3, 1, 0, 150, []), (.iconst 0, 1, 0, 0, 0, [(0, 0)]), (.putfield 254, 3, 2, 3, 100, []), (.iload_n 1, 1, 0, 0, 0, []), (.ireturn, 1, 0, 0, 0, [])]
theorem ck_X11_forget_0 : mChk 107 0 bk_X11_forget_0 = true := by decide +kernel
def f_X11_forget (σ : Sg) : Option (Int32 × Sg) := (some ((σ 2 3), (mup σ 2 3 (0 : Int32))))
set_option maxHeartbeats 4000000 in
theorem ok_X11_forget {L : Nat} {σ : Sg} {R : Int32 × Sg} (h : f_X11_forget σ = some R) : mEv 0 107 [.ref 0] (mSh, L, σ) (some (.int R.1)) (mSh, L, R.2) := by
  refine mEv.of (by decide) rfl rfl ?_
  unfold f_X11_forget at h
  refine mAt.blk bk_X11_forget_0 ck_X11_forget_0 ?_
  refine q_aload_n rfl ?_
  refine q_getR ob_0 rfl rfl ?_
  refine q_getR ob_1 rfl rfl ?_
  refine q_getI ob_2 rfl ?_
  refine q_istore_n rfl rfl ?_
  refine q_aload_n rfl ?_
  refine q_getR ob_0 rfl rfl ?_
  refine q_getR ob_1 rfl rfl ?_
  refine q_iconst ?_
  refine q_putI ob_2 rfl ?_
  refine q_iload_n rfl ?_
  have h := Option.some.inj h
  subst h
  exact q_iretI mcap_0 rfl rfl
def bk_X11_agrees_0 : List mI := [(.iload_n 1, 1, 0, 0, 0, []), (.ifCond .lt 17, 3, 18, 0, 0, []), (.iload_n 1, 1, 0, 0, 0, []), (.aload_n 0, 1, 0, 0, 0, []), (.getfield 10, 3, 11, 3, 364, []), (.getfield 250, 3, 1, 0, 150, []), (.getfield 254, 3, 2, 3, 100, []), (.if_icmp .lt 9, 3, 24, 0, 0, [])]
theorem ck_X11_agrees_0 : mChk 108 0 bk_X11_agrees_0 = true := by decide +kernel
def bk_X11_agrees_18 : List mI := [(.aload_n 0, 1, 0, 0, 0, []), (.iconst 1, 1, 0, 0, 0, [(1, 0)]), (.invokevirtual 89, 3, 123, 0, 399, []), (.ireturn, 1, 0, 0, 0, [])]
theorem ck_X11_agrees_18 : mChk 108 18 bk_X11_agrees_18 = true := by decide +kernel
def bk_X11_agrees_24 : List mI := [(.aload_n 0, 1, 0, 0, 0, []), (.getfield 10, 3, 11, 3, 364, []), (.getfield 250, 3, 1, 0, 150, []), (.iload_n 1, 1, 0, 0, 0, []), (.aload_n 0, 1, 0, 0, 0, []), (.getfield 31, 3, 11, 0, 361, []), (.getfield 79, 3, 10, 0, 250, []), (.invokevirtual 260, 3, 11, 0, 785, []), (.ifCond .eq 7, 3, 49, 0, 0, []), (.iconst 1, 1, 0, 0, 0, [(1, 0)]), (.goto 4, 3, 50, 0, 0, [])]
theorem ck_X11_agrees_24 : mChk 108 24 bk_X11_agrees_24 = true := by decide +kernel
def bk_X11_agrees_49 : List mI := [(.iconst 0, 1, 0, 0, 0, [(0, 0)])]
theorem ck_X11_agrees_49 : mChk 108 49 bk_X11_agrees_49 = true := by decide +kernel
def bk_X11_agrees_50 : List mI := [(.ireturn, 1, 0, 0, 0, [])]
theorem ck_X11_agrees_50 : mChk 108 50 bk_X11_agrees_50 = true := by decide +kernel
def f_X11_agrees (p0 : Int32) (σ : Sg) : Option (Int32 × Sg) := (if p0 < 0 then ((f_X11_error (1 : Int32) σ).bind fun q2 => (some (q2.1, q2.2))) else (if p0 < (σ 2 3) then ((f_X2_isSo 2 32 p0 σ).bind fun q4 => (if q4 = 0 then (some ((0 : Int32), σ)) else (some ((1 : Int32), σ)))) else ((f_X11_error (1 : Int32) σ).bind fun q6 => (some (q6.1, q6.2)))))
set_option maxHeartbeats 4000000 in
theorem ok_X11_agrees {L : Nat} {p0 : Int32} {σ : Sg} {R : Int32 × Sg} (h : f_X11_agrees p0 σ = some R) : mEv 4 108 [.ref 0, .int p0] (mSh, L, σ) (some (.int R.1)) (mSh, L, R.2) := by
  refine mEv.of (by decide) rfl rfl ?_
  unfold f_X11_agrees at h
  refine mAt.blk bk_X11_agrees_0 ck_X11_agrees_0 ?_
  refine q_iload_n rfl ?_
  refine q_if_lt (fun c1 => ?_) (fun c1 => ?_)
  · rw [if_pos c1] at h
    refine mAt.blk bk_X11_agrees_18 ck_X11_agrees_18 ?_
    refine q_aload_n rfl ?_
    refine q_iconst ?_
    obtain ⟨q2, e2, h⟩ := mbind h
    refine q_vI1 mcap_0 rfl rfl ob_0 rfl (by decide) (ok_X11_error  e2) ?_
    have h := Option.some.inj h
    subst h
    exact q_iretI mcap_0 rfl rfl
  · rw [if_neg c1] at h
    refine q_iload_n rfl ?_
    refine q_aload_n rfl ?_
    refine q_getR ob_0 rfl rfl ?_
    refine q_getR ob_1 rfl rfl ?_
    refine q_getI ob_2 rfl ?_
    refine q_ic_lt (fun c3 => ?_) (fun c3 => ?_)
    · rw [if_pos c3] at h
      refine mAt.blk bk_X11_agrees_24 ck_X11_agrees_24 ?_
      refine q_aload_n rfl ?_
      refine q_getR ob_0 rfl rfl ?_
      refine q_getR ob_1 rfl rfl ?_
      refine q_iload_n rfl ?_
      refine q_aload_n rfl ?_
      refine q_getR ob_0 rfl rfl ?_
      refine q_getR ob_31 rfl rfl ?_
      obtain ⟨q4, e4, h⟩ := mbind h
      refine q_vI2 mcap_0 rfl rfl ob_2 rfl (by decide) (ok_X2_isSo p2_2 p9_32 e4) ?_
      refine q_if_eq (fun c5 => ?_) (fun c5 => ?_)
      · rw [if_pos c5] at h
        refine mAt.blk bk_X11_agrees_49 ck_X11_agrees_49 ?_
        refine q_iconst ?_
        refine mAt.blk bk_X11_agrees_50 ck_X11_agrees_50 ?_
        have h := Option.some.inj h
        subst h
        exact q_iretI mcap_0 rfl rfl
      · rw [if_neg c5] at h
        refine q_iconst ?_
        refine q_goto ?_
        refine mAt.blk bk_X11_agrees_50 ck_X11_agrees_50 ?_
        have h := Option.some.inj h
        subst h
        exact q_iretI mcap_0 rfl rfl
    · rw [if_neg c3] at h
      refine mAt.blk bk_X11_agrees_18 ck_X11_agrees_18 ?_
      refine q_aload_n rfl ?_
      refine q_iconst ?_
      obtain ⟨q6, e6, h⟩ := mbind h
      refine q_vI1 mcap_0 rfl rfl ob_0 rfl (by decide) (ok_X11_error  e6) ?_
      have h := Option.some.inj h
      subst h
      exact q_iretI mcap_0 rfl rfl
def bk_X11_belows_0 : List mI := [(.aload_n 0, 1, 0, 0, 0, []), (.getfield 31, 3, 11, 0, 361, []), (.getfield 79, 3, 10, 0, 250, []), (.iload_n 1, 1, 0, 0, 0, []), (.invokevirtual 97, 3, 54, 0, 423, []), (.ifCond .eq 21, 3, 32, 0, 0, []), (.iload_n 2, 1, 0, 0, 0, []), (.iconst 1, 1, 0, 0, 0, [(1, 0)]), (.iconst 5, 1, 0, 0, 0, [(5, 0)]), (.invokestatic 112, 3, 125, 0, 445, []), (.ifCond .eq 12, 3, 32, 0, 0, []), (.iload_n 3, 1, 0, 0, 0, []), (.iconst 0, 1, 0, 0, 0, [(0, 0)]), (.iconst 2, 1, 0, 0, 0, [(2, 0)]), (.invokestatic 112, 3, 125, 0, 445, []), (.ifCond .ne 9, 3, 38, 0, 0, [])]
theorem ck_X11_belows_0 : mChk 109 0 bk_X11_belows_0 = true := by decide +kernel
def bk_X11_belows_32 : List mI := [(.aload_n 0, 1, 0, 0, 0, []), (.iconst 1, 1, 0, 0, 0, [(1, 0)]), (.invokevirtual 89, 3, 123, 0, 399, []), (.ireturn, 1, 0, 0, 0, [])]
theorem ck_X11_belows_32 : mChk 109 32 bk_X11_belows_32 = true := by decide +kernel
def bk_X11_belows_38 : List mI := [(.aload_n 0, 1, 0, 0, 0, []), (.getfield 57, 3, 11, 6, 367, []), (.aload_n 0, 1, 0, 0, 0, []), (.getfield 31, 3, 11, 0, 361, []), (.getfield 79, 3, 10, 0, 250, []), (.aload_n 0, 1, 0, 0, 0, []), (.getfield 10, 3, 11, 3, 364, []), (.getfield 250, 3, 1, 0, 150, []), (.iload_n 1, 1, 0, 0, 0, []), (.iload_n 2, 1, 0, 0, 0, []), (.iconst 0, 1, 0, 0, 0, [(0, 0)]), (.invokevirtual 264, 3, 1, 0, 798, []), (.iload_n 3, 1, 0, 0, 0, []), (.lookupswitch 41 #[(0, 25), (1, 33)], 25, 104, 0, 0, [(0, 88), (1, 96)])]
theorem ck_X11_belows_38 : mChk 109 38 bk_X11_belows_38 = true := by decide +kernel
def bk_X11_belows_88 : List mI := [(.aload_n 0, 1, 0, 0, 0, []), (.getfield 57, 3, 11, 6, 367, []), (.getfield 268, 3, 0, 2, 301, []), (.ireturn, 1, 0, 0, 0, [])]
theorem ck_X11_belows_88 : mChk 109 88 bk_X11_belows_88 = true := by decide +kernel
def bk_X11_belows_96 : List mI := [(.aload_n 0, 1, 0, 0, 0, []), (.getfield 57, 3, 11, 6, 367, []), (.getfield 271, 3, 0, 3, 303, []), (.ireturn, 1, 0, 0, 0, [])]
theorem ck_X11_belows_96 : mChk 109 96 bk_X11_belows_96 = true := by decide +kernel
def bk_X11_belows_104 : List mI := [(.aload_n 0, 1, 0, 0, 0, []), (.getfield 57, 3, 11, 6, 367, []), (.getfield 274, 3, 0, 4, 305, []), (.invokestatic 277, 3, 228, 0, 816, []), (.iconst 1, 1, 0, 0, 0, [(1, 0)]), (.if_icmp .gt 7, 3, 122, 0, 0, []), (.iconst 1, 1, 0, 0, 0, [(1, 0)]), (.goto 4, 3, 123, 0, 0, [])]
theorem ck_X11_belows_104 : mChk 109 104 bk_X11_belows_104 = true := by decide +kernel
def bk_X11_belows_122 : List mI := [(.iconst 0, 1, 0, 0, 0, [(0, 0)])]
theorem ck_X11_belows_122 : mChk 109 122 bk_X11_belows_122 = true := by decide +kernel
def bk_X11_belows_123 : List mI := [(.ireturn, 1, 0, 0, 0, [])]
theorem ck_X11_belows_123 : mChk 109 123 bk_X11_belows_123 = true := by decide +kernel
def f_X11_belows (p0 : Int32) (p1 : Int32) (p2 : Int32) (σ : Sg) : Option (Int32 × Sg) := ((f_X9_has 32 p0 σ).bind fun q1 => (if q1 = 0 then ((f_X11_error (1 : Int32) σ).bind fun q3 => (some (q3.1, q3.2))) else ((f_X11_within p1 (1 : Int32) (5 : Int32) σ).bind fun q4 => (if q4 = 0 then ((f_X11_error (1 : Int32) σ).bind fun q6 => (some (q6.1, q6.2))) else ((f_X11_within p2 (0 : Int32) (2 : Int32) σ).bind fun q7 => (if q7 = 0 then ((f_X11_error (1 : Int32) σ).bind fun q14 => (some (q14.1, q14.2))) else ((f_X0_search 32 2 p0 p1 (0 : Int32) σ).bind fun q9 => (if p2 = (0 : Int32) then (some ((q9 74 2), q9)) else (if p2 = (1 : Int32) then (some ((q9 74 3), q9)) else ((f_J6_bitCount_0f7a4 (q9 74 4) q9).bind fun q10 => (if (1 : Int32) < q10 then (some ((0 : Int32), q9)) else (some ((1 : Int32), q9)))))))))))))
set_option maxHeartbeats 4000000 in
theorem ok_X11_belows {L : Nat} {p0 : Int32} {p1 : Int32} {p2 : Int32} {σ : Sg} {R : Int32 × Sg} (h : f_X11_belows p0 p1 p2 σ = some R) : mEv 6 109 [.ref 0, .int p0, .int p1, .int p2] (mSh, L, σ) (some (.int R.1)) (mSh, L, R.2) := by
  refine mEv.of (by decide) rfl rfl ?_
  unfold f_X11_belows at h
  refine mAt.blk bk_X11_belows_0 ck_X11_belows_0 ?_
  refine q_aload_n rfl ?_
  refine q_getR ob_0 rfl rfl ?_
  refine q_getR ob_31 rfl rfl ?_
  refine q_iload_n rfl ?_
  obtain ⟨q1, e1, h⟩ := mbind h
  refine q_vI1 mcap_0 rfl rfl ob_32 rfl (by decide) (ok_X9_has p9_32 e1) ?_
  refine q_if_eq (fun c2 => ?_) (fun c2 => ?_)
  · rw [if_pos c2] at h
    refine mAt.blk bk_X11_belows_32 ck_X11_belows_32 ?_
    refine q_aload_n rfl ?_
    refine q_iconst ?_
    obtain ⟨q3, e3, h⟩ := mbind h
    refine q_vI1 mcap_0 rfl rfl ob_0 rfl (by decide) (ok_X11_error  e3) ?_
    have h := Option.some.inj h
    subst h
    exact q_iretI mcap_0 rfl rfl
  · rw [if_neg c2] at h
    refine q_iload_n rfl ?_
    refine q_iconst ?_
    refine q_iconst ?_
    obtain ⟨q4, e4, h⟩ := mbind h
    refine q_sI3 mcap_0 rfl rfl rfl rfl (by decide) (ok_X11_within  e4) ?_
    refine q_if_eq (fun c5 => ?_) (fun c5 => ?_)
    · rw [if_pos c5] at h
      refine mAt.blk bk_X11_belows_32 ck_X11_belows_32 ?_
      refine q_aload_n rfl ?_
      refine q_iconst ?_
      obtain ⟨q6, e6, h⟩ := mbind h
      refine q_vI1 mcap_0 rfl rfl ob_0 rfl (by decide) (ok_X11_error  e6) ?_
      have h := Option.some.inj h
      subst h
      exact q_iretI mcap_0 rfl rfl
    · rw [if_neg c5] at h
      refine q_iload_n rfl ?_
      refine q_iconst ?_
      refine q_iconst ?_
      obtain ⟨q7, e7, h⟩ := mbind h
      refine q_sI3 mcap_0 rfl rfl rfl rfl (by decide) (ok_X11_within  e7) ?_
      refine q_if_ne (fun c8 => ?_) (fun c8 => ?_)
      · rw [if_pos c8] at h
        refine mAt.blk bk_X11_belows_32 ck_X11_belows_32 ?_
        refine q_aload_n rfl ?_
        refine q_iconst ?_
        obtain ⟨q14, e14, h⟩ := mbind h
        refine q_vI1 mcap_0 rfl rfl ob_0 rfl (by decide) (ok_X11_error  e14) ?_
        have h := Option.some.inj h
        subst h
        exact q_iretI mcap_0 rfl rfl
      · rw [if_neg c8] at h
        refine mAt.blk bk_X11_belows_38 ck_X11_belows_38 ?_
        refine q_aload_n rfl ?_
        refine q_getR ob_0 rfl rfl ?_
        refine q_aload_n rfl ?_
        refine q_getR ob_0 rfl rfl ?_
        refine q_getR ob_31 rfl rfl ?_
        refine q_aload_n rfl ?_
        refine q_getR ob_0 rfl rfl ?_
        refine q_getR ob_1 rfl rfl ?_
        refine q_iload_n rfl ?_
        refine q_iload_n rfl ?_
        refine q_iconst ?_
        obtain ⟨q9, e9, h⟩ := mbind h
        refine q_vV5 mcap_0 rfl rfl ob_74 rfl (by decide) (ok_X0_search p9_32 p2_2 e9) ?_
        refine q_iload_n rfl ?_
        refine q_lsw ?_
        refine ⟨fun c13 => ?_, fun c13 => ?_⟩
        · rw [if_pos c13] at h
          refine mAt.blk bk_X11_belows_88 ck_X11_belows_88 ?_
          refine q_aload_n rfl ?_
          refine q_getR ob_0 rfl rfl ?_
          refine q_getI ob_74 rfl ?_
          have h := Option.some.inj h
          subst h
          exact q_iretI mcap_0 rfl rfl
        · rw [if_neg c13] at h
          refine ⟨fun c12 => ?_, fun c12 => ?_⟩
          · rw [if_pos c12] at h
            refine mAt.blk bk_X11_belows_96 ck_X11_belows_96 ?_
            refine q_aload_n rfl ?_
            refine q_getR ob_0 rfl rfl ?_
            refine q_getI ob_74 rfl ?_
            have h := Option.some.inj h
            subst h
            exact q_iretI mcap_0 rfl rfl
          · rw [if_neg c12] at h
            refine mAt.blk bk_X11_belows_104 ck_X11_belows_104 ?_
            refine q_aload_n rfl ?_
            refine q_getR ob_0 rfl rfl ?_
            refine q_getI ob_74 rfl ?_
            obtain ⟨q10, e10, h⟩ := mbind h
            refine q_sI1 mcap_0 rfl rfl rfl rfl (by decide) (ok_J6_bitCount_0f7a4  e10) ?_
            refine q_iconst ?_
            refine q_ic_gt (fun c11 => ?_) (fun c11 => ?_)
            · rw [if_pos c11] at h
              refine mAt.blk bk_X11_belows_122 ck_X11_belows_122 ?_
              refine q_iconst ?_
              refine mAt.blk bk_X11_belows_123 ck_X11_belows_123 ?_
              have h := Option.some.inj h
              subst h
              exact q_iretI mcap_0 rfl rfl
            · rw [if_neg c11] at h
              refine q_iconst ?_
              refine q_goto ?_
              refine mAt.blk bk_X11_belows_123 ck_X11_belows_123 ?_
              have h := Option.some.inj h
              subst h
              exact q_iretI mcap_0 rfl rfl
def bk_X11_cork_0 : List mI := [(.aload_n 0, 1, 0, 0, 0, []), (.getfield 31, 3, 11, 0, 361, []), (.getfield 79, 3, 10, 0, 250, []), (.iload_n 1, 1, 0, 0, 0, []), (.invokevirtual 97, 3, 54, 0, 423, []), (.ifCond .eq 12, 3, 23, 0, 0, []), (.iload_n 2, 1, 0, 0, 0, []), (.iconst 1, 1, 0, 0, 0, [(1, 0)]), (.iconst 5, 1, 0, 0, 0, [(5, 0)]), (.invokestatic 112, 3, 125, 0, 445, []), (.ifCond .ne 9, 3, 29, 0, 0, [])]
theorem ck_X11_cork_0 : mChk 110 0 bk_X11_cork_0 = true := by decide +kernel
def bk_X11_cork_23 : List mI := [(.aload_n 0, 1, 0, 0, 0, []), (.iconst 1, 1, 0, 0, 0, [(1, 0)]), (.invokevirtual 89, 3, 123, 0, 399, []), (.ireturn, 1, 0, 0, 0, [])]
theorem ck_X11_cork_23 : mChk 110 23 bk_X11_cork_23 = true := by decide +kernel
def bk_X11_cork_29 : List mI := [(.iload_n 3, 1, 0, 0, 0, []), (.iconst 1, 1, 0, 0, 0, [(1, 0)]), (.bipush 99, 2, 0, 0, 0, [(99, 0)]), (.invokestatic 112, 3, 125, 0, 445, []), (.ifCond .eq 13, 3, 49, 0, 0, []), (.iload 4, 2, 0, 0, 0, []), (.iconst 0, 1, 0, 0, 0, [(0, 0)]), (.iconst 1, 1, 0, 0, 0, [(1, 0)]), (.invokestatic 112, 3, 125, 0, 445, []), (.ifCond .ne 9, 3, 55, 0, 0, [])]
theorem ck_X11_cork_29 : mChk 110 29 bk_X11_cork_29 = true := by decide +kernel
def bk_X11_cork_49 : List mI := [(.aload_n 0, 1, 0, 0, 0, []), (.iconst 1, 1, 0, 0, 0, [(1, 0)]), (.invokevirtual 89, 3, 123, 0, 399, []), (.ireturn, 1, 0, 0, 0, [])]
theorem ck_X11_cork_49 : mChk 110 49 bk_X11_cork_49 = true := by decide +kernel
def bk_X11_cork_55 : List mI := [(.aload_n 0, 1, 0, 0, 0, []), (.getfield 57, 3, 11, 6, 367, []), (.aload_n 0, 1, 0, 0, 0, []), (.getfield 31, 3, 11, 0, 361, []), (.getfield 79, 3, 10, 0, 250, []), (.aload_n 0, 1, 0, 0, 0, []), (.getfield 10, 3, 11, 3, 364, []), (.getfield 250, 3, 1, 0, 150, []), (.iload_n 1, 1, 0, 0, 0, []), (.iload_n 2, 1, 0, 0, 0, []), (.iload_n 3, 1, 0, 0, 0, []), (.invokevirtual 264, 3, 1, 0, 798, []), (.aload_n 0, 1, 0, 0, 0, []), (.getfield 57, 3, 11, 6, 367, []), (.aload_n 0, 1, 0, 0, 0, []), (.getfield 31, 3, 11, 0, 361, []), (.getfield 79, 3, 10, 0, 250, []), (.getfield 83, 3, 9, 4, 194, []), (.invokevirtual 282, 3, 4, 0, 821, []), (.istore 5, 2, 0, 0, 0, []), (.iload 4, 2, 0, 0, 0, []), (.ifCond .ne 8, 3, 108, 0, 0, []), (.iload 5, 2, 0, 0, 0, []), (.goto 12, 3, 117, 0, 0, [])]
theorem ck_X11_cork_55 : mChk 110 55 bk_X11_cork_55 = true := by decide +kernel
def bk_X11_cork_108 : List mI := [(.aload_n 0, 1, 0, 0, 0, []), (.getfield 57, 3, 11, 6, 367, []), (.iload 5, 2, 0, 0, 0, []), (.invokevirtual 285, 3, 3, 0, 830, [])]
theorem ck_X11_cork_108 : mChk 110 108 bk_X11_cork_108 = true := by decide +kernel
def bk_X11_cork_117 : List mI := [(.ireturn, 1, 0, 0, 0, [])]
theorem ck_X11_cork_117 : mChk 110 117 bk_X11_cork_117 = true := by decide +kernel
def f_X11_cork (p0 : Int32) (p1 : Int32) (p2 : Int32) (p3 : Int32) (σ : Sg) : Option (Int32 × Sg) := ((f_X9_has 32 p0 σ).bind fun q1 => (if q1 = 0 then ((f_X11_error (1 : Int32) σ).bind fun q3 => (some (q3.1, q3.2))) else ((f_X11_within p1 (1 : Int32) (5 : Int32) σ).bind fun q4 => (if q4 = 0 then ((f_X11_error (1 : Int32) σ).bind fun q16 => (some (q16.1, q16.2))) else ((f_X11_within p2 (1 : Int32) (99 : Int32) σ).bind fun q6 => (if q6 = 0 then ((f_X11_error (1 : Int32) σ).bind fun q8 => (some (q8.1, q8.2))) else ((f_X11_within p3 (0 : Int32) (1 : Int32) σ).bind fun q9 => (if q9 = 0 then ((f_X11_error (1 : Int32) σ).bind fun q15 => (some (q15.1, q15.2))) else ((f_X0_search 32 2 p0 p1 p2 σ).bind fun q11 => ((f_X0_bestStart (q11 32 4) q11).bind fun q12 => (if p3 = 0 then (some (q12, q11)) else ((f_X0_howManyPlaces q12 q11).bind fun q14 => (some (q14, q11))))))))))))))
set_option maxHeartbeats 4000000 in
theorem ok_X11_cork {L : Nat} {p0 : Int32} {p1 : Int32} {p2 : Int32} {p3 : Int32} {σ : Sg} {R : Int32 × Sg} (h : f_X11_cork p0 p1 p2 p3 σ = some R) : mEv 6 110 [.ref 0, .int p0, .int p1, .int p2, .int p3] (mSh, L, σ) (some (.int R.1)) (mSh, L, R.2) := by
  refine mEv.of (by decide) rfl rfl ?_
  unfold f_X11_cork at h
  refine mAt.blk bk_X11_cork_0 ck_X11_cork_0 ?_
  refine q_aload_n rfl ?_
  refine q_getR ob_0 rfl rfl ?_
  refine q_getR ob_31 rfl rfl ?_
  refine q_iload_n rfl ?_
  obtain ⟨q1, e1, h⟩ := mbind h
  refine q_vI1 mcap_0 rfl rfl ob_32 rfl (by decide) (ok_X9_has p9_32 e1) ?_
  refine q_if_eq (fun c2 => ?_) (fun c2 => ?_)
  · rw [if_pos c2] at h
    refine mAt.blk bk_X11_cork_23 ck_X11_cork_23 ?_
    refine q_aload_n rfl ?_
    refine q_iconst ?_
    obtain ⟨q3, e3, h⟩ := mbind h
    refine q_vI1 mcap_0 rfl rfl ob_0 rfl (by decide) (ok_X11_error  e3) ?_
    have h := Option.some.inj h
    subst h
    exact q_iretI mcap_0 rfl rfl
  · rw [if_neg c2] at h
    refine q_iload_n rfl ?_
    refine q_iconst ?_
    refine q_iconst ?_
    obtain ⟨q4, e4, h⟩ := mbind h
    refine q_sI3 mcap_0 rfl rfl rfl rfl (by decide) (ok_X11_within  e4) ?_
    refine q_if_ne (fun c5 => ?_) (fun c5 => ?_)
    · rw [if_pos c5] at h
      refine mAt.blk bk_X11_cork_23 ck_X11_cork_23 ?_
      refine q_aload_n rfl ?_
      refine q_iconst ?_
      obtain ⟨q16, e16, h⟩ := mbind h
      refine q_vI1 mcap_0 rfl rfl ob_0 rfl (by decide) (ok_X11_error  e16) ?_
      have h := Option.some.inj h
      subst h
      exact q_iretI mcap_0 rfl rfl
    · rw [if_neg c5] at h
      refine mAt.blk bk_X11_cork_29 ck_X11_cork_29 ?_
      refine q_iload_n rfl ?_
      refine q_iconst ?_
      refine q_bipush ?_
      obtain ⟨q6, e6, h⟩ := mbind h
      refine q_sI3 mcap_0 rfl rfl rfl rfl (by decide) (ok_X11_within  e6) ?_
      refine q_if_eq (fun c7 => ?_) (fun c7 => ?_)
      · rw [if_pos c7] at h
        refine mAt.blk bk_X11_cork_49 ck_X11_cork_49 ?_
        refine q_aload_n rfl ?_
        refine q_iconst ?_
        obtain ⟨q8, e8, h⟩ := mbind h
        refine q_vI1 mcap_0 rfl rfl ob_0 rfl (by decide) (ok_X11_error  e8) ?_
        have h := Option.some.inj h
        subst h
        exact q_iretI mcap_0 rfl rfl
      · rw [if_neg c7] at h
        refine q_iload rfl ?_
        refine q_iconst ?_
        refine q_iconst ?_
        obtain ⟨q9, e9, h⟩ := mbind h
        refine q_sI3 mcap_0 rfl rfl rfl rfl (by decide) (ok_X11_within  e9) ?_
        refine q_if_ne (fun c10 => ?_) (fun c10 => ?_)
        · rw [if_pos c10] at h
          refine mAt.blk bk_X11_cork_49 ck_X11_cork_49 ?_
          refine q_aload_n rfl ?_
          refine q_iconst ?_
          obtain ⟨q15, e15, h⟩ := mbind h
          refine q_vI1 mcap_0 rfl rfl ob_0 rfl (by decide) (ok_X11_error  e15) ?_
          have h := Option.some.inj h
          subst h
          exact q_iretI mcap_0 rfl rfl
        · rw [if_neg c10] at h
          refine mAt.blk bk_X11_cork_55 ck_X11_cork_55 ?_
          refine q_aload_n rfl ?_
          refine q_getR ob_0 rfl rfl ?_
          refine q_aload_n rfl ?_
          refine q_getR ob_0 rfl rfl ?_
          refine q_getR ob_31 rfl rfl ?_
          refine q_aload_n rfl ?_
          refine q_getR ob_0 rfl rfl ?_
          refine q_getR ob_1 rfl rfl ?_
          refine q_iload_n rfl ?_
          refine q_iload_n rfl ?_
          refine q_iload_n rfl ?_
          obtain ⟨q11, e11, h⟩ := mbind h
          refine q_vV5 mcap_0 rfl rfl ob_74 rfl (by decide) (ok_X0_search p9_32 p2_2 e11) ?_
          refine q_aload_n rfl ?_
          refine q_getR ob_0 rfl rfl ?_
          refine q_aload_n rfl ?_
          refine q_getR ob_0 rfl rfl ?_
          refine q_getR ob_31 rfl rfl ?_
          refine q_getI ob_32 rfl ?_
          obtain ⟨q12, e12, h⟩ := mbind h
          refine q_vI1 mcap_0 rfl rfl ob_74 rfl (by decide) (ok_X0_bestStart  e12) ?_
          refine q_istore rfl rfl ?_
          refine q_iload rfl ?_
          refine q_if_ne (fun c13 => ?_) (fun c13 => ?_)
          · rw [if_pos c13] at h
            refine q_iload rfl ?_
            refine q_goto ?_
            refine mAt.blk bk_X11_cork_117 ck_X11_cork_117 ?_
            have h := Option.some.inj h
            subst h
            exact q_iretI mcap_0 rfl rfl
          · rw [if_neg c13] at h
            refine mAt.blk bk_X11_cork_108 ck_X11_cork_108 ?_
            refine q_aload_n rfl ?_
            refine q_getR ob_0 rfl rfl ?_
            refine q_iload rfl ?_
            obtain ⟨q14, e14, h⟩ := mbind h
            refine q_vI1 mcap_0 rfl rfl ob_74 rfl (by decide) (ok_X0_howManyPlaces  e14) ?_
            refine mAt.blk bk_X11_cork_117 ck_X11_cork_117 ?_
            have h := Option.some.inj h
            subst h
            exact q_iretI mcap_0 rfl rfl
def bk_X11_seed_0 : List mI := [(.aload_n 0, 1, 0, 0, 0, []), (.getfield 10, 3, 11, 3, 364, []), (.getfield 288, 3, 1, 5, 160, []), (.istore_n 2, 1, 0, 0, 0, []), (.aload_n 0, 1, 0, 0, 0, []), (.getfield 10, 3, 11, 3, 364, []), (.iload_n 1, 1, 0, 0, 0, []), (.putfield 288, 3, 1, 5, 160, []), (.iload_n 2, 1, 0, 0, 0, []), (.ireturn, 1, 0, 0, 0, [])]
theorem ck_X11_seed_0 : mChk 111 0 bk_X11_seed_0 = true := by decide +kernel
def f_X11_seed (p0 : Int32) (σ : Sg) : Option (Int32 × Sg) := (some ((σ 1 5), (mup σ 1 5 p0)))
set_option maxHeartbeats 4000000 in
theorem ok_X11_seed {L : Nat} {p0 : Int32} {σ : Sg} {R : Int32 × Sg} (h : f_X11_seed p0 σ = some R) : mEv 0 111 [.ref 0, .int p0] (mSh, L, σ) (some (.int R.1)) (mSh, L, R.2) := by
  refine mEv.of (by decide) rfl rfl ?_
  unfold f_X11_seed at h
  refine mAt.blk bk_X11_seed_0 ck_X11_seed_0 ?_
  refine q_aload_n rfl ?_
  refine q_getR ob_0 rfl rfl ?_
  refine q_getI ob_1 rfl ?_
  refine q_istore_n rfl rfl ?_
  refine q_aload_n rfl ?_
  refine q_getR ob_0 rfl rfl ?_
  refine q_iload_n rfl ?_
  refine q_putI ob_1 rfl ?_
  refine q_iload_n rfl ?_
  have h := Option.some.inj h
  subst h
  exact q_iretI mcap_0 rfl rfl
def bk_X11_voice_0 : List mI := [(.aload_n 0, 1, 0, 0, 0, []), (.getfield 31, 3, 11, 0, 361, []), (.getfield 133, 3, 10, 1, 252, []), (.astore 4, 2, 0, 0, 0, []), (.aload 4, 2, 0, 0, 0, []), (.iload_n 1, 1, 0, 0, 0, []), (.invokevirtual 160, 3, 39, 0, 486, []), (.ifCond .eq 12, 3, 27, 0, 0, []), (.iload_n 2, 1, 0, 0, 0, []), (.iconst 0, 1, 0, 0, 0, [(0, 0)]), (.iconst 3, 1, 0, 0, 0, [(3, 0)]), (.invokestatic 112, 3, 125, 0, 445, []), (.ifCond .ne 9, 3, 33, 0, 0, [])]
theorem ck_X11_voice_0 : mChk 112 0 bk_X11_voice_0 = true := by decide +kernel
def bk_X11_voice_27 : List mI := [(.aload_n 0, 1, 0, 0, 0, []), (.iconst 1, 1, 0, 0, 0, [(1, 0)]), (.invokevirtual 89, 3, 123, 0, 399, []), (.ireturn, 1, 0, 0, 0, [])]
theorem ck_X11_voice_27 : mChk 112 27 bk_X11_voice_27 = true := by decide +kernel
def bk_X11_voice_33 : List mI := [(.aload_n 0, 1, 0, 0, 0, []), (.getfield 64, 3, 11, 7, 368, []), (.aload 4, 2, 0, 0, 0, []), (.getfield 167, 3, 7, 0, 217, []), (.iload_n 1, 1, 0, 0, 0, []), (.invokestatic 122, 3, 130, 0, 403, []), (.iload_n 1, 1, 0, 0, 0, []), (.aload 4, 2, 0, 0, 0, []), (.getfield 173, 3, 7, 1, 220, []), (.iload_n 1, 1, 0, 0, 0, []), (.invokestatic 122, 3, 130, 0, 403, []), (.iload_n 2, 1, 0, 0, 0, []), (.iload_n 3, 1, 0, 0, 0, []), (.invokevirtual 291, 3, 48, 0, 839, []), (.ireturn, 1, 0, 0, 0, [])]
theorem ck_X11_voice_33 : mChk 112 33 bk_X11_voice_33 = true := by decide +kernel
def f_X11_voice (p0 : Int32) (p1 : Int32) (p2 : Int32) (σ : Sg) : Option (Int32 × Sg) := ((f_X7_has 37 p0 σ).bind fun q1 => (if q1 = 0 then ((f_X11_error (1 : Int32) σ).bind fun q3 => (some (q3.1, q3.2))) else ((f_X11_within p1 (0 : Int32) (3 : Int32) σ).bind fun q4 => (if q4 = 0 then ((f_X11_error (1 : Int32) σ).bind fun q9 => (some (q9.1, q9.2))) else ((f_X11_pick 38 10 p0 σ).bind fun q6 => ((f_X11_pick 39 10 p0 σ).bind fun q7 => ((f_X8_begin q6 p0 q7 p1 p2 σ).bind fun q8 => (some (q8.1, q8.2)))))))))
set_option maxHeartbeats 4000000 in
theorem ok_X11_voice {L : Nat} {p0 : Int32} {p1 : Int32} {p2 : Int32} {σ : Sg} {R : Int32 × Sg} (h : f_X11_voice p0 p1 p2 σ = some R) : mEv 68 112 [.ref 0, .int p0, .int p1, .int p2] (mSh, L, σ) (some (.int R.1)) (mSh, L, R.2) := by
  refine mEv.of (by decide) rfl rfl ?_
  unfold f_X11_voice at h
  refine mAt.blk bk_X11_voice_0 ck_X11_voice_0 ?_
  refine q_aload_n rfl ?_
  refine q_getR ob_0 rfl rfl ?_
  refine q_getR ob_31 rfl rfl ?_
  refine q_astore rfl rfl ?_
  refine q_aload rfl ?_
  refine q_iload_n rfl ?_
  obtain ⟨q1, e1, h⟩ := mbind h
  refine q_vI1 mcap_0 rfl rfl ob_37 rfl (by decide) (ok_X7_has p7_37 e1) ?_
  refine q_if_eq (fun c2 => ?_) (fun c2 => ?_)
  · rw [if_pos c2] at h
    refine mAt.blk bk_X11_voice_27 ck_X11_voice_27 ?_
    refine q_aload_n rfl ?_
    refine q_iconst ?_
    obtain ⟨q3, e3, h⟩ := mbind h
    refine q_vI1 mcap_0 rfl rfl ob_0 rfl (by decide) (ok_X11_error  e3) ?_
    have h := Option.some.inj h
    subst h
    exact q_iretI mcap_0 rfl rfl
  · rw [if_neg c2] at h
    refine q_iload_n rfl ?_
    refine q_iconst ?_
    refine q_iconst ?_
    obtain ⟨q4, e4, h⟩ := mbind h
    refine q_sI3 mcap_0 rfl rfl rfl rfl (by decide) (ok_X11_within  e4) ?_
    refine q_if_ne (fun c5 => ?_) (fun c5 => ?_)
    · rw [if_pos c5] at h
      refine mAt.blk bk_X11_voice_27 ck_X11_voice_27 ?_
      refine q_aload_n rfl ?_
      refine q_iconst ?_
      obtain ⟨q9, e9, h⟩ := mbind h
      refine q_vI1 mcap_0 rfl rfl ob_0 rfl (by decide) (ok_X11_error  e9) ?_
      have h := Option.some.inj h
      subst h
      exact q_iretI mcap_0 rfl rfl
    · rw [if_neg c5] at h
      refine mAt.blk bk_X11_voice_33 ck_X11_voice_33 ?_
      refine q_aload_n rfl ?_
      refine q_getR ob_0 rfl rfl ?_
      refine q_aload rfl ?_
      refine q_getR ob_37 rfl rfl ?_
      refine q_iload_n rfl ?_
      obtain ⟨q6, e6, h⟩ := mbind h
      refine q_sI2 mcap_0 rfl rfl rfl rfl (by decide) (ok_X11_pick (mrd ar_38) e6) ?_
      refine q_iload_n rfl ?_
      refine q_aload rfl ?_
      refine q_getR ob_37 rfl rfl ?_
      refine q_iload_n rfl ?_
      obtain ⟨q7, e7, h⟩ := mbind h
      refine q_sI2 mcap_0 rfl rfl rfl rfl (by decide) (ok_X11_pick (mrd ar_39) e7) ?_
      refine q_iload_n rfl ?_
      refine q_iload_n rfl ?_
      obtain ⟨q8, e8, h⟩ := mbind h
      refine q_vI5 mcap_0 rfl rfl ob_81 rfl (by decide) (ok_X8_begin  e8) ?_
      have h := Option.some.inj h
      subst h
      exact q_iretI mcap_0 rfl rfl
def bk_X11_trace_0 : List mI := [(.iload_n 1, 1, 0, 0, 0, []), (.ifCond .lt 14, 3, 15, 0, 0, []), (.iload_n 1, 1, 0, 0, 0, []), (.aload_n 0, 1, 0, 0, 0, []), (.getfield 64, 3, 11, 7, 368, []), (.getfield 294, 3, 8, 1, 326, []), (.if_icmp .lt 9, 3, 21, 0, 0, [])]
theorem ck_X11_trace_0 : mChk 113 0 bk_X11_trace_0 = true := by decide +kernel
def bk_X11_trace_15 : List mI := [(.aload_n 0, 1, 0, 0, 0, []), (.iconst 2, 1, 0, 0, 0, [(2, 0)]), (.invokevirtual 89, 3, 123, 0, 399, []), (.ireturn, 1, 0, 0, 0, [])]
theorem ck_X11_trace_15 : mChk 113 15 bk_X11_trace_15 = true := by decide +kernel
def bk_X11_trace_21 : List mI := [(.aload_n 0, 1, 0, 0, 0, []), (.getfield 64, 3, 11, 7, 368, []), (.getfield 295, 3, 8, 0, 324, []), (.iload_n 1, 1, 0, 0, 0, []), (.invokestatic 122, 3, 130, 0, 403, []), (.ireturn, 1, 0, 0, 0, [])]
theorem ck_X11_trace_21 : mChk 113 21 bk_X11_trace_21 = true := by decide +kernel
def f_X11_trace (p0 : Int32) (σ : Sg) : Option (Int32 × Sg) := (if p0 < 0 then ((f_X11_error (2 : Int32) σ).bind fun q2 => (some (q2.1, q2.2))) else (if p0 < (σ 81 1) then ((f_X11_pick 82 40 p0 σ).bind fun q4 => (some (q4, σ))) else ((f_X11_error (2 : Int32) σ).bind fun q5 => (some (q5.1, q5.2)))))
set_option maxHeartbeats 4000000 in
theorem ok_X11_trace {L : Nat} {p0 : Int32} {σ : Sg} {R : Int32 × Sg} (h : f_X11_trace p0 σ = some R) : mEv 2 113 [.ref 0, .int p0] (mSh, L, σ) (some (.int R.1)) (mSh, L, R.2) := by
  refine mEv.of (by decide) rfl rfl ?_
  unfold f_X11_trace at h
  refine mAt.blk bk_X11_trace_0 ck_X11_trace_0 ?_
  refine q_iload_n rfl ?_
  refine q_if_lt (fun c1 => ?_) (fun c1 => ?_)
  · rw [if_pos c1] at h
    refine mAt.blk bk_X11_trace_15 ck_X11_trace_15 ?_
    refine q_aload_n rfl ?_
    refine q_iconst ?_
    obtain ⟨q2, e2, h⟩ := mbind h
    refine q_vI1 mcap_0 rfl rfl ob_0 rfl (by decide) (ok_X11_error  e2) ?_
    have h := Option.some.inj h
    subst h
    exact q_iretI mcap_0 rfl rfl
  · rw [if_neg c1] at h
    refine q_iload_n rfl ?_
    refine q_aload_n rfl ?_
    refine q_getR ob_0 rfl rfl ?_
    refine q_getI ob_81 rfl ?_
    refine q_ic_lt (fun c3 => ?_) (fun c3 => ?_)
    · rw [if_pos c3] at h
      refine mAt.blk bk_X11_trace_21 ck_X11_trace_21 ?_
      refine q_aload_n rfl ?_
      refine q_getR ob_0 rfl rfl ?_
      refine q_getR ob_81 rfl rfl ?_
      refine q_iload_n rfl ?_
      obtain ⟨q4, e4, h⟩ := mbind h
      refine q_sI2 mcap_0 rfl rfl rfl rfl (by decide) (ok_X11_pick (mrd ar_82) e4) ?_
      have h := Option.some.inj h
      subst h
      exact q_iretI mcap_0 rfl rfl
    · rw [if_neg c3] at h
      refine mAt.blk bk_X11_trace_15 ck_X11_trace_15 ?_
      refine q_aload_n rfl ?_
      refine q_iconst ?_
      obtain ⟨q5, e5, h⟩ := mbind h
      refine q_vI1 mcap_0 rfl rfl ob_0 rfl (by decide) (ok_X11_error  e5) ?_
      have h := Option.some.inj h
      subst h
      exact q_iretI mcap_0 rfl rfl
def bk_X11_sheet_0 : List mI := [(.aload_n 0, 1, 0, 0, 0, []), (.iload_n 1, 1, 0, 0, 0, []), (.invokevirtual 143, 3, 124, 0, 462, []), (.astore 4, 2, 0, 0, 0, []), (.aload 4, 2, 0, 0, 0, []), (.ifnull 25, 3, 34, 0, 0, []), (.iload_n 2, 1, 0, 0, 0, []), (.ifCond .eq 27, 3, 40, 0, 0, []), (.iload_n 2, 1, 0, 0, 0, []), (.bipush 8, 2, 0, 0, 0, [(8, 0)]), (.if_icmp .eq 21, 3, 40, 0, 0, []), (.iload_n 2, 1, 0, 0, 0, []), (.bipush 16, 2, 0, 0, 0, [(16, 0)]), (.if_icmp .eq 15, 3, 40, 0, 0, []), (.iload_n 2, 1, 0, 0, 0, []), (.bipush 32, 2, 0, 0, 0, [(32, 0)]), (.if_icmp .eq 9, 3, 40, 0, 0, [])]
theorem ck_X11_sheet_0 : mChk 114 0 bk_X11_sheet_0 = true := by decide +kernel
def bk_X11_sheet_34 : List mI := [(.aload_n 0, 1, 0, 0, 0, []), (.iconst 1, 1, 0, 0, 0, [(1, 0)]), (.invokevirtual 89, 3, 123, 0, 399, []), (.ireturn, 1, 0, 0, 0, [])]
theorem ck_X11_sheet_34 : mChk 114 34 bk_X11_sheet_34 = true := by decide +kernel
def bk_X11_sheet_40 : List mI := [(.iload_n 2, 1, 0, 0, 0, []), (.ifCond .ne 12, 3, 53, 0, 0, []), (.aload 4, 2, 0, 0, 0, []), (.iconst 0, 1, 0, 0, 0, [(0, 0)]), (.iconst 0, 1, 0, 0, 0, [(0, 0)]), (.invokevirtual 298, 3, 28, 0, 867, []), (.iconst 1, 1, 0, 0, 0, [(1, 0)]), (.ireturn, 1, 0, 0, 0, [])]
theorem ck_X11_sheet_40 : mChk 114 40 bk_X11_sheet_40 = true := by decide +kernel
def bk_X11_sheet_53 : List mI := [(.iload_n 3, 1, 0, 0, 0, []), (.ifCond .ge 9, 3, 63, 0, 0, []), (.aload_n 0, 1, 0, 0, 0, []), (.iconst 3, 1, 0, 0, 0, [(3, 0)]), (.invokevirtual 89, 3, 123, 0, 399, []), (.ireturn, 1, 0, 0, 0, [])]
theorem ck_X11_sheet_53 : mChk 114 53 bk_X11_sheet_53 = true := by decide +kernel
def bk_X11_sheet_63 : List mI := [(.iload_n 3, 1, 0, 0, 0, []), (.bipush 40, 2, 0, 0, 0, [(40, 0)]), (.if_icmp .le 9, 3, 75, 0, 0, []), (.aload_n 0, 1, 0, 0, 0, []), (.iconst 1, 1, 0, 0, 0, [(1, 0)]), (.invokevirtual 89, 3, 123, 0, 399, []), (.ireturn, 1, 0, 0, 0, [])]
theorem ck_X11_sheet_63 : mChk 114 63 bk_X11_sheet_63 = true := by decide +kernel
def bk_X11_sheet_75 : List mI := [(.aload 4, 2, 0, 0, 0, []), (.iload_n 2, 1, 0, 0, 0, []), (.iload_n 3, 1, 0, 0, 0, []), (.invokevirtual 298, 3, 28, 0, 867, []), (.iconst 1, 1, 0, 0, 0, [(1, 0)]), (.ireturn, 1, 0, 0, 0, [])]
theorem ck_X11_sheet_75 : mChk 114 75 bk_X11_sheet_75 = true := by decide +kernel
def c_X11_sheet_40 (x2 : Int32) (x3 : Int32) (x4 : Nat) (σ : Sg) : Option (Int32 × Sg) := (if x2 = 0 then ((f_X5_clear x4 (0 : Int32) (0 : Int32) σ).bind fun q7 => (some ((1 : Int32), q7))) else (if 0 ≤ x3 then (if x3 ≤ (40 : Int32) then ((f_X5_clear x4 x2 x3 σ).bind fun q4 => (some ((1 : Int32), q4))) else ((f_X11_error (1 : Int32) σ).bind fun q5 => (some (q5.1, q5.2)))) else ((f_X11_error (3 : Int32) σ).bind fun q6 => (some (q6.1, q6.2)))))
set_option maxHeartbeats 4000000 in
theorem okc_X11_sheet_40 {L : Nat} {R : Int32 × Sg} {x2 : Int32} {x3 : Int32} {x4 : Nat} {σ : Sg} {pl : mLoc} (hx4 : P5 x4) (h : c_X11_sheet_40 x2 x3 x4 σ = some R) (hl : mlf [some (.ref 0), none, some (.int x2), some (.int x3), some (.ref x4)] pl) : mAt 2 114 (some (.int R.1), (mSh, L, R.2)) 40 pl [] (mSh, L, σ) 0 0 := by
  refine mAt.less hl ?_
  unfold c_X11_sheet_40 at h
  refine mAt.blk bk_X11_sheet_40 ck_X11_sheet_40 ?_
  refine q_iload_n rfl ?_
  refine q_if_ne (fun c1 => ?_) (fun c1 => ?_)
  · rw [if_pos c1] at h
    refine q_aload rfl ?_
    refine q_iconst ?_
    refine q_iconst ?_
    obtain ⟨q7, e7, h⟩ := mbind h
    refine q_vV2 mcap_0 rfl rfl (hx4).1 rfl (by decide) (ok_X5_clear hx4 e7) ?_
    refine q_iconst ?_
    have h := Option.some.inj h
    subst h
    exact q_iretI mcap_0 rfl rfl
  · rw [if_neg c1] at h
    refine mAt.blk bk_X11_sheet_53 ck_X11_sheet_53 ?_
    refine q_iload_n rfl ?_
    refine q_if_ge (fun c2 => ?_) (fun c2 => ?_)
    · rw [if_pos c2] at h
      refine mAt.blk bk_X11_sheet_63 ck_X11_sheet_63 ?_
      refine q_iload_n rfl ?_
      refine q_bipush ?_
      refine q_ic_le (fun c3 => ?_) (fun c3 => ?_)
      · rw [if_pos c3] at h
        refine mAt.blk bk_X11_sheet_75 ck_X11_sheet_75 ?_
        refine q_aload rfl ?_
        refine q_iload_n rfl ?_
        refine q_iload_n rfl ?_
        obtain ⟨q4, e4, h⟩ := mbind h
        refine q_vV2 mcap_0 rfl rfl (hx4).1 rfl (by decide) (ok_X5_clear hx4 e4) ?_
        refine q_iconst ?_
        have h := Option.some.inj h
        subst h
        exact q_iretI mcap_0 rfl rfl
      · rw [if_neg c3] at h
        refine q_aload_n rfl ?_
        refine q_iconst ?_
        obtain ⟨q5, e5, h⟩ := mbind h
        refine q_vI1 mcap_0 rfl rfl ob_0 rfl (by decide) (ok_X11_error  e5) ?_
        have h := Option.some.inj h
        subst h
        exact q_iretI mcap_0 rfl rfl
    · rw [if_neg c2] at h
      refine q_aload_n rfl ?_
      refine q_iconst ?_
      obtain ⟨q6, e6, h⟩ := mbind h
      refine q_vI1 mcap_0 rfl rfl ob_0 rfl (by decide) (ok_X11_error  e6) ?_
      have h := Option.some.inj h
      subst h
      exact q_iretI mcap_0 rfl rfl
def f_X11_sheet (p0 : Int32) (p1 : Int32) (p2 : Int32) (σ : Sg) : Option (Int32 × Sg) := ((f_X11_sheetAt p0 σ).bind fun q8 => match q8 with | none => ((f_X11_error (1 : Int32) σ).bind fun q9 => (some (q9.1, q9.2))) | some z8 => (if p1 = 0 then (c_X11_sheet_40   p1 p2 z8 σ) else (if p1 = (8 : Int32) then (c_X11_sheet_40   p1 p2 z8 σ) else (if p1 = (16 : Int32) then (c_X11_sheet_40   p1 p2 z8 σ) else (if p1 = (32 : Int32) then (c_X11_sheet_40   p1 p2 z8 σ) else ((f_X11_error (1 : Int32) σ).bind fun q14 => (some (q14.1, q14.2))))))))
set_option maxHeartbeats 4000000 in
theorem ok_X11_sheet {L : Nat} {p0 : Int32} {p1 : Int32} {p2 : Int32} {σ : Sg} {R : Int32 × Sg} (h : f_X11_sheet p0 p1 p2 σ = some R) : mEv 2 114 [.ref 0, .int p0, .int p1, .int p2] (mSh, L, σ) (some (.int R.1)) (mSh, L, R.2) := by
  refine mEv.of (by decide) rfl rfl ?_
  unfold f_X11_sheet at h
  refine mAt.blk bk_X11_sheet_0 ck_X11_sheet_0 ?_
  refine q_aload_n rfl ?_
  refine q_iload_n rfl ?_
  obtain ⟨q8, e8, h⟩ := mbind h
  rcases q8 with _ | z8
  · dsimp only at h
    refine q_vN1 mcap_0 rfl rfl ob_0 rfl (by decide) (ok_X11_sheetAt  e8) ?_
    refine q_astoreN rfl rfl ?_
    refine q_aloadN rfl ?_
    refine q_ifnullN ?_
    refine mAt.blk bk_X11_sheet_34 ck_X11_sheet_34 ?_
    refine q_aload_n rfl ?_
    refine q_iconst ?_
    obtain ⟨q9, e9, h⟩ := mbind h
    refine q_vI1 mcap_0 rfl rfl ob_0 rfl (by decide) (ok_X11_error  e9) ?_
    have h := Option.some.inj h
    subst h
    exact q_iretI mcap_0 rfl rfl
  · dsimp only at h
    refine q_vR1 mcap_0 rfl rfl ob_0 rfl (by decide) (ok_X11_sheetAt  e8) ?_
    refine q_astore rfl rfl ?_
    refine q_aload rfl ?_
    refine q_ifnullR ?_
    refine q_iload_n rfl ?_
    refine q_if_eq (fun c10 => ?_) (fun c10 => ?_)
    · rw [if_pos c10] at h
      exact okc_X11_sheet_40 (ty_X11_sheetAt e8) h ⟨rfl, rfl, rfl, rfl, trivial⟩
    · rw [if_neg c10] at h
      refine q_iload_n rfl ?_
      refine q_bipush ?_
      refine q_ic_eq (fun c11 => ?_) (fun c11 => ?_)
      · rw [if_pos c11] at h
        exact okc_X11_sheet_40 (ty_X11_sheetAt e8) h ⟨rfl, rfl, rfl, rfl, trivial⟩
      · rw [if_neg c11] at h
        refine q_iload_n rfl ?_
        refine q_bipush ?_
        refine q_ic_eq (fun c12 => ?_) (fun c12 => ?_)
        · rw [if_pos c12] at h
          exact okc_X11_sheet_40 (ty_X11_sheetAt e8) h ⟨rfl, rfl, rfl, rfl, trivial⟩
        · rw [if_neg c12] at h
          refine q_iload_n rfl ?_
          refine q_bipush ?_
          refine q_ic_eq (fun c13 => ?_) (fun c13 => ?_)
          · rw [if_pos c13] at h
            exact okc_X11_sheet_40 (ty_X11_sheetAt e8) h ⟨rfl, rfl, rfl, rfl, trivial⟩
          · rw [if_neg c13] at h
            refine mAt.blk bk_X11_sheet_34 ck_X11_sheet_34 ?_
            refine q_aload_n rfl ?_
            refine q_iconst ?_
            obtain ⟨q14, e14, h⟩ := mbind h
            refine q_vI1 mcap_0 rfl rfl ob_0 rfl (by decide) (ok_X11_error  e14) ?_
            have h := Option.some.inj h
            subst h
            exact q_iretI mcap_0 rfl rfl
def bk_X11_put_0 : List mI := [(.aload_n 0, 1, 0, 0, 0, []), (.iload_n 1, 1, 0, 0, 0, []), (.invokevirtual 143, 3, 124, 0, 462, []), (.astore 4, 2, 0, 0, 0, []), (.aload 4, 2, 0, 0, 0, []), (.ifnonnull 9, 3, 18, 0, 0, []), (.aload_n 0, 1, 0, 0, 0, []), (.iconst 1, 1, 0, 0, 0, [(1, 0)]), (.invokevirtual 89, 3, 123, 0, 399, []), (.ireturn, 1, 0, 0, 0, [])]
theorem ck_X11_put_0 : mChk 115 0 bk_X11_put_0 = true := by decide +kernel
def bk_X11_put_18 : List mI := [(.aload 4, 2, 0, 0, 0, []), (.getfield 147, 3, 5, 1, 351, []), (.ifCond .ne 9, 3, 32, 0, 0, []), (.aload_n 0, 1, 0, 0, 0, []), (.iconst 2, 1, 0, 0, 0, [(2, 0)]), (.invokevirtual 89, 3, 123, 0, 399, []), (.ireturn, 1, 0, 0, 0, [])]
theorem ck_X11_put_18 : mChk 115 18 bk_X11_put_18 = true := by decide +kernel
def bk_X11_put_32 : List mI := [(.iload_n 2, 1, 0, 0, 0, []), (.ifCond .lt 12, 3, 45, 0, 0, []), (.iload_n 2, 1, 0, 0, 0, []), (.aload 4, 2, 0, 0, 0, []), (.getfield 149, 3, 5, 2, 353, []), (.if_icmp .lt 9, 3, 51, 0, 0, [])]
theorem ck_X11_put_32 : mChk 115 32 bk_X11_put_32 = true := by decide +kernel
def bk_X11_put_45 : List mI := [(.aload_n 0, 1, 0, 0, 0, []), (.iconst 1, 1, 0, 0, 0, [(1, 0)]), (.invokevirtual 89, 3, 123, 0, 399, []), (.ireturn, 1, 0, 0, 0, [])]
theorem ck_X11_put_45 : mChk 115 45 bk_X11_put_45 = true := by decide +kernel
def bk_X11_put_51 : List mI := [(.aload 4, 2, 0, 0, 0, []), (.iload_n 2, 1, 0, 0, 0, []), (.iload_n 3, 1, 0, 0, 0, []), (.invokevirtual 301, 3, 29, 0, 875, []), (.iconst 1, 1, 0, 0, 0, [(1, 0)]), (.ireturn, 1, 0, 0, 0, [])]
theorem ck_X11_put_51 : mChk 115 51 bk_X11_put_51 = true := by decide +kernel
def f_X11_put (p0 : Int32) (p1 : Int32) (p2 : Int32) (σ : Sg) : Option (Int32 × Sg) := ((f_X11_sheetAt p0 σ).bind fun q1 => match q1 with | none => ((f_X11_error (1 : Int32) σ).bind fun q2 => (some (q2.1, q2.2))) | some z1 => (if (σ z1 1) = 0 then ((f_X11_error (2 : Int32) σ).bind fun q9 => (some (q9.1, q9.2))) else (if p1 < 0 then ((f_X11_error (1 : Int32) σ).bind fun q5 => (some (q5.1, q5.2))) else (if p1 < (σ z1 2) then ((f_X5_write z1 p1 p2 σ).bind fun q7 => (some ((1 : Int32), q7))) else ((f_X11_error (1 : Int32) σ).bind fun q8 => (some (q8.1, q8.2)))))))
set_option maxHeartbeats 4000000 in
theorem ok_X11_put {L : Nat} {p0 : Int32} {p1 : Int32} {p2 : Int32} {σ : Sg} {R : Int32 × Sg} (h : f_X11_put p0 p1 p2 σ = some R) : mEv 2 115 [.ref 0, .int p0, .int p1, .int p2] (mSh, L, σ) (some (.int R.1)) (mSh, L, R.2) := by
  refine mEv.of (by decide) rfl rfl ?_
  unfold f_X11_put at h
  refine mAt.blk bk_X11_put_0 ck_X11_put_0 ?_
  refine q_aload_n rfl ?_
  refine q_iload_n rfl ?_
  obtain ⟨q1, e1, h⟩ := mbind h
  rcases q1 with _ | z1
  · dsimp only at h
    refine q_vN1 mcap_0 rfl rfl ob_0 rfl (by decide) (ok_X11_sheetAt  e1) ?_
    refine q_astoreN rfl rfl ?_
    refine q_aloadN rfl ?_
    refine q_ifnonnullN ?_
    refine q_aload_n rfl ?_
    refine q_iconst ?_
    obtain ⟨q2, e2, h⟩ := mbind h
    refine q_vI1 mcap_0 rfl rfl ob_0 rfl (by decide) (ok_X11_error  e2) ?_
    have h := Option.some.inj h
    subst h
    exact q_iretI mcap_0 rfl rfl
  · dsimp only at h
    refine q_vR1 mcap_0 rfl rfl ob_0 rfl (by decide) (ok_X11_sheetAt  e1) ?_
    refine q_astore rfl rfl ?_
    refine q_aload rfl ?_
    refine q_ifnonnullR ?_
    refine mAt.blk bk_X11_put_18 ck_X11_put_18 ?_
    refine q_aload rfl ?_
    refine q_getI ((ty_X11_sheetAt e1)).1 rfl ?_
    refine q_if_ne (fun c3 => ?_) (fun c3 => ?_)
    · rw [if_pos c3] at h
      refine q_aload_n rfl ?_
      refine q_iconst ?_
      obtain ⟨q9, e9, h⟩ := mbind h
      refine q_vI1 mcap_0 rfl rfl ob_0 rfl (by decide) (ok_X11_error  e9) ?_
      have h := Option.some.inj h
      subst h
      exact q_iretI mcap_0 rfl rfl
    · rw [if_neg c3] at h
      refine mAt.blk bk_X11_put_32 ck_X11_put_32 ?_
      refine q_iload_n rfl ?_
      refine q_if_lt (fun c4 => ?_) (fun c4 => ?_)
      · rw [if_pos c4] at h
        refine mAt.blk bk_X11_put_45 ck_X11_put_45 ?_
        refine q_aload_n rfl ?_
        refine q_iconst ?_
        obtain ⟨q5, e5, h⟩ := mbind h
        refine q_vI1 mcap_0 rfl rfl ob_0 rfl (by decide) (ok_X11_error  e5) ?_
        have h := Option.some.inj h
        subst h
        exact q_iretI mcap_0 rfl rfl
      · rw [if_neg c4] at h
        refine q_iload_n rfl ?_
        refine q_aload rfl ?_
        refine q_getI ((ty_X11_sheetAt e1)).1 rfl ?_
        refine q_ic_lt (fun c6 => ?_) (fun c6 => ?_)
        · rw [if_pos c6] at h
          refine mAt.blk bk_X11_put_51 ck_X11_put_51 ?_
          refine q_aload rfl ?_
          refine q_iload_n rfl ?_
          refine q_iload_n rfl ?_
          obtain ⟨q7, e7, h⟩ := mbind h
          refine q_vV2 mcap_0 rfl rfl ((ty_X11_sheetAt e1)).1 rfl (by decide) (ok_X5_write (ty_X11_sheetAt e1) e7) ?_
          refine q_iconst ?_
          have h := Option.some.inj h
          subst h
          exact q_iretI mcap_0 rfl rfl
        · rw [if_neg c6] at h
          refine mAt.blk bk_X11_put_45 ck_X11_put_45 ?_
          refine q_aload_n rfl ?_
          refine q_iconst ?_
          obtain ⟨q8, e8, h⟩ := mbind h
          refine q_vI1 mcap_0 rfl rfl ob_0 rfl (by decide) (ok_X11_error  e8) ?_
          have h := Option.some.inj h
          subst h
          exact q_iretI mcap_0 rfl rfl
