def bk_X12_drawn_0 : List mI := [(.aload_n 0, 1, 0, 0, 0, []), (.getfield 7, 3, 12, 0, 937, []), (.iconst 4, 1, 0, 0, 0, [(4, 0)]), (.aload_n 0, 1, 0, 0, 0, []), (.getfield 7, 3, 12, 0, 937, []), (.iconst 4, 1, 0, 0, 0, [(4, 0)]), (.iaload, 1, 0, 0, 0, []), (.ldc 215, 2, 0, 0, 1213, [(1103515245, 0)]), (.imul, 1, 0, 0, 0, []), (.sipush 12345, 3, 0, 0, 0, [(12345, 0)]), (.iadd, 1, 0, 0, 0, []), (.iastore, 1, 0, 0, 0, []), (.aload_n 0, 1, 0, 0, 0, []), (.getfield 7, 3, 12, 0, 937, []), (.iconst 4, 1, 0, 0, 0, [(4, 0)]), (.iaload, 1, 0, 0, 0, []), (.bipush 8, 2, 0, 0, 0, [(8, 0)]), (.iushr, 1, 0, 0, 0, []), (.ireturn, 1, 0, 0, 0, [])]
theorem ck_X12_drawn_0 : mChk 183 0 bk_X12_drawn_0 = true := by decide +kernel
def f_X12_drawn (σ : Sg) : Option (Int32 × Sg) := (some (((((mup σ 94 4 (((σ 94 4) * (1103515245 : Int32)) + (12345 : Int32))) 94 4)).toUInt32 >>> (((8 : Int32)).toUInt32 &&& Int32.toUInt32 31)).toInt32, (mup σ 94 4 (((σ 94 4) * (1103515245 : Int32)) + (12345 : Int32)))))
set_option maxHeartbeats 4000000 in
theorem ok_X12_drawn {L : Nat} {σ : Sg} {R : Int32 × Sg} (h : f_X12_drawn σ = some R) : mEv 0 183 [.ref 93] (mSh, L, σ) (some (.int R.1)) (mSh, L, R.2) := by
  refine mEv.of (by decide) rfl rfl ?_
  unfold f_X12_drawn at h
  refine mAt.blk bk_X12_drawn_0 ck_X12_drawn_0 ?_
  refine q_aload_n rfl ?_
  refine q_getR ob_93 rfl rfl ?_
  refine q_iconst ?_
  refine q_aload_n rfl ?_
  refine q_getR ob_93 rfl rfl ?_
  refine q_iconst ?_
  refine q_iald (j := 4) (mrd ar_94 _ _) (by decide) (by decide) ?_
  refine q_ldc ?_
  refine q_imul ?_
  refine q_sipush ?_
  refine q_iadd ?_
  refine q_iast (j := 4) (by decide) ar_94 (by decide) ?_
  refine q_aload_n rfl ?_
  refine q_getR ob_93 rfl rfl ?_
  refine q_iconst ?_
  refine q_iald (j := 4) (mrd ar_94 _ _) (by decide) (by decide) ?_
  refine q_bipush ?_
  refine q_iushr ?_
  have h := Option.some.inj h
  subst h
  exact q_iretI mcap_0 rfl rfl
def bk_X12_floods_0 : List mI := [(.iload_n 1, 1, 0, 0, 0, []), (.i2l, 1, 0, 0, 0, []), (.lconst 1, 1, 0, 0, 0, [(1, 0)]), (.ldc2_w 210, 3, 0, 0, 1191, [(100, 0)]), (.invokestatic 48, 3, 135, 0, 1007, []), (.ifCond .ne 9, 3, 18, 0, 0, []), (.aload_n 0, 1, 0, 0, 0, []), (.iconst 1, 1, 0, 0, 0, [(1, 0)]), (.invokevirtual 111, 3, 134, 0, 1010, []), (.ireturn, 1, 0, 0, 0, [])]
theorem ck_X12_floods_0 : mChk 184 0 bk_X12_floods_0 = true := by decide +kernel
def bk_X12_floods_18 : List mI := [(.aload_n 0, 1, 0, 0, 0, []), (.getfield 7, 3, 12, 0, 937, []), (.iconst 0, 1, 0, 0, 0, [(0, 0)]), (.iaload, 1, 0, 0, 0, []), (.iload_n 1, 1, 0, 0, 0, []), (.iadd, 1, 0, 0, 0, []), (.sipush 9999, 3, 0, 0, 0, [(9999, 0)]), (.if_icmp .gt 12, 3, 41, 0, 0, []), (.aload_n 0, 1, 0, 0, 0, []), (.getfield 7, 3, 12, 0, 937, []), (.iconst 1, 1, 0, 0, 0, [(1, 0)]), (.iaload, 1, 0, 0, 0, []), (.ifCond .ne 9, 3, 47, 0, 0, [])]
theorem ck_X12_floods_18 : mChk 184 18 bk_X12_floods_18 = true := by decide +kernel
def bk_X12_floods_41 : List mI := [(.aload_n 0, 1, 0, 0, 0, []), (.iconst 3, 1, 0, 0, 0, [(3, 0)]), (.invokevirtual 111, 3, 134, 0, 1010, []), (.ireturn, 1, 0, 0, 0, [])]
theorem ck_X12_floods_41 : mChk 184 41 bk_X12_floods_41 = true := by decide +kernel
def bk_X12_floods_47 : List mI := [(.iconst 0, 1, 0, 0, 0, [(0, 0)]), (.istore_n 2, 1, 0, 0, 0, [])]
theorem ck_X12_floods_47 : mChk 184 47 bk_X12_floods_47 = true := by decide +kernel
def bk_X12_floods_49 : List mI := [(.iload_n 2, 1, 0, 0, 0, []), (.iload_n 1, 1, 0, 0, 0, []), (.if_icmp .ge 58, 3, 109, 0, 0, []), (.aload_n 0, 1, 0, 0, 0, []), (.invokevirtual 216, 3, 183, 0, 1209, []), (.aload_n 0, 1, 0, 0, 0, []), (.getfield 7, 3, 12, 0, 937, []), (.iconst 1, 1, 0, 0, 0, [(1, 0)]), (.iaload, 1, 0, 0, 0, []), (.irem, 1, 0, 0, 0, []), (.istore_n 3, 1, 0, 0, 0, []), (.aload_n 0, 1, 0, 0, 0, []), (.invokevirtual 216, 3, 183, 0, 1209, []), (.aload_n 0, 1, 0, 0, 0, []), (.getfield 7, 3, 12, 0, 937, []), (.iconst 1, 1, 0, 0, 0, [(1, 0)]), (.iaload, 1, 0, 0, 0, []), (.irem, 1, 0, 0, 0, []), (.istore 4, 2, 0, 0, 0, []), (.aload_n 0, 1, 0, 0, 0, []), (.iload_n 3, 1, 0, 0, 0, []), (.iload 4, 2, 0, 0, 0, []), (.aload_n 0, 1, 0, 0, 0, []), (.invokevirtual 216, 3, 183, 0, 1209, []), (.bipush 9, 2, 0, 0, 0, [(9, 0)]), (.irem, 1, 0, 0, 0, []), (.iconst 1, 1, 0, 0, 0, [(1, 0)]), (.iadd, 1, 0, 0, 0, []), (.invokevirtual 142, 3, 159, 0, 1099, []), (.aload_n 0, 1, 0, 0, 0, []), (.aload_n 0, 1, 0, 0, 0, []), (.getfield 7, 3, 12, 0, 937, []), (.invokevirtual 206, 3, 180, 0, 1196, []), (.iinc 2 1, 3, 0, 0, 0, [(1, 0)]), (.goto (-57), 3, 49, 0, 0, [])]
theorem ck_X12_floods_49 : mChk 184 49 bk_X12_floods_49 = true := by decide +kernel
def bk_X12_floods_109 : List mI := [(.aload_n 0, 1, 0, 0, 0, []), (.getfield 7, 3, 12, 0, 937, []), (.iconst 0, 1, 0, 0, 0, [(0, 0)]), (.iaload, 1, 0, 0, 0, []), (.ireturn, 1, 0, 0, 0, [])]
theorem ck_X12_floods_109 : mChk 184 109 bk_X12_floods_109 = true := by decide +kernel
def c_X12_floods_49 : Nat → Int32 → Int32 → Sg → Option (Int32 × Sg)
  | 0, _, _, _ => none
  | n + 1, x1, x2, σ => (if x1 ≤ x2 then (some ((σ 94 0), σ)) else ((f_X12_drawn  σ).bind fun q3 => (if (q3.2 94 1) = 0 then none else ((f_X12_drawn  q3.2).bind fun q6 => (if (q6.2 94 1) = 0 then none else ((f_X12_drawn  q6.2).bind fun q9 => ((f_X12_leads (q3.1 - q3.1 / (q3.2 94 1) * (q3.2 94 1)) (q6.1 - q6.1 / (q6.2 94 1) * (q6.2 94 1)) ((q9.1 - q9.1 / (9 : Int32) * (9 : Int32)) + (1 : Int32)) q9.2).bind fun q10 => ((f_X12_goesBy 94 q10).bind fun q11 => (c_X12_floods_49  n x1 (x2 + (1 : Int32)) q11)))))))))
set_option maxHeartbeats 4000000 in
theorem okc_X12_floods_49 {L : Nat} {R : Int32 × Sg} {n : Nat} {x1 : Int32} {x2 : Int32} {σ : Sg} {pl : mLoc} (h : c_X12_floods_49 n x1 x2 σ = some R) (hl : mlf [some (.ref 93), some (.int x1), some (.int x2), none, none] pl) : mAt 71 184 (some (.int R.1), (mSh, L, R.2)) 49 pl [] (mSh, L, σ) 0 0 := by
  induction n generalizing x1 x2 σ pl with
  | zero =>
    rw [c_X12_floods_49.eq_1] at h
    cases h
  | succ n ih =>
    refine mAt.less hl ?_
    rw [c_X12_floods_49.eq_2] at h
    refine mAt.blk bk_X12_floods_49 ck_X12_floods_49 ?_
    refine q_iload_n rfl ?_
    refine q_iload_n rfl ?_
    refine q_ic_ge (fun c1 => ?_) (fun c1 => ?_)
    · rw [if_pos c1] at h
      refine mAt.blk bk_X12_floods_109 ck_X12_floods_109 ?_
      refine q_aload_n rfl ?_
      refine q_getR ob_93 rfl rfl ?_
      refine q_iconst ?_
      refine q_iald (j := 0) (mrd ar_94 _ _) (by decide) (by decide) ?_
      have h := Option.some.inj h
      subst h
      exact q_iretI mcap_0 rfl rfl
    · rw [if_neg c1] at h
      refine q_aload_n rfl ?_
      obtain ⟨q3, e3, h⟩ := mbind h
      refine q_vI0 mcap_0 rfl rfl ob_93 rfl (by decide) (ok_X12_drawn  e3) ?_
      refine q_aload_n rfl ?_
      refine q_getR ob_93 rfl rfl ?_
      refine q_iconst ?_
      refine q_iald (j := 1) (mrd ar_94 _ _) (by decide) (by decide) ?_
      obtain ⟨c5, h⟩ := mnone h
      refine q_irem c5 ?_
      refine q_istore_n rfl rfl ?_
      refine q_aload_n rfl ?_
      obtain ⟨q6, e6, h⟩ := mbind h
      refine q_vI0 mcap_0 rfl rfl ob_93 rfl (by decide) (ok_X12_drawn  e6) ?_
      refine q_aload_n rfl ?_
      refine q_getR ob_93 rfl rfl ?_
      refine q_iconst ?_
      refine q_iald (j := 1) (mrd ar_94 _ _) (by decide) (by decide) ?_
      obtain ⟨c8, h⟩ := mnone h
      refine q_irem c8 ?_
      refine q_istore rfl rfl ?_
      refine q_aload_n rfl ?_
      refine q_iload_n rfl ?_
      refine q_iload rfl ?_
      refine q_aload_n rfl ?_
      obtain ⟨q9, e9, h⟩ := mbind h
      refine q_vI0 mcap_0 rfl rfl ob_93 rfl (by decide) (ok_X12_drawn  e9) ?_
      refine q_bipush ?_
      refine q_irem (by decide) ?_
      refine q_iconst ?_
      refine q_iadd ?_
      obtain ⟨q10, e10, h⟩ := mbind h
      refine q_vV3 mcap_0 rfl rfl ob_93 rfl (by decide) (ok_X12_leads  e10) ?_
      refine q_aload_n rfl ?_
      refine q_aload_n rfl ?_
      refine q_getR ob_93 rfl rfl ?_
      obtain ⟨q11, e11, h⟩ := mbind h
      refine q_vV1 mcap_0 rfl rfl ob_93 rfl (by decide) (ok_X12_goesBy ar_94 e11) ?_
      refine q_iinc rfl rfl ?_
      refine q_goto ?_
      exact ih  h ⟨rfl, rfl, rfl, trivial⟩
def f_X12_floods (p0 : Int32) (σ : Sg) : Option (Int32 × Sg) := ((f_X12_isIn (p0).toInt64 (1 : Int32).toInt64 (100 : Int32).toInt64 σ).bind fun q12 => (if q12 = 0 then ((f_X12_finds (1 : Int32) σ).bind fun q20 => (some (q20.1, q20.2))) else (if (9999 : Int32) < ((σ 94 0) + p0) then ((f_X12_finds (3 : Int32) σ).bind fun q16 => (some (q16.1, q16.2))) else (if (σ 94 1) = 0 then ((f_X12_finds (3 : Int32) σ).bind fun q19 => (some (q19.1, q19.2))) else (c_X12_floods_49   1000 p0 (0 : Int32) σ)))))
set_option maxHeartbeats 4000000 in
theorem ok_X12_floods {L : Nat} {p0 : Int32} {σ : Sg} {R : Int32 × Sg} (h : f_X12_floods p0 σ = some R) : mEv 71 184 [.ref 93, .int p0] (mSh, L, σ) (some (.int R.1)) (mSh, L, R.2) := by
  refine mEv.of (by decide) rfl rfl ?_
  unfold f_X12_floods at h
  refine mAt.blk bk_X12_floods_0 ck_X12_floods_0 ?_
  refine q_iload_n rfl ?_
  refine q_i2l ?_
  refine q_lconst ?_
  refine q_ldc2_w ?_
  obtain ⟨q12, e12, h⟩ := mbind h
  refine q_sI3 mcap_0 rfl rfl rfl rfl (by decide) (ok_X12_isIn  e12) ?_
  refine q_if_ne (fun c13 => ?_) (fun c13 => ?_)
  · rw [if_pos c13] at h
    refine q_aload_n rfl ?_
    refine q_iconst ?_
    obtain ⟨q20, e20, h⟩ := mbind h
    refine q_vI1 mcap_0 rfl rfl ob_93 rfl (by decide) (ok_X12_finds  e20) ?_
    have h := Option.some.inj h
    subst h
    exact q_iretI mcap_0 rfl rfl
  · rw [if_neg c13] at h
    refine mAt.blk bk_X12_floods_18 ck_X12_floods_18 ?_
    refine q_aload_n rfl ?_
    refine q_getR ob_93 rfl rfl ?_
    refine q_iconst ?_
    refine q_iald (j := 0) (mrd ar_94 _ _) (by decide) (by decide) ?_
    refine q_iload_n rfl ?_
    refine q_iadd ?_
    refine q_sipush ?_
    refine q_ic_gt (fun c15 => ?_) (fun c15 => ?_)
    · rw [if_pos c15] at h
      refine mAt.blk bk_X12_floods_41 ck_X12_floods_41 ?_
      refine q_aload_n rfl ?_
      refine q_iconst ?_
      obtain ⟨q16, e16, h⟩ := mbind h
      refine q_vI1 mcap_0 rfl rfl ob_93 rfl (by decide) (ok_X12_finds  e16) ?_
      have h := Option.some.inj h
      subst h
      exact q_iretI mcap_0 rfl rfl
    · rw [if_neg c15] at h
      refine q_aload_n rfl ?_
      refine q_getR ob_93 rfl rfl ?_
      refine q_iconst ?_
      refine q_iald (j := 1) (mrd ar_94 _ _) (by decide) (by decide) ?_
      refine q_if_ne (fun c18 => ?_) (fun c18 => ?_)
      · rw [if_pos c18] at h
        refine mAt.blk bk_X12_floods_41 ck_X12_floods_41 ?_
        refine q_aload_n rfl ?_
        refine q_iconst ?_
        obtain ⟨q19, e19, h⟩ := mbind h
        refine q_vI1 mcap_0 rfl rfl ob_93 rfl (by decide) (ok_X12_finds  e19) ?_
        have h := Option.some.inj h
        subst h
        exact q_iretI mcap_0 rfl rfl
      · rw [if_neg c18] at h
        refine mAt.blk bk_X12_floods_47 ck_X12_floods_47 ?_
        refine q_iconst ?_
        refine q_istore_n rfl rfl ?_
        exact okc_X12_floods_49  h ⟨rfl, rfl, rfl, trivial⟩
def bk_X12_isAhead_0 : List mI := [(.iload_n 0, 1, 0, 0, 0, []), (.i2l, 1, 0, 0, 0, []), (.lconst 0, 1, 0, 0, 0, [(0, 0)]), (.ldc2_w 219, 3, 0, 0, 1221, [(200, 0)]), (.invokestatic 48, 3, 135, 0, 1007, []), (.ireturn, 1, 0, 0, 0, [])]
theorem ck_X12_isAhead_0 : mChk 185 0 bk_X12_isAhead_0 = true := by decide +kernel
def f_X12_isAhead (p0 : Int32) (σ : Sg) : Option (Int32) := ((f_X12_isIn (p0).toInt64 (0 : Int32).toInt64 (200 : Int32).toInt64 σ).bind fun q1 => (if q1 = 0 ∨ q1 = 1 then some q1 else none))
set_option maxHeartbeats 4000000 in
theorem ok_X12_isAhead {L : Nat} {p0 : Int32} {σ : Sg} {R : Int32} (h : f_X12_isAhead p0 σ = some R) : mEv 1 185 [.int p0] (mSh, L, σ) (some (.int R)) (mSh, L, σ) := by
  refine mEv.of (by decide) rfl rfl ?_
  unfold f_X12_isAhead at h
  refine mAt.blk bk_X12_isAhead_0 ck_X12_isAhead_0 ?_
  refine q_iload_n rfl ?_
  refine q_i2l ?_
  refine q_lconst ?_
  refine q_ldc2_w ?_
  obtain ⟨q1, e1, h⟩ := mbind h
  refine q_sI3 mcap_0 rfl rfl rfl rfl (by decide) (ok_X12_isIn  e1) ?_
  obtain ⟨c2, h⟩ := msome h
  have h := Option.some.inj h
  subst h
  exact q_iretZ mcap_0 rfl c2 rfl
def bk_X12_ahead_0 : List mI := [(.aload_n 0, 1, 0, 0, 0, []), (.getfield 7, 3, 12, 0, 937, []), (.aload_n 0, 1, 0, 0, 0, []), (.getfield 13, 3, 12, 1, 938, []), (.invokestatic 221, 3, 137, 0, 1226, []), (.aload_n 0, 1, 0, 0, 0, []), (.aload_n 0, 1, 0, 0, 0, []), (.getfield 13, 3, 12, 1, 938, []), (.iload_n 1, 1, 0, 0, 0, []), (.invokevirtual 212, 3, 181, 0, 1192, []), (.return_, 1, 0, 0, 0, [])]
theorem ck_X12_ahead_0 : mChk 186 0 bk_X12_ahead_0 = true := by decide +kernel
def f_X12_ahead (p0 : Int32) (σ : Sg) : Option (Sg) := ((f_X12_copies 94 95 σ).bind fun q1 => ((f_X12_goesOn 95 p0 q1).bind fun q2 => (some q2)))
set_option maxHeartbeats 4000000 in
theorem ok_X12_ahead {L : Nat} {p0 : Int32} {σ : Sg} {R : Sg} (h : f_X12_ahead p0 σ = some R) : mEv 72 186 [.ref 93, .int p0] (mSh, L, σ) none (mSh, L, R) := by
  refine mEv.of (by decide) rfl rfl ?_
  unfold f_X12_ahead at h
  refine mAt.blk bk_X12_ahead_0 ck_X12_ahead_0 ?_
  refine q_aload_n rfl ?_
  refine q_getR ob_93 rfl rfl ?_
  refine q_aload_n rfl ?_
  refine q_getR ob_93 rfl rfl ?_
  obtain ⟨q1, e1, h⟩ := mbind h
  refine q_sV2 mcap_0 rfl rfl rfl rfl (by decide) (ok_X12_copies ar_94 ar_95 e1) ?_
  refine q_aload_n rfl ?_
  refine q_aload_n rfl ?_
  refine q_getR ob_93 rfl rfl ?_
  refine q_iload_n rfl ?_
  obtain ⟨q2, e2, h⟩ := mbind h
  refine q_vV2 mcap_0 rfl rfl ob_93 rfl (by decide) (ok_X12_goesOn ar_95 e2) ?_
  have h := Option.some.inj h
  subst h
  exact q_vret mcap_0 rfl rfl
def bk_X12_then_0 : List mI := [(.iload_n 1, 1, 0, 0, 0, []), (.invokestatic 225, 3, 185, 0, 1218, []), (.ifCond .eq 23, 3, 27, 0, 0, []), (.aload_n 0, 1, 0, 0, 0, []), (.iload_n 2, 1, 0, 0, 0, []), (.invokevirtual 182, 3, 139, 0, 1136, []), (.ifCond .eq 15, 3, 27, 0, 0, []), (.iload_n 3, 1, 0, 0, 0, []), (.i2l, 1, 0, 0, 0, []), (.lconst 0, 1, 0, 0, 0, [(0, 0)]), (.ldc2_w 172, 3, 0, 0, 1140, [(7, 0)]), (.invokestatic 48, 3, 135, 0, 1007, []), (.ifCond .ne 9, 3, 33, 0, 0, [])]
theorem ck_X12_then_0 : mChk 187 0 bk_X12_then_0 = true := by decide +kernel
def bk_X12_then_27 : List mI := [(.aload_n 0, 1, 0, 0, 0, []), (.iconst 1, 1, 0, 0, 0, [(1, 0)]), (.invokevirtual 111, 3, 134, 0, 1010, []), (.ireturn, 1, 0, 0, 0, [])]
theorem ck_X12_then_27 : mChk 187 27 bk_X12_then_27 = true := by decide +kernel
def bk_X12_then_33 : List mI := [(.aload_n 0, 1, 0, 0, 0, []), (.iload_n 1, 1, 0, 0, 0, []), (.invokevirtual 228, 3, 186, 0, 1222, []), (.aload_n 0, 1, 0, 0, 0, []), (.aload_n 0, 1, 0, 0, 0, []), (.getfield 13, 3, 12, 1, 938, []), (.iload_n 2, 1, 0, 0, 0, []), (.iload_n 3, 1, 0, 0, 0, []), (.invokevirtual 185, 3, 170, 0, 1141, []), (.ireturn, 1, 0, 0, 0, [])]
theorem ck_X12_then_33 : mChk 187 33 bk_X12_then_33 = true := by decide +kernel
def f_X12_then (p0 : Int32) (p1 : Int32) (p2 : Int32) (σ : Sg) : Option (Int32 × Sg) := ((f_X12_isAhead p0 σ).bind fun q1 => (if q1 = 0 then ((f_X12_finds (1 : Int32) σ).bind fun q3 => (some (q3.1, q3.2))) else ((f_X12_isThing p1 σ).bind fun q4 => (if q4 = 0 then ((f_X12_finds (1 : Int32) σ).bind fun q6 => (some (q6.1, q6.2))) else ((f_X12_isIn (p2).toInt64 (0 : Int32).toInt64 (7 : Int32).toInt64 σ).bind fun q7 => (if q7 = 0 then ((f_X12_finds (1 : Int32) σ).bind fun q11 => (some (q11.1, q11.2))) else ((f_X12_ahead p0 σ).bind fun q9 => ((f_X12_ofIt 95 p1 p2 q9).bind fun q10 => (some (q10.1, q10.2))))))))))
set_option maxHeartbeats 4000000 in
theorem ok_X12_then {L : Nat} {p0 : Int32} {p1 : Int32} {p2 : Int32} {σ : Sg} {R : Int32 × Sg} (h : f_X12_then p0 p1 p2 σ = some R) : mEv 73 187 [.ref 93, .int p0, .int p1, .int p2] (mSh, L, σ) (some (.int R.1)) (mSh, L, R.2) := by
  refine mEv.of (by decide) rfl rfl ?_
  unfold f_X12_then at h
  refine mAt.blk bk_X12_then_0 ck_X12_then_0 ?_
  refine q_iload_n rfl ?_
  obtain ⟨q1, e1, h⟩ := mbind h
  refine q_sI1 mcap_0 rfl rfl rfl rfl (by decide) (ok_X12_isAhead  e1) ?_
  refine q_if_eq (fun c2 => ?_) (fun c2 => ?_)
  · rw [if_pos c2] at h
    refine mAt.blk bk_X12_then_27 ck_X12_then_27 ?_
    refine q_aload_n rfl ?_
    refine q_iconst ?_
    obtain ⟨q3, e3, h⟩ := mbind h
    refine q_vI1 mcap_0 rfl rfl ob_93 rfl (by decide) (ok_X12_finds  e3) ?_
    have h := Option.some.inj h
    subst h
    exact q_iretI mcap_0 rfl rfl
  · rw [if_neg c2] at h
    refine q_aload_n rfl ?_
    refine q_iload_n rfl ?_
    obtain ⟨q4, e4, h⟩ := mbind h
    refine q_vI1 mcap_0 rfl rfl ob_93 rfl (by decide) (ok_X12_isThing  e4) ?_
    refine q_if_eq (fun c5 => ?_) (fun c5 => ?_)
    · rw [if_pos c5] at h
      refine mAt.blk bk_X12_then_27 ck_X12_then_27 ?_
      refine q_aload_n rfl ?_
      refine q_iconst ?_
      obtain ⟨q6, e6, h⟩ := mbind h
      refine q_vI1 mcap_0 rfl rfl ob_93 rfl (by decide) (ok_X12_finds  e6) ?_
      have h := Option.some.inj h
      subst h
      exact q_iretI mcap_0 rfl rfl
    · rw [if_neg c5] at h
      refine q_iload_n rfl ?_
      refine q_i2l ?_
      refine q_lconst ?_
      refine q_ldc2_w ?_
      obtain ⟨q7, e7, h⟩ := mbind h
      refine q_sI3 mcap_0 rfl rfl rfl rfl (by decide) (ok_X12_isIn  e7) ?_
      refine q_if_ne (fun c8 => ?_) (fun c8 => ?_)
      · rw [if_pos c8] at h
        refine mAt.blk bk_X12_then_27 ck_X12_then_27 ?_
        refine q_aload_n rfl ?_
        refine q_iconst ?_
        obtain ⟨q11, e11, h⟩ := mbind h
        refine q_vI1 mcap_0 rfl rfl ob_93 rfl (by decide) (ok_X12_finds  e11) ?_
        have h := Option.some.inj h
        subst h
        exact q_iretI mcap_0 rfl rfl
      · rw [if_neg c8] at h
        refine mAt.blk bk_X12_then_33 ck_X12_then_33 ?_
        refine q_aload_n rfl ?_
        refine q_iload_n rfl ?_
        obtain ⟨q9, e9, h⟩ := mbind h
        refine q_vV1 mcap_0 rfl rfl ob_93 rfl (by decide) (ok_X12_ahead  e9) ?_
        refine q_aload_n rfl ?_
        refine q_aload_n rfl ?_
        refine q_getR ob_93 rfl rfl ?_
        refine q_iload_n rfl ?_
        refine q_iload_n rfl ?_
        obtain ⟨q10, e10, h⟩ := mbind h
        refine q_vI3 mcap_0 rfl rfl ob_93 rfl (by decide) (ok_X12_ofIt ar_95 e10) ?_
        have h := Option.some.inj h
        subst h
        exact q_iretI mcap_0 rfl rfl
def bk_X12_in_0 : List mI := [(.iload_n 1, 1, 0, 0, 0, []), (.invokestatic 225, 3, 185, 0, 1218, []), (.ifCond .eq 11, 3, 15, 0, 0, []), (.aload_n 0, 1, 0, 0, 0, []), (.iload_n 2, 1, 0, 0, 0, []), (.invokevirtual 131, 3, 138, 0, 1085, []), (.ifCond .ne 9, 3, 21, 0, 0, [])]
theorem ck_X12_in_0 : mChk 188 0 bk_X12_in_0 = true := by decide +kernel
def bk_X12_in_15 : List mI := [(.aload_n 0, 1, 0, 0, 0, []), (.iconst 1, 1, 0, 0, 0, [(1, 0)]), (.invokevirtual 111, 3, 134, 0, 1010, []), (.ireturn, 1, 0, 0, 0, [])]
theorem ck_X12_in_15 : mChk 188 15 bk_X12_in_15 = true := by decide +kernel
def bk_X12_in_21 : List mI := [(.aload_n 0, 1, 0, 0, 0, []), (.iload_n 1, 1, 0, 0, 0, []), (.invokevirtual 228, 3, 186, 0, 1222, []), (.aload_n 0, 1, 0, 0, 0, []), (.getfield 13, 3, 12, 1, 938, []), (.iconst 0, 1, 0, 0, 0, [(0, 0)]), (.iload_n 2, 1, 0, 0, 0, []), (.invokestatic 154, 3, 162, 0, 1113, []), (.ireturn, 1, 0, 0, 0, [])]
theorem ck_X12_in_21 : mChk 188 21 bk_X12_in_21 = true := by decide +kernel
def f_X12_in (p0 : Int32) (p1 : Int32) (σ : Sg) : Option (Int32 × Sg) := ((f_X12_isAhead p0 σ).bind fun q1 => (if q1 = 0 then ((f_X12_finds (1 : Int32) σ).bind fun q3 => (some (q3.1, q3.2))) else ((f_X12_isWell p1 σ).bind fun q4 => (if q4 = 0 then ((f_X12_finds (1 : Int32) σ).bind fun q8 => (some (q8.1, q8.2))) else ((f_X12_ahead p0 σ).bind fun q6 => ((f_X12_thingsIn 95 (0 : Int32) p1 q6).bind fun q7 => (some (q7, q6))))))))
set_option maxHeartbeats 4000000 in
theorem ok_X12_in {L : Nat} {p0 : Int32} {p1 : Int32} {σ : Sg} {R : Int32 × Sg} (h : f_X12_in p0 p1 σ = some R) : mEv 73 188 [.ref 93, .int p0, .int p1] (mSh, L, σ) (some (.int R.1)) (mSh, L, R.2) := by
  refine mEv.of (by decide) rfl rfl ?_
  unfold f_X12_in at h
  refine mAt.blk bk_X12_in_0 ck_X12_in_0 ?_
  refine q_iload_n rfl ?_
  obtain ⟨q1, e1, h⟩ := mbind h
  refine q_sI1 mcap_0 rfl rfl rfl rfl (by decide) (ok_X12_isAhead  e1) ?_
  refine q_if_eq (fun c2 => ?_) (fun c2 => ?_)
  · rw [if_pos c2] at h
    refine mAt.blk bk_X12_in_15 ck_X12_in_15 ?_
    refine q_aload_n rfl ?_
    refine q_iconst ?_
    obtain ⟨q3, e3, h⟩ := mbind h
    refine q_vI1 mcap_0 rfl rfl ob_93 rfl (by decide) (ok_X12_finds  e3) ?_
    have h := Option.some.inj h
    subst h
    exact q_iretI mcap_0 rfl rfl
  · rw [if_neg c2] at h
    refine q_aload_n rfl ?_
    refine q_iload_n rfl ?_
    obtain ⟨q4, e4, h⟩ := mbind h
    refine q_vI1 mcap_0 rfl rfl ob_93 rfl (by decide) (ok_X12_isWell  e4) ?_
    refine q_if_ne (fun c5 => ?_) (fun c5 => ?_)
    · rw [if_pos c5] at h
      refine mAt.blk bk_X12_in_15 ck_X12_in_15 ?_
      refine q_aload_n rfl ?_
      refine q_iconst ?_
      obtain ⟨q8, e8, h⟩ := mbind h
      refine q_vI1 mcap_0 rfl rfl ob_93 rfl (by decide) (ok_X12_finds  e8) ?_
      have h := Option.some.inj h
      subst h
      exact q_iretI mcap_0 rfl rfl
    · rw [if_neg c5] at h
      refine mAt.blk bk_X12_in_21 ck_X12_in_21 ?_
      refine q_aload_n rfl ?_
      refine q_iload_n rfl ?_
      obtain ⟨q6, e6, h⟩ := mbind h
      refine q_vV1 mcap_0 rfl rfl ob_93 rfl (by decide) (ok_X12_ahead  e6) ?_
      refine q_aload_n rfl ?_
      refine q_getR ob_93 rfl rfl ?_
      refine q_iconst ?_
      refine q_iload_n rfl ?_
      obtain ⟨q7, e7, h⟩ := mbind h
      refine q_sI3 mcap_0 rfl rfl rfl rfl (by decide) (ok_X12_thingsIn ar_95 e7) ?_
      have h := Option.some.inj h
      subst h
      exact q_iretI mcap_0 rfl rfl
def bk_X12_inWhich_0 : List mI := [(.aload_n 0, 1, 0, 0, 0, []), (.iload_n 1, 1, 0, 0, 0, []), (.iconst 2, 1, 0, 0, 0, [(2, 0)]), (.invokestatic 148, 3, 141, 0, 1116, []), (.ifCond .ne 12, 3, 18, 0, 0, []), (.aload_n 0, 1, 0, 0, 0, []), (.iload_n 1, 1, 0, 0, 0, []), (.iconst 3, 1, 0, 0, 0, [(3, 0)]), (.invokestatic 148, 3, 141, 0, 1116, []), (.goto 4, 3, 19, 0, 0, [])]
theorem ck_X12_inWhich_0 : mChk 189 0 bk_X12_inWhich_0 = true := by decide +kernel
def bk_X12_inWhich_18 : List mI := [(.iconst (-1), 1, 0, 0, 0, [((-1), 0)])]
theorem ck_X12_inWhich_18 : mChk 189 18 bk_X12_inWhich_18 = true := by decide +kernel
def bk_X12_inWhich_19 : List mI := [(.ireturn, 1, 0, 0, 0, [])]
theorem ck_X12_inWhich_19 : mChk 189 19 bk_X12_inWhich_19 = true := by decide +kernel
def f_X12_inWhich (r0 : Nat) (p1 : Int32) (σ : Sg) : Option (Int32) := ((f_X12_aThing r0 p1 (2 : Int32) σ).bind fun q1 => (if q1 = 0 then ((f_X12_aThing r0 p1 (3 : Int32) σ).bind fun q3 => (some q3)) else (some (-1 : Int32))))
set_option maxHeartbeats 4000000 in
theorem ok_X12_inWhich {L : Nat} {r0 : Nat} {p1 : Int32} {σ : Sg} {R : Int32} (hr0 : mnth mSh r0 = some (1, 320, [])) (h : f_X12_inWhich r0 p1 σ = some R) : mEv 1 189 [.ref r0, .int p1] (mSh, L, σ) (some (.int R)) (mSh, L, σ) := by
  refine mEv.of (by decide) rfl rfl ?_
  unfold f_X12_inWhich at h
  refine mAt.blk bk_X12_inWhich_0 ck_X12_inWhich_0 ?_
  refine q_aload_n rfl ?_
  refine q_iload_n rfl ?_
  refine q_iconst ?_
  obtain ⟨q1, e1, h⟩ := mbind h
  refine q_sI3 mcap_0 rfl rfl rfl rfl (by decide) (ok_X12_aThing hr0 e1) ?_
  refine q_if_ne (fun c2 => ?_) (fun c2 => ?_)
  · rw [if_pos c2] at h
    refine q_aload_n rfl ?_
    refine q_iload_n rfl ?_
    refine q_iconst ?_
    obtain ⟨q3, e3, h⟩ := mbind h
    refine q_sI3 mcap_0 rfl rfl rfl rfl (by decide) (ok_X12_aThing hr0 e3) ?_
    refine q_goto ?_
    refine mAt.blk bk_X12_inWhich_19 ck_X12_inWhich_19 ?_
    have h := Option.some.inj h
    subst h
    exact q_iretI mcap_0 rfl rfl
  · rw [if_neg c2] at h
    refine mAt.blk bk_X12_inWhich_18 ck_X12_inWhich_18 ?_
    refine q_iconst ?_
    refine mAt.blk bk_X12_inWhich_19 ck_X12_inWhich_19 ?_
    have h := Option.some.inj h
    subst h
    exact q_iretI mcap_0 rfl rfl
def bk_X12_seen_0 : List mI := [(.iload_n 1, 1, 0, 0, 0, []), (.i2l, 1, 0, 0, 0, []), (.lconst 1, 1, 0, 0, 0, [(1, 0)]), (.ldc2_w 219, 3, 0, 0, 1221, [(200, 0)]), (.invokestatic 48, 3, 135, 0, 1007, []), (.ifCond .eq 19, 3, 28, 0, 0, []), (.aload_n 0, 1, 0, 0, 0, []), (.iload_n 2, 1, 0, 0, 0, []), (.invokevirtual 182, 3, 139, 0, 1136, []), (.ifCond .eq 11, 3, 28, 0, 0, []), (.aload_n 0, 1, 0, 0, 0, []), (.iload_n 3, 1, 0, 0, 0, []), (.invokevirtual 131, 3, 138, 0, 1085, []), (.ifCond .ne 9, 3, 34, 0, 0, [])]
theorem ck_X12_seen_0 : mChk 190 0 bk_X12_seen_0 = true := by decide +kernel
def bk_X12_seen_28 : List mI := [(.aload_n 0, 1, 0, 0, 0, []), (.iconst 1, 1, 0, 0, 0, [(1, 0)]), (.invokevirtual 111, 3, 134, 0, 1010, []), (.ireturn, 1, 0, 0, 0, [])]
theorem ck_X12_seen_28 : mChk 190 28 bk_X12_seen_28 = true := by decide +kernel
def bk_X12_seen_34 : List mI := [(.aload_n 0, 1, 0, 0, 0, []), (.getfield 7, 3, 12, 0, 937, []), (.aload_n 0, 1, 0, 0, 0, []), (.getfield 13, 3, 12, 1, 938, []), (.invokestatic 221, 3, 137, 0, 1226, []), (.iconst 1, 1, 0, 0, 0, [(1, 0)]), (.istore 4, 2, 0, 0, 0, [])]
theorem ck_X12_seen_34 : mChk 190 34 bk_X12_seen_34 = true := by decide +kernel
def bk_X12_seen_48 : List mI := [(.iload 4, 2, 0, 0, 0, []), (.iload_n 1, 1, 0, 0, 0, []), (.if_icmp .gt 32, 3, 83, 0, 0, []), (.aload_n 0, 1, 0, 0, 0, []), (.aload_n 0, 1, 0, 0, 0, []), (.getfield 13, 3, 12, 1, 938, []), (.invokevirtual 206, 3, 180, 0, 1196, []), (.aload_n 0, 1, 0, 0, 0, []), (.getfield 13, 3, 12, 1, 938, []), (.iload_n 2, 1, 0, 0, 0, []), (.invokestatic 232, 3, 189, 0, 1237, []), (.iload_n 3, 1, 0, 0, 0, []), (.if_icmp .ne 6, 3, 77, 0, 0, []), (.iload 4, 2, 0, 0, 0, []), (.ireturn, 1, 0, 0, 0, [])]
theorem ck_X12_seen_48 : mChk 190 48 bk_X12_seen_48 = true := by decide +kernel
def bk_X12_seen_77 : List mI := [(.iinc 4 1, 3, 0, 0, 0, [(1, 0)]), (.goto (-32), 3, 48, 0, 0, [])]
theorem ck_X12_seen_77 : mChk 190 77 bk_X12_seen_77 = true := by decide +kernel
def bk_X12_seen_83 : List mI := [(.aload_n 0, 1, 0, 0, 0, []), (.iconst 2, 1, 0, 0, 0, [(2, 0)]), (.invokevirtual 111, 3, 134, 0, 1010, []), (.ireturn, 1, 0, 0, 0, [])]
theorem ck_X12_seen_83 : mChk 190 83 bk_X12_seen_83 = true := by decide +kernel
def c_X12_seen_48 : Nat → Int32 → Int32 → Int32 → Int32 → Sg → Option (Int32 × Sg)
  | 0, _, _, _, _, _ => none
  | n + 1, x1, x2, x3, x4, σ => (if x1 < x4 then ((f_X12_finds (2 : Int32) σ).bind fun q2 => (some (q2.1, q2.2))) else ((f_X12_goesBy 95 σ).bind fun q3 => ((f_X12_inWhich 95 x2 q3).bind fun q4 => (if q4 = x3 then (some (x4, q3)) else (c_X12_seen_48  n x1 x2 x3 (x4 + (1 : Int32)) q3)))))
set_option maxHeartbeats 4000000 in
theorem okc_X12_seen_48 {L : Nat} {R : Int32 × Sg} {n : Nat} {x1 : Int32} {x2 : Int32} {x3 : Int32} {x4 : Int32} {σ : Sg} {pl : mLoc} (h : c_X12_seen_48 n x1 x2 x3 x4 σ = some R) (hl : mlf [some (.ref 93), some (.int x1), some (.int x2), some (.int x3), some (.int x4)] pl) : mAt 71 190 (some (.int R.1), (mSh, L, R.2)) 48 pl [] (mSh, L, σ) 0 0 := by
  induction n generalizing x1 x2 x3 x4 σ pl with
  | zero =>
    rw [c_X12_seen_48.eq_1] at h
    cases h
  | succ n ih =>
    refine mAt.less hl ?_
    rw [c_X12_seen_48.eq_2] at h
    refine mAt.blk bk_X12_seen_48 ck_X12_seen_48 ?_
    refine q_iload rfl ?_
    refine q_iload_n rfl ?_
    refine q_ic_gt (fun c1 => ?_) (fun c1 => ?_)
    · rw [if_pos c1] at h
      refine mAt.blk bk_X12_seen_83 ck_X12_seen_83 ?_
      refine q_aload_n rfl ?_
      refine q_iconst ?_
      obtain ⟨q2, e2, h⟩ := mbind h
      refine q_vI1 mcap_0 rfl rfl ob_93 rfl (by decide) (ok_X12_finds  e2) ?_
      have h := Option.some.inj h
      subst h
      exact q_iretI mcap_0 rfl rfl
    · rw [if_neg c1] at h
      refine q_aload_n rfl ?_
      refine q_aload_n rfl ?_
      refine q_getR ob_93 rfl rfl ?_
      obtain ⟨q3, e3, h⟩ := mbind h
      refine q_vV1 mcap_0 rfl rfl ob_93 rfl (by decide) (ok_X12_goesBy ar_95 e3) ?_
      refine q_aload_n rfl ?_
      refine q_getR ob_93 rfl rfl ?_
      refine q_iload_n rfl ?_
      obtain ⟨q4, e4, h⟩ := mbind h
      refine q_sI2 mcap_0 rfl rfl rfl rfl (by decide) (ok_X12_inWhich ar_95 e4) ?_
      refine q_iload_n rfl ?_
      refine q_ic_ne (fun c5 => ?_) (fun c5 => ?_)
      · rw [if_pos c5] at h
        refine q_iload rfl ?_
        have h := Option.some.inj h
        subst h
        exact q_iretI mcap_0 rfl rfl
      · rw [if_neg c5] at h
        refine mAt.blk bk_X12_seen_77 ck_X12_seen_77 ?_
        refine q_iinc rfl rfl ?_
        refine q_goto ?_
        exact ih  h ⟨rfl, rfl, rfl, rfl, rfl, trivial⟩
def f_X12_seen (p0 : Int32) (p1 : Int32) (p2 : Int32) (σ : Sg) : Option (Int32 × Sg) := ((f_X12_isIn (p0).toInt64 (1 : Int32).toInt64 (200 : Int32).toInt64 σ).bind fun q6 => (if q6 = 0 then ((f_X12_finds (1 : Int32) σ).bind fun q8 => (some (q8.1, q8.2))) else ((f_X12_isThing p1 σ).bind fun q9 => (if q9 = 0 then ((f_X12_finds (1 : Int32) σ).bind fun q11 => (some (q11.1, q11.2))) else ((f_X12_isWell p2 σ).bind fun q12 => (if q12 = 0 then ((f_X12_finds (1 : Int32) σ).bind fun q15 => (some (q15.1, q15.2))) else ((f_X12_copies 94 95 σ).bind fun q14 => (c_X12_seen_48   1000 p0 p1 p2 (1 : Int32) q14))))))))
set_option maxHeartbeats 4000000 in
theorem ok_X12_seen {L : Nat} {p0 : Int32} {p1 : Int32} {p2 : Int32} {σ : Sg} {R : Int32 × Sg} (h : f_X12_seen p0 p1 p2 σ = some R) : mEv 71 190 [.ref 93, .int p0, .int p1, .int p2] (mSh, L, σ) (some (.int R.1)) (mSh, L, R.2) := by
  refine mEv.of (by decide) rfl rfl ?_
  unfold f_X12_seen at h
  refine mAt.blk bk_X12_seen_0 ck_X12_seen_0 ?_
  refine q_iload_n rfl ?_
  refine q_i2l ?_
  refine q_lconst ?_
  refine q_ldc2_w ?_
  obtain ⟨q6, e6, h⟩ := mbind h
  refine q_sI3 mcap_0 rfl rfl rfl rfl (by decide) (ok_X12_isIn  e6) ?_
  refine q_if_eq (fun c7 => ?_) (fun c7 => ?_)
  · rw [if_pos c7] at h
    refine mAt.blk bk_X12_seen_28 ck_X12_seen_28 ?_
    refine q_aload_n rfl ?_
    refine q_iconst ?_
    obtain ⟨q8, e8, h⟩ := mbind h
    refine q_vI1 mcap_0 rfl rfl ob_93 rfl (by decide) (ok_X12_finds  e8) ?_
    have h := Option.some.inj h
    subst h
    exact q_iretI mcap_0 rfl rfl
  · rw [if_neg c7] at h
    refine q_aload_n rfl ?_
    refine q_iload_n rfl ?_
    obtain ⟨q9, e9, h⟩ := mbind h
    refine q_vI1 mcap_0 rfl rfl ob_93 rfl (by decide) (ok_X12_isThing  e9) ?_
    refine q_if_eq (fun c10 => ?_) (fun c10 => ?_)
    · rw [if_pos c10] at h
      refine mAt.blk bk_X12_seen_28 ck_X12_seen_28 ?_
      refine q_aload_n rfl ?_
      refine q_iconst ?_
      obtain ⟨q11, e11, h⟩ := mbind h
      refine q_vI1 mcap_0 rfl rfl ob_93 rfl (by decide) (ok_X12_finds  e11) ?_
      have h := Option.some.inj h
      subst h
      exact q_iretI mcap_0 rfl rfl
    · rw [if_neg c10] at h
      refine q_aload_n rfl ?_
      refine q_iload_n rfl ?_
      obtain ⟨q12, e12, h⟩ := mbind h
      refine q_vI1 mcap_0 rfl rfl ob_93 rfl (by decide) (ok_X12_isWell  e12) ?_
      refine q_if_ne (fun c13 => ?_) (fun c13 => ?_)
      · rw [if_pos c13] at h
        refine mAt.blk bk_X12_seen_28 ck_X12_seen_28 ?_
        refine q_aload_n rfl ?_
        refine q_iconst ?_
        obtain ⟨q15, e15, h⟩ := mbind h
        refine q_vI1 mcap_0 rfl rfl ob_93 rfl (by decide) (ok_X12_finds  e15) ?_
        have h := Option.some.inj h
        subst h
        exact q_iretI mcap_0 rfl rfl
      · rw [if_neg c13] at h
        refine mAt.blk bk_X12_seen_34 ck_X12_seen_34 ?_
        refine q_aload_n rfl ?_
        refine q_getR ob_93 rfl rfl ?_
        refine q_aload_n rfl ?_
        refine q_getR ob_93 rfl rfl ?_
        obtain ⟨q14, e14, h⟩ := mbind h
        refine q_sV2 mcap_0 rfl rfl rfl rfl (by decide) (ok_X12_copies ar_94 ar_95 e14) ?_
        refine q_iconst ?_
        refine q_istore rfl rfl ?_
        exact okc_X12_seen_48  h ⟨rfl, rfl, rfl, rfl, rfl, trivial⟩
def bk_X12_round_0 : List mI := [(.aload_n 0, 1, 0, 0, 0, []), (.iload_n 1, 1, 0, 0, 0, []), (.invokevirtual 182, 3, 139, 0, 1136, []), (.ifCond .eq 11, 3, 16, 0, 0, []), (.aload_n 0, 1, 0, 0, 0, []), (.iload_n 2, 1, 0, 0, 0, []), (.invokevirtual 131, 3, 138, 0, 1085, []), (.ifCond .ne 9, 3, 22, 0, 0, [])]
theorem ck_X12_round_0 : mChk 191 0 bk_X12_round_0 = true := by decide +kernel
def bk_X12_round_16 : List mI := [(.aload_n 0, 1, 0, 0, 0, []), (.iconst 1, 1, 0, 0, 0, [(1, 0)]), (.invokevirtual 111, 3, 134, 0, 1010, []), (.ireturn, 1, 0, 0, 0, [])]
theorem ck_X12_round_16 : mChk 191 16 bk_X12_round_16 = true := by decide +kernel
def bk_X12_round_22 : List mI := [(.aload_n 0, 1, 0, 0, 0, []), (.getfield 7, 3, 12, 0, 937, []), (.aload_n 0, 1, 0, 0, 0, []), (.getfield 13, 3, 12, 1, 938, []), (.invokestatic 221, 3, 137, 0, 1226, []), (.iconst 0, 1, 0, 0, 0, [(0, 0)]), (.istore_n 3, 1, 0, 0, 0, [])]
theorem ck_X12_round_22 : mChk 191 22 bk_X12_round_22 = true := by decide +kernel
def bk_X12_round_35 : List mI := [(.iload_n 3, 1, 0, 0, 0, []), (.aload_n 0, 1, 0, 0, 0, []), (.getfield 13, 3, 12, 1, 938, []), (.iconst 2, 1, 0, 0, 0, [(2, 0)]), (.iaload, 1, 0, 0, 0, []), (.if_icmp .ge 38, 3, 80, 0, 0, []), (.aload_n 0, 1, 0, 0, 0, []), (.getfield 13, 3, 12, 1, 938, []), (.iload_n 3, 1, 0, 0, 0, []), (.iload_n 3, 1, 0, 0, 0, []), (.iload_n 1, 1, 0, 0, 0, []), (.if_icmp .ne 7, 3, 59, 0, 0, []), (.iconst 0, 1, 0, 0, 0, [(0, 0)]), (.goto 4, 3, 60, 0, 0, [])]
theorem ck_X12_round_35 : mChk 191 35 bk_X12_round_35 = true := by decide +kernel
def bk_X12_round_59 : List mI := [(.iconst 2, 1, 0, 0, 0, [(2, 0)])]
theorem ck_X12_round_59 : mChk 191 59 bk_X12_round_59 = true := by decide +kernel
def bk_X12_round_60 : List mI := [(.iload_n 3, 1, 0, 0, 0, []), (.iload_n 1, 1, 0, 0, 0, []), (.if_icmp .ne 7, 3, 69, 0, 0, []), (.iload_n 2, 1, 0, 0, 0, []), (.goto 4, 3, 70, 0, 0, [])]
theorem ck_X12_round_60 : mChk 191 60 bk_X12_round_60 = true := by decide +kernel
def bk_X12_round_69 : List mI := [(.iconst (-1), 1, 0, 0, 0, [((-1), 0)])]
theorem ck_X12_round_69 : mChk 191 69 bk_X12_round_69 = true := by decide +kernel
def bk_X12_round_70 : List mI := [(.iconst 0, 1, 0, 0, 0, [(0, 0)]), (.invokestatic 197, 3, 175, 0, 1180, []), (.iinc 3 1, 3, 0, 0, 0, [(1, 0)]), (.goto (-42), 3, 35, 0, 0, [])]
theorem ck_X12_round_70 : mChk 191 70 bk_X12_round_70 = true := by decide +kernel
def bk_X12_round_80 : List mI := [(.iconst 0, 1, 0, 0, 0, [(0, 0)]), (.istore_n 3, 1, 0, 0, 0, [])]
theorem ck_X12_round_80 : mChk 191 80 bk_X12_round_80 = true := by decide +kernel
def bk_X12_round_82 : List mI := [(.iload_n 3, 1, 0, 0, 0, []), (.aload_n 0, 1, 0, 0, 0, []), (.getfield 13, 3, 12, 1, 938, []), (.iconst 1, 1, 0, 0, 0, [(1, 0)]), (.iaload, 1, 0, 0, 0, []), (.if_icmp .ge 23, 3, 112, 0, 0, []), (.aload_n 0, 1, 0, 0, 0, []), (.getfield 13, 3, 12, 1, 938, []), (.bipush 10, 2, 0, 0, 0, [(10, 0)]), (.iconst 4, 1, 0, 0, 0, [(4, 0)]), (.iload_n 3, 1, 0, 0, 0, []), (.imul, 1, 0, 0, 0, []), (.iadd, 1, 0, 0, 0, []), (.iconst 3, 1, 0, 0, 0, [(3, 0)]), (.iadd, 1, 0, 0, 0, []), (.iconst 0, 1, 0, 0, 0, [(0, 0)]), (.iastore, 1, 0, 0, 0, []), (.iinc 3 1, 3, 0, 0, 0, [(1, 0)]), (.goto (-27), 3, 82, 0, 0, [])]
theorem ck_X12_round_82 : mChk 191 82 bk_X12_round_82 = true := by decide +kernel
def bk_X12_round_112 : List mI := [(.iconst 0, 1, 0, 0, 0, [(0, 0)]), (.istore_n 3, 1, 0, 0, 0, []), (.iconst 1, 1, 0, 0, 0, [(1, 0)]), (.istore 4, 2, 0, 0, 0, [])]
theorem ck_X12_round_112 : mChk 191 112 bk_X12_round_112 = true := by decide +kernel
def bk_X12_round_117 : List mI := [(.iload 4, 2, 0, 0, 0, []), (.sipush 200, 3, 0, 0, 0, [(200, 0)]), (.if_icmp .gt 57, 3, 179, 0, 0, []), (.aload_n 0, 1, 0, 0, 0, []), (.aload_n 0, 1, 0, 0, 0, []), (.getfield 13, 3, 12, 1, 938, []), (.invokevirtual 206, 3, 180, 0, 1196, []), (.iload_n 3, 1, 0, 0, 0, []), (.ifCond .ne 14, 3, 148, 0, 0, []), (.aload_n 0, 1, 0, 0, 0, []), (.getfield 13, 3, 12, 1, 938, []), (.iload_n 1, 1, 0, 0, 0, []), (.invokestatic 232, 3, 189, 0, 1237, []), (.ifCond .ge 7, 3, 152, 0, 0, [])]
theorem ck_X12_round_117 : mChk 191 117 bk_X12_round_117 = true := by decide +kernel
def bk_X12_round_148 : List mI := [(.iconst 1, 1, 0, 0, 0, [(1, 0)]), (.goto 4, 3, 153, 0, 0, [])]
theorem ck_X12_round_148 : mChk 191 148 bk_X12_round_148 = true := by decide +kernel
def bk_X12_round_152 : List mI := [(.iconst 0, 1, 0, 0, 0, [(0, 0)])]
theorem ck_X12_round_152 : mChk 191 152 bk_X12_round_152 = true := by decide +kernel
def bk_X12_round_153 : List mI := [(.istore_n 3, 1, 0, 0, 0, []), (.iload_n 3, 1, 0, 0, 0, []), (.ifCond .eq 18, 3, 173, 0, 0, []), (.aload_n 0, 1, 0, 0, 0, []), (.getfield 13, 3, 12, 1, 938, []), (.iload_n 1, 1, 0, 0, 0, []), (.invokestatic 232, 3, 189, 0, 1237, []), (.iload_n 2, 1, 0, 0, 0, []), (.if_icmp .ne 6, 3, 173, 0, 0, []), (.iload 4, 2, 0, 0, 0, []), (.ireturn, 1, 0, 0, 0, [])]
theorem ck_X12_round_153 : mChk 191 153 bk_X12_round_153 = true := by decide +kernel
def bk_X12_round_173 : List mI := [(.iinc 4 1, 3, 0, 0, 0, [(1, 0)]), (.goto (-59), 3, 117, 0, 0, [])]
theorem ck_X12_round_173 : mChk 191 173 bk_X12_round_173 = true := by decide +kernel
def bk_X12_round_179 : List mI := [(.aload_n 0, 1, 0, 0, 0, []), (.iconst 2, 1, 0, 0, 0, [(2, 0)]), (.invokevirtual 111, 3, 134, 0, 1010, []), (.ireturn, 1, 0, 0, 0, [])]
theorem ck_X12_round_179 : mChk 191 179 bk_X12_round_179 = true := by decide +kernel
def c_X12_round_70 (k35 : Int32 → Int32 → Int32 → Sg → Option (Int32 × Sg)) (x1 : Int32) (x2 : Int32) (x3 : Int32) (s1 : Int32) (s2 : Int32) (s3 : Int32) (σ : Sg) : Option (Int32 × Sg) := ((f_X12_puts 95 s1 s2 s3 (0 : Int32) σ).bind fun q5 => (k35 x1 x2 (x3 + (1 : Int32)) q5))
set_option maxHeartbeats 4000000 in
theorem okc_X12_round_70 {L : Nat} {k35 : Int32 → Int32 → Int32 → Sg → Option (Int32 × Sg)} {R : Int32 × Sg} (Hk35 : ∀ (x1 : Int32) (x2 : Int32) (x3 : Int32) (σ : Sg) (pl : mLoc), k35 x1 x2 x3 σ = some R → mlf [some (.ref 93), some (.int x1), some (.int x2), some (.int x3), none] pl → mAt 71 191 (some (.int R.1), (mSh, L, R.2)) 35 pl [] (mSh, L, σ) 0 0) {x1 : Int32} {x2 : Int32} {x3 : Int32} {s1 : Int32} {s2 : Int32} {s3 : Int32} {σ : Sg} {pl : mLoc} (h : c_X12_round_70 k35 x1 x2 x3 s1 s2 s3 σ = some R) (hl : mlf [some (.ref 93), some (.int x1), some (.int x2), some (.int x3), none] pl) : mAt 71 191 (some (.int R.1), (mSh, L, R.2)) 70 pl [.int s3, .int s2, .int s1, .ref 95] (mSh, L, σ) 0 0 := by
  refine mAt.less hl ?_
  unfold c_X12_round_70 at h
  refine mAt.blk bk_X12_round_70 ck_X12_round_70 ?_
  refine q_iconst ?_
  obtain ⟨q5, e5, h⟩ := mbind h
  refine q_sV5 mcap_0 rfl rfl rfl rfl (by decide) (ok_X12_puts ar_95 e5) ?_
  refine q_iinc rfl rfl ?_
  refine q_goto ?_
  exact Hk35 _ _ _ _ _  h ⟨rfl, rfl, rfl, rfl, trivial⟩
def c_X12_round_173 (k117 : Int32 → Int32 → Int32 → Int32 → Sg → Option (Int32 × Sg)) (x1 : Int32) (x2 : Int32) (x3 : Int32) (x4 : Int32) (σ : Sg) : Option (Int32 × Sg) := (k117 x1 x2 x3 (x4 + (1 : Int32)) σ)
set_option maxHeartbeats 4000000 in
theorem okc_X12_round_173 {L : Nat} {k117 : Int32 → Int32 → Int32 → Int32 → Sg → Option (Int32 × Sg)} {R : Int32 × Sg} (Hk117 : ∀ (x1 : Int32) (x2 : Int32) (x3 : Int32) (x4 : Int32) (σ : Sg) (pl : mLoc), k117 x1 x2 x3 x4 σ = some R → mlf [some (.ref 93), some (.int x1), some (.int x2), some (.int x3), some (.int x4)] pl → mAt 71 191 (some (.int R.1), (mSh, L, R.2)) 117 pl [] (mSh, L, σ) 0 0) {x1 : Int32} {x2 : Int32} {x3 : Int32} {x4 : Int32} {σ : Sg} {pl : mLoc} (h : c_X12_round_173 k117 x1 x2 x3 x4 σ = some R) (hl : mlf [some (.ref 93), some (.int x1), some (.int x2), some (.int x3), some (.int x4)] pl) : mAt 71 191 (some (.int R.1), (mSh, L, R.2)) 173 pl [] (mSh, L, σ) 0 0 := by
  refine mAt.less hl ?_
  unfold c_X12_round_173 at h
  refine mAt.blk bk_X12_round_173 ck_X12_round_173 ?_
  refine q_iinc rfl rfl ?_
  refine q_goto ?_
  exact Hk117 _ _ _ _ _ _  h ⟨rfl, rfl, rfl, rfl, rfl, trivial⟩
def c_X12_round_60 (k35 : Int32 → Int32 → Int32 → Sg → Option (Int32 × Sg)) (x1 : Int32) (x2 : Int32) (x3 : Int32) (s1 : Int32) (s2 : Int32) (σ : Sg) : Option (Int32 × Sg) := (if x3 = x1 then (c_X12_round_70 k35  x1 x2 x3 s1 s2 x2 σ) else (c_X12_round_70 k35  x1 x2 x3 s1 s2 (-1 : Int32) σ))
set_option maxHeartbeats 4000000 in
theorem okc_X12_round_60 {L : Nat} {k35 : Int32 → Int32 → Int32 → Sg → Option (Int32 × Sg)} {R : Int32 × Sg} (Hk35 : ∀ (x1 : Int32) (x2 : Int32) (x3 : Int32) (σ : Sg) (pl : mLoc), k35 x1 x2 x3 σ = some R → mlf [some (.ref 93), some (.int x1), some (.int x2), some (.int x3), none] pl → mAt 71 191 (some (.int R.1), (mSh, L, R.2)) 35 pl [] (mSh, L, σ) 0 0) {x1 : Int32} {x2 : Int32} {x3 : Int32} {s1 : Int32} {s2 : Int32} {σ : Sg} {pl : mLoc} (h : c_X12_round_60 k35 x1 x2 x3 s1 s2 σ = some R) (hl : mlf [some (.ref 93), some (.int x1), some (.int x2), some (.int x3), none] pl) : mAt 71 191 (some (.int R.1), (mSh, L, R.2)) 60 pl [.int s2, .int s1, .ref 95] (mSh, L, σ) 0 0 := by
  refine mAt.less hl ?_
  unfold c_X12_round_60 at h
  refine mAt.blk bk_X12_round_60 ck_X12_round_60 ?_
  refine q_iload_n rfl ?_
  refine q_iload_n rfl ?_
  refine q_ic_ne (fun c4 => ?_) (fun c4 => ?_)
  · rw [if_pos c4] at h
    refine q_iload_n rfl ?_
    refine q_goto ?_
    exact okc_X12_round_70 Hk35 h ⟨rfl, rfl, rfl, rfl, trivial⟩
  · rw [if_neg c4] at h
    refine mAt.blk bk_X12_round_69 ck_X12_round_69 ?_
    refine q_iconst ?_
    exact okc_X12_round_70 Hk35 h ⟨rfl, rfl, rfl, rfl, trivial⟩
def c_X12_round_153 (k117 : Int32 → Int32 → Int32 → Int32 → Sg → Option (Int32 × Sg)) (x1 : Int32) (x2 : Int32) (x4 : Int32) (s0 : Int32) (σ : Sg) : Option (Int32 × Sg) := (if s0 = 0 then (c_X12_round_173 k117  x1 x2 s0 x4 σ) else ((f_X12_inWhich 95 x1 σ).bind fun q16 => (if q16 = x2 then (some (x4, σ)) else (c_X12_round_173 k117  x1 x2 s0 x4 σ))))
set_option maxHeartbeats 4000000 in
theorem okc_X12_round_153 {L : Nat} {k117 : Int32 → Int32 → Int32 → Int32 → Sg → Option (Int32 × Sg)} {R : Int32 × Sg} (Hk117 : ∀ (x1 : Int32) (x2 : Int32) (x3 : Int32) (x4 : Int32) (σ : Sg) (pl : mLoc), k117 x1 x2 x3 x4 σ = some R → mlf [some (.ref 93), some (.int x1), some (.int x2), some (.int x3), some (.int x4)] pl → mAt 71 191 (some (.int R.1), (mSh, L, R.2)) 117 pl [] (mSh, L, σ) 0 0) {x1 : Int32} {x2 : Int32} {x4 : Int32} {s0 : Int32} {σ : Sg} {pl : mLoc} (h : c_X12_round_153 k117 x1 x2 x4 s0 σ = some R) (hl : mlf [some (.ref 93), some (.int x1), some (.int x2), none, some (.int x4)] pl) : mAt 71 191 (some (.int R.1), (mSh, L, R.2)) 153 pl [.int s0] (mSh, L, σ) 0 0 := by
  refine mAt.less hl ?_
  unfold c_X12_round_153 at h
  refine mAt.blk bk_X12_round_153 ck_X12_round_153 ?_
  refine q_istore_n rfl rfl ?_
  refine q_iload_n rfl ?_
  refine q_if_eq (fun c15 => ?_) (fun c15 => ?_)
  · rw [if_pos c15] at h
    exact okc_X12_round_173 Hk117 h ⟨rfl, rfl, rfl, rfl, rfl, trivial⟩
  · rw [if_neg c15] at h
    refine q_aload_n rfl ?_
    refine q_getR ob_93 rfl rfl ?_
    refine q_iload_n rfl ?_
    obtain ⟨q16, e16, h⟩ := mbind h
    refine q_sI2 mcap_0 rfl rfl rfl rfl (by decide) (ok_X12_inWhich ar_95 e16) ?_
    refine q_iload_n rfl ?_
    refine q_ic_ne (fun c17 => ?_) (fun c17 => ?_)
    · rw [if_pos c17] at h
      refine q_iload rfl ?_
      have h := Option.some.inj h
      subst h
      exact q_iretI mcap_0 rfl rfl
    · rw [if_neg c17] at h
      exact okc_X12_round_173 Hk117 h ⟨rfl, rfl, rfl, rfl, rfl, trivial⟩
def c_X12_round_148 (k117 : Int32 → Int32 → Int32 → Int32 → Sg → Option (Int32 × Sg)) (x1 : Int32) (x2 : Int32) (x4 : Int32) (σ : Sg) : Option (Int32 × Sg) := (c_X12_round_153 k117  x1 x2 x4 (1 : Int32) σ)
set_option maxHeartbeats 4000000 in
theorem okc_X12_round_148 {L : Nat} {k117 : Int32 → Int32 → Int32 → Int32 → Sg → Option (Int32 × Sg)} {R : Int32 × Sg} (Hk117 : ∀ (x1 : Int32) (x2 : Int32) (x3 : Int32) (x4 : Int32) (σ : Sg) (pl : mLoc), k117 x1 x2 x3 x4 σ = some R → mlf [some (.ref 93), some (.int x1), some (.int x2), some (.int x3), some (.int x4)] pl → mAt 71 191 (some (.int R.1), (mSh, L, R.2)) 117 pl [] (mSh, L, σ) 0 0) {x1 : Int32} {x2 : Int32} {x4 : Int32} {σ : Sg} {pl : mLoc} (h : c_X12_round_148 k117 x1 x2 x4 σ = some R) (hl : mlf [some (.ref 93), some (.int x1), some (.int x2), none, some (.int x4)] pl) : mAt 71 191 (some (.int R.1), (mSh, L, R.2)) 148 pl [] (mSh, L, σ) 0 0 := by
  refine mAt.less hl ?_
  unfold c_X12_round_148 at h
  refine mAt.blk bk_X12_round_148 ck_X12_round_148 ?_
  refine q_iconst ?_
  refine q_goto ?_
  exact okc_X12_round_153 Hk117 h ⟨rfl, rfl, rfl, rfl, trivial⟩
def c_X12_round_117 : Nat → Int32 → Int32 → Int32 → Int32 → Sg → Option (Int32 × Sg)
  | 0, _, _, _, _, _ => none
  | n + 1, x1, x2, x3, x4, σ => (if (200 : Int32) < x4 then ((f_X12_finds (2 : Int32) σ).bind fun q10 => (some (q10.1, q10.2))) else ((f_X12_goesBy 95 σ).bind fun q11 => (if x3 = 0 then ((f_X12_inWhich 95 x1 q11).bind fun q13 => (if 0 ≤ q13 then (c_X12_round_153 (c_X12_round_117  n)  x1 x2 x4 (0 : Int32) q11) else (c_X12_round_148 (c_X12_round_117  n)  x1 x2 x4 q11))) else (c_X12_round_148 (c_X12_round_117  n)  x1 x2 x4 q11))))
set_option maxHeartbeats 4000000 in
theorem okc_X12_round_117 {L : Nat} {R : Int32 × Sg} {n : Nat} {x1 : Int32} {x2 : Int32} {x3 : Int32} {x4 : Int32} {σ : Sg} {pl : mLoc} (h : c_X12_round_117 n x1 x2 x3 x4 σ = some R) (hl : mlf [some (.ref 93), some (.int x1), some (.int x2), some (.int x3), some (.int x4)] pl) : mAt 71 191 (some (.int R.1), (mSh, L, R.2)) 117 pl [] (mSh, L, σ) 0 0 := by
  induction n generalizing x1 x2 x3 x4 σ pl with
  | zero =>
    rw [c_X12_round_117.eq_1] at h
    cases h
  | succ n ih =>
    refine mAt.less hl ?_
    rw [c_X12_round_117.eq_2] at h
    refine mAt.blk bk_X12_round_117 ck_X12_round_117 ?_
    refine q_iload rfl ?_
    refine q_sipush ?_
    refine q_ic_gt (fun c9 => ?_) (fun c9 => ?_)
    · rw [if_pos c9] at h
      refine mAt.blk bk_X12_round_179 ck_X12_round_179 ?_
      refine q_aload_n rfl ?_
      refine q_iconst ?_
      obtain ⟨q10, e10, h⟩ := mbind h
      refine q_vI1 mcap_0 rfl rfl ob_93 rfl (by decide) (ok_X12_finds  e10) ?_
      have h := Option.some.inj h
      subst h
      exact q_iretI mcap_0 rfl rfl
    · rw [if_neg c9] at h
      refine q_aload_n rfl ?_
      refine q_aload_n rfl ?_
      refine q_getR ob_93 rfl rfl ?_
      obtain ⟨q11, e11, h⟩ := mbind h
      refine q_vV1 mcap_0 rfl rfl ob_93 rfl (by decide) (ok_X12_goesBy ar_95 e11) ?_
      refine q_iload_n rfl ?_
      refine q_if_ne (fun c12 => ?_) (fun c12 => ?_)
      · rw [if_pos c12] at h
        refine q_aload_n rfl ?_
        refine q_getR ob_93 rfl rfl ?_
        refine q_iload_n rfl ?_
        obtain ⟨q13, e13, h⟩ := mbind h
        refine q_sI2 mcap_0 rfl rfl rfl rfl (by decide) (ok_X12_inWhich ar_95 e13) ?_
        refine q_if_ge (fun c14 => ?_) (fun c14 => ?_)
        · rw [if_pos c14] at h
          refine mAt.blk bk_X12_round_152 ck_X12_round_152 ?_
          refine q_iconst ?_
          exact okc_X12_round_153 (fun _ _ _ _ _ _ e hl => ih  e hl) h ⟨rfl, rfl, rfl, rfl, trivial⟩
        · rw [if_neg c14] at h
          exact okc_X12_round_148 (fun _ _ _ _ _ _ e hl => ih  e hl) h ⟨rfl, rfl, rfl, rfl, trivial⟩
      · rw [if_neg c12] at h
        exact okc_X12_round_148 (fun _ _ _ _ _ _ e hl => ih  e hl) h ⟨rfl, rfl, rfl, rfl, trivial⟩
def c_X12_round_112 (x1 : Int32) (x2 : Int32) (σ : Sg) : Option (Int32 × Sg) := (c_X12_round_117   1000 x1 x2 (0 : Int32) (1 : Int32) σ)
set_option maxHeartbeats 4000000 in
theorem okc_X12_round_112 {L : Nat} {R : Int32 × Sg} {x1 : Int32} {x2 : Int32} {σ : Sg} {pl : mLoc} (h : c_X12_round_112 x1 x2 σ = some R) (hl : mlf [some (.ref 93), some (.int x1), some (.int x2), none, none] pl) : mAt 71 191 (some (.int R.1), (mSh, L, R.2)) 112 pl [] (mSh, L, σ) 0 0 := by
  refine mAt.less hl ?_
  unfold c_X12_round_112 at h
  refine mAt.blk bk_X12_round_112 ck_X12_round_112 ?_
  refine q_iconst ?_
  refine q_istore_n rfl rfl ?_
  refine q_iconst ?_
  refine q_istore rfl rfl ?_
  exact okc_X12_round_117  h ⟨rfl, rfl, rfl, rfl, rfl, trivial⟩
def c_X12_round_82 : Nat → Int32 → Int32 → Int32 → Sg → Option (Int32 × Sg)
  | 0, _, _, _, _ => none
  | n + 1, x1, x2, x3, σ => (if (σ 95 1) ≤ x3 then (c_X12_round_112   x1 x2 σ) else (if (((10 : Int32) + ((4 : Int32) * x3)) + (3 : Int32)) < 0 ∨ 320 ≤ ((((10 : Int32) + ((4 : Int32) * x3)) + (3 : Int32))).toNatClampNeg then none else (c_X12_round_82  n x1 x2 (x3 + (1 : Int32)) (mup σ 95 ((((10 : Int32) + ((4 : Int32) * x3)) + (3 : Int32))).toNatClampNeg (0 : Int32)))))
set_option maxHeartbeats 4000000 in
theorem okc_X12_round_82 {L : Nat} {R : Int32 × Sg} {n : Nat} {x1 : Int32} {x2 : Int32} {x3 : Int32} {σ : Sg} {pl : mLoc} (h : c_X12_round_82 n x1 x2 x3 σ = some R) (hl : mlf [some (.ref 93), some (.int x1), some (.int x2), some (.int x3), none] pl) : mAt 71 191 (some (.int R.1), (mSh, L, R.2)) 82 pl [] (mSh, L, σ) 0 0 := by
  induction n generalizing x1 x2 x3 σ pl with
  | zero =>
    rw [c_X12_round_82.eq_1] at h
    cases h
  | succ n ih =>
    refine mAt.less hl ?_
    rw [c_X12_round_82.eq_2] at h
    refine mAt.blk bk_X12_round_82 ck_X12_round_82 ?_
    refine q_iload_n rfl ?_
    refine q_aload_n rfl ?_
    refine q_getR ob_93 rfl rfl ?_
    refine q_iconst ?_
    refine q_iald (j := 1) (mrd ar_95 _ _) (by decide) (by decide) ?_
    refine q_ic_ge (fun c7 => ?_) (fun c7 => ?_)
    · rw [if_pos c7] at h
      exact okc_X12_round_112  h ⟨rfl, rfl, rfl, trivial⟩
    · rw [if_neg c7] at h
      refine q_aload_n rfl ?_
      refine q_getR ob_93 rfl rfl ?_
      refine q_bipush ?_
      refine q_iconst ?_
      refine q_iload_n rfl ?_
      refine q_imul ?_
      refine q_iadd ?_
      refine q_iconst ?_
      refine q_iadd ?_
      refine q_iconst ?_
      obtain ⟨c8, h⟩ := mnone h
      refine q_iast rfl ar_95 c8 ?_
      refine q_iinc rfl rfl ?_
      refine q_goto ?_
      exact ih  h ⟨rfl, rfl, rfl, rfl, trivial⟩
def c_X12_round_80 (x1 : Int32) (x2 : Int32) (σ : Sg) : Option (Int32 × Sg) := (c_X12_round_82   1000 x1 x2 (0 : Int32) σ)
set_option maxHeartbeats 4000000 in
theorem okc_X12_round_80 {L : Nat} {R : Int32 × Sg} {x1 : Int32} {x2 : Int32} {σ : Sg} {pl : mLoc} (h : c_X12_round_80 x1 x2 σ = some R) (hl : mlf [some (.ref 93), some (.int x1), some (.int x2), none, none] pl) : mAt 71 191 (some (.int R.1), (mSh, L, R.2)) 80 pl [] (mSh, L, σ) 0 0 := by
  refine mAt.less hl ?_
  unfold c_X12_round_80 at h
  refine mAt.blk bk_X12_round_80 ck_X12_round_80 ?_
  refine q_iconst ?_
  refine q_istore_n rfl rfl ?_
  exact okc_X12_round_82  h ⟨rfl, rfl, rfl, rfl, trivial⟩
def c_X12_round_35 : Nat → Int32 → Int32 → Int32 → Sg → Option (Int32 × Sg)
  | 0, _, _, _, _ => none
  | n + 1, x1, x2, x3, σ => (if (σ 95 2) ≤ x3 then (c_X12_round_80   x1 x2 σ) else (if x3 = x1 then (c_X12_round_60 (c_X12_round_35  n)  x1 x2 x3 x3 (0 : Int32) σ) else (c_X12_round_60 (c_X12_round_35  n)  x1 x2 x3 x3 (2 : Int32) σ)))
set_option maxHeartbeats 4000000 in
theorem okc_X12_round_35 {L : Nat} {R : Int32 × Sg} {n : Nat} {x1 : Int32} {x2 : Int32} {x3 : Int32} {σ : Sg} {pl : mLoc} (h : c_X12_round_35 n x1 x2 x3 σ = some R) (hl : mlf [some (.ref 93), some (.int x1), some (.int x2), some (.int x3), none] pl) : mAt 71 191 (some (.int R.1), (mSh, L, R.2)) 35 pl [] (mSh, L, σ) 0 0 := by
  induction n generalizing x1 x2 x3 σ pl with
  | zero =>
    rw [c_X12_round_35.eq_1] at h
    cases h
  | succ n ih =>
    refine mAt.less hl ?_
    rw [c_X12_round_35.eq_2] at h
    refine mAt.blk bk_X12_round_35 ck_X12_round_35 ?_
    refine q_iload_n rfl ?_
    refine q_aload_n rfl ?_
    refine q_getR ob_93 rfl rfl ?_
    refine q_iconst ?_
    refine q_iald (j := 2) (mrd ar_95 _ _) (by decide) (by decide) ?_
    refine q_ic_ge (fun c2 => ?_) (fun c2 => ?_)
    · rw [if_pos c2] at h
      exact okc_X12_round_80  h ⟨rfl, rfl, rfl, trivial⟩
    · rw [if_neg c2] at h
      refine q_aload_n rfl ?_
      refine q_getR ob_93 rfl rfl ?_
      refine q_iload_n rfl ?_
      refine q_iload_n rfl ?_
      refine q_iload_n rfl ?_
      refine q_ic_ne (fun c3 => ?_) (fun c3 => ?_)
      · rw [if_pos c3] at h
        refine q_iconst ?_
        refine q_goto ?_
        exact okc_X12_round_60 (fun _ _ _ _ _ e hl => ih  e hl) h ⟨rfl, rfl, rfl, rfl, trivial⟩
      · rw [if_neg c3] at h
        refine mAt.blk bk_X12_round_59 ck_X12_round_59 ?_
        refine q_iconst ?_
        exact okc_X12_round_60 (fun _ _ _ _ _ e hl => ih  e hl) h ⟨rfl, rfl, rfl, rfl, trivial⟩
def f_X12_round (p0 : Int32) (p1 : Int32) (σ : Sg) : Option (Int32 × Sg) := ((f_X12_isThing p0 σ).bind fun q18 => (if q18 = 0 then ((f_X12_finds (1 : Int32) σ).bind fun q20 => (some (q20.1, q20.2))) else ((f_X12_isWell p1 σ).bind fun q21 => (if q21 = 0 then ((f_X12_finds (1 : Int32) σ).bind fun q24 => (some (q24.1, q24.2))) else ((f_X12_copies 94 95 σ).bind fun q23 => (c_X12_round_35   1000 p0 p1 (0 : Int32) q23))))))
set_option maxHeartbeats 4000000 in
theorem ok_X12_round {L : Nat} {p0 : Int32} {p1 : Int32} {σ : Sg} {R : Int32 × Sg} (h : f_X12_round p0 p1 σ = some R) : mEv 71 191 [.ref 93, .int p0, .int p1] (mSh, L, σ) (some (.int R.1)) (mSh, L, R.2) := by
  refine mEv.of (by decide) rfl rfl ?_
  unfold f_X12_round at h
  refine mAt.blk bk_X12_round_0 ck_X12_round_0 ?_
  refine q_aload_n rfl ?_
  refine q_iload_n rfl ?_
  obtain ⟨q18, e18, h⟩ := mbind h
  refine q_vI1 mcap_0 rfl rfl ob_93 rfl (by decide) (ok_X12_isThing  e18) ?_
  refine q_if_eq (fun c19 => ?_) (fun c19 => ?_)
  · rw [if_pos c19] at h
    refine mAt.blk bk_X12_round_16 ck_X12_round_16 ?_
    refine q_aload_n rfl ?_
    refine q_iconst ?_
    obtain ⟨q20, e20, h⟩ := mbind h
    refine q_vI1 mcap_0 rfl rfl ob_93 rfl (by decide) (ok_X12_finds  e20) ?_
    have h := Option.some.inj h
    subst h
    exact q_iretI mcap_0 rfl rfl
  · rw [if_neg c19] at h
    refine q_aload_n rfl ?_
    refine q_iload_n rfl ?_
    obtain ⟨q21, e21, h⟩ := mbind h
    refine q_vI1 mcap_0 rfl rfl ob_93 rfl (by decide) (ok_X12_isWell  e21) ?_
    refine q_if_ne (fun c22 => ?_) (fun c22 => ?_)
    · rw [if_pos c22] at h
      refine mAt.blk bk_X12_round_16 ck_X12_round_16 ?_
      refine q_aload_n rfl ?_
      refine q_iconst ?_
      obtain ⟨q24, e24, h⟩ := mbind h
      refine q_vI1 mcap_0 rfl rfl ob_93 rfl (by decide) (ok_X12_finds  e24) ?_
      have h := Option.some.inj h
      subst h
      exact q_iretI mcap_0 rfl rfl
    · rw [if_neg c22] at h
      refine mAt.blk bk_X12_round_22 ck_X12_round_22 ?_
      refine q_aload_n rfl ?_
      refine q_getR ob_93 rfl rfl ?_
      refine q_aload_n rfl ?_
      refine q_getR ob_93 rfl rfl ?_
      obtain ⟨q23, e23, h⟩ := mbind h
      refine q_sV2 mcap_0 rfl rfl rfl rfl (by decide) (ok_X12_copies ar_94 ar_95 e23) ?_
      refine q_iconst ?_
      refine q_istore_n rfl rfl ?_
      exact okc_X12_round_35  h ⟨rfl, rfl, rfl, rfl, trivial⟩
def bk_X12_least_0 : List mI := [(.iconst 0, 1, 0, 0, 0, [(0, 0)]), (.istore 5, 2, 0, 0, 0, [])]
theorem ck_X12_least_0 : mChk 192 0 bk_X12_least_0 = true := by decide +kernel
def bk_X12_least_3 : List mI := [(.iload 5, 2, 0, 0, 0, []), (.bipush 9, 2, 0, 0, 0, [(9, 0)]), (.if_icmp .ge 36, 3, 43, 0, 0, []), (.aload_n 0, 1, 0, 0, 0, []), (.getfield 25, 3, 12, 12, 949, []), (.iload 5, 2, 0, 0, 0, []), (.iload 5, 2, 0, 0, 0, []), (.iload_n 1, 1, 0, 0, 0, []), (.if_icmp .ne 7, 3, 26, 0, 0, []), (.iconst 0, 1, 0, 0, 0, [(0, 0)]), (.goto 5, 3, 28, 0, 0, [])]
theorem ck_X12_least_3 : mChk 192 3 bk_X12_least_3 = true := by decide +kernel
def bk_X12_least_26 : List mI := [(.ldc 235, 2, 0, 0, 1252, [(100000000, 0)])]
theorem ck_X12_least_26 : mChk 192 26 bk_X12_least_26 = true := by decide +kernel
def bk_X12_least_28 : List mI := [(.iastore, 1, 0, 0, 0, []), (.aload_n 0, 1, 0, 0, 0, []), (.getfield 28, 3, 12, 13, 950, []), (.iload 5, 2, 0, 0, 0, []), (.iconst 0, 1, 0, 0, 0, [(0, 0)]), (.bastore, 1, 0, 0, 0, []), (.iinc 5 1, 3, 0, 0, 0, [(1, 0)]), (.goto (-37), 3, 3, 0, 0, [])]
theorem ck_X12_least_28 : mChk 192 28 bk_X12_least_28 = true := by decide +kernel
def bk_X12_least_43 : List mI := [(.iconst 0, 1, 0, 0, 0, [(0, 0)]), (.istore 5, 2, 0, 0, 0, [])]
theorem ck_X12_least_43 : mChk 192 43 bk_X12_least_43 = true := by decide +kernel
def bk_X12_least_46 : List mI := [(.iload 5, 2, 0, 0, 0, []), (.aload_n 0, 1, 0, 0, 0, []), (.getfield 7, 3, 12, 0, 937, []), (.iconst 1, 1, 0, 0, 0, [(1, 0)]), (.iaload, 1, 0, 0, 0, []), (.if_icmp .ge 201, 3, 255, 0, 0, []), (.iconst (-1), 1, 0, 0, 0, [((-1), 0)]), (.istore 6, 2, 0, 0, 0, []), (.iconst 0, 1, 0, 0, 0, [(0, 0)]), (.istore 7, 2, 0, 0, 0, [])]
theorem ck_X12_least_46 : mChk 192 46 bk_X12_least_46 = true := by decide +kernel
def bk_X12_least_63 : List mI := [(.iload 7, 2, 0, 0, 0, []), (.aload_n 0, 1, 0, 0, 0, []), (.getfield 7, 3, 12, 0, 937, []), (.iconst 1, 1, 0, 0, 0, [(1, 0)]), (.iaload, 1, 0, 0, 0, []), (.if_icmp .ge 50, 3, 121, 0, 0, []), (.aload_n 0, 1, 0, 0, 0, []), (.getfield 28, 3, 12, 13, 950, []), (.iload 7, 2, 0, 0, 0, []), (.baload, 1, 0, 0, 0, []), (.ifCond .ne 30, 3, 111, 0, 0, []), (.iload 6, 2, 0, 0, 0, []), (.ifCond .lt 20, 3, 106, 0, 0, []), (.aload_n 0, 1, 0, 0, 0, []), (.getfield 25, 3, 12, 12, 949, []), (.iload 7, 2, 0, 0, 0, []), (.iaload, 1, 0, 0, 0, []), (.aload_n 0, 1, 0, 0, 0, []), (.getfield 25, 3, 12, 12, 949, []), (.iload 6, 2, 0, 0, 0, []), (.iaload, 1, 0, 0, 0, []), (.if_icmp .ge 8, 3, 111, 0, 0, [])]
theorem ck_X12_least_63 : mChk 192 63 bk_X12_least_63 = true := by decide +kernel
def bk_X12_least_106 : List mI := [(.iload 7, 2, 0, 0, 0, []), (.goto 5, 3, 113, 0, 0, [])]
theorem ck_X12_least_106 : mChk 192 106 bk_X12_least_106 = true := by decide +kernel
def bk_X12_least_111 : List mI := [(.iload 6, 2, 0, 0, 0, [])]
theorem ck_X12_least_111 : mChk 192 111 bk_X12_least_111 = true := by decide +kernel
def bk_X12_least_113 : List mI := [(.istore 6, 2, 0, 0, 0, []), (.iinc 7 1, 3, 0, 0, 0, [(1, 0)]), (.goto (-55), 3, 63, 0, 0, [])]
theorem ck_X12_least_113 : mChk 192 113 bk_X12_least_113 = true := by decide +kernel
def bk_X12_least_121 : List mI := [(.aload_n 0, 1, 0, 0, 0, []), (.getfield 28, 3, 12, 13, 950, []), (.iload 6, 2, 0, 0, 0, []), (.iconst 1, 1, 0, 0, 0, [(1, 0)]), (.bastore, 1, 0, 0, 0, []), (.iconst 0, 1, 0, 0, 0, [(0, 0)]), (.istore 7, 2, 0, 0, 0, [])]
theorem ck_X12_least_121 : mChk 192 121 bk_X12_least_121 = true := by decide +kernel
def bk_X12_least_132 : List mI := [(.iload 7, 2, 0, 0, 0, []), (.aload_n 0, 1, 0, 0, 0, []), (.getfield 7, 3, 12, 0, 937, []), (.iconst 1, 1, 0, 0, 0, [(1, 0)]), (.iaload, 1, 0, 0, 0, []), (.if_icmp .ge 109, 3, 249, 0, 0, []), (.iload_n 3, 1, 0, 0, 0, []), (.istore 8, 2, 0, 0, 0, []), (.aload_n 0, 1, 0, 0, 0, []), (.iload 6, 2, 0, 0, 0, []), (.iconst 0, 1, 0, 0, 0, [(0, 0)]), (.invokevirtual 138, 3, 193, 0, 1095, []), (.iload 7, 2, 0, 0, 0, []), (.if_icmp .ne 41, 3, 196, 0, 0, []), (.iload 4, 2, 0, 0, 0, []), (.ifCond .eq 13, 3, 173, 0, 0, []), (.aload_n 0, 1, 0, 0, 0, []), (.iload 6, 2, 0, 0, 0, []), (.iconst 1, 1, 0, 0, 0, [(1, 0)]), (.invokevirtual 138, 3, 193, 0, 1095, []), (.goto 10, 3, 180, 0, 0, [])]
theorem ck_X12_least_132 : mChk 192 132 bk_X12_least_132 = true := by decide +kernel
def bk_X12_least_173 : List mI := [(.aload_n 0, 1, 0, 0, 0, []), (.iload 7, 2, 0, 0, 0, []), (.iconst 2, 1, 0, 0, 0, [(2, 0)]), (.invokevirtual 138, 3, 193, 0, 1095, [])]
theorem ck_X12_least_173 : mChk 192 173 bk_X12_least_173 = true := by decide +kernel
def bk_X12_least_180 : List mI := [(.istore 9, 2, 0, 0, 0, []), (.iload 9, 2, 0, 0, 0, []), (.iload_n 3, 1, 0, 0, 0, []), (.if_icmp .ge 8, 3, 193, 0, 0, []), (.iload 9, 2, 0, 0, 0, []), (.goto 4, 3, 194, 0, 0, [])]
theorem ck_X12_least_180 : mChk 192 180 bk_X12_least_180 = true := by decide +kernel
def bk_X12_least_193 : List mI := [(.iload_n 3, 1, 0, 0, 0, [])]
theorem ck_X12_least_193 : mChk 192 193 bk_X12_least_193 = true := by decide +kernel
def bk_X12_least_194 : List mI := [(.istore 8, 2, 0, 0, 0, [])]
theorem ck_X12_least_194 : mChk 192 194 bk_X12_least_194 = true := by decide +kernel
def bk_X12_least_196 : List mI := [(.aload_n 0, 1, 0, 0, 0, []), (.getfield 25, 3, 12, 12, 949, []), (.iload 7, 2, 0, 0, 0, []), (.aload_n 0, 1, 0, 0, 0, []), (.getfield 25, 3, 12, 12, 949, []), (.iload 6, 2, 0, 0, 0, []), (.iaload, 1, 0, 0, 0, []), (.iload 8, 2, 0, 0, 0, []), (.iadd, 1, 0, 0, 0, []), (.aload_n 0, 1, 0, 0, 0, []), (.getfield 25, 3, 12, 12, 949, []), (.iload 7, 2, 0, 0, 0, []), (.iaload, 1, 0, 0, 0, []), (.if_icmp .ge 16, 3, 235, 0, 0, []), (.aload_n 0, 1, 0, 0, 0, []), (.getfield 25, 3, 12, 12, 949, []), (.iload 6, 2, 0, 0, 0, []), (.iaload, 1, 0, 0, 0, []), (.iload 8, 2, 0, 0, 0, []), (.iadd, 1, 0, 0, 0, []), (.goto 10, 3, 242, 0, 0, [])]
theorem ck_X12_least_196 : mChk 192 196 bk_X12_least_196 = true := by decide +kernel
def bk_X12_least_235 : List mI := [(.aload_n 0, 1, 0, 0, 0, []), (.getfield 25, 3, 12, 12, 949, []), (.iload 7, 2, 0, 0, 0, []), (.iaload, 1, 0, 0, 0, [])]
theorem ck_X12_least_235 : mChk 192 235 bk_X12_least_235 = true := by decide +kernel
def bk_X12_least_242 : List mI := [(.iastore, 1, 0, 0, 0, []), (.iinc 7 1, 3, 0, 0, 0, [(1, 0)]), (.goto (-114), 3, 132, 0, 0, [])]
theorem ck_X12_least_242 : mChk 192 242 bk_X12_least_242 = true := by decide +kernel
def bk_X12_least_249 : List mI := [(.iinc 5 1, 3, 0, 0, 0, [(1, 0)]), (.goto (-206), 3, 46, 0, 0, [])]
theorem ck_X12_least_249 : mChk 192 249 bk_X12_least_249 = true := by decide +kernel
def bk_X12_least_255 : List mI := [(.aload_n 0, 1, 0, 0, 0, []), (.getfield 25, 3, 12, 12, 949, []), (.iload_n 2, 1, 0, 0, 0, []), (.iaload, 1, 0, 0, 0, []), (.ireturn, 1, 0, 0, 0, [])]
theorem ck_X12_least_255 : mChk 192 255 bk_X12_least_255 = true := by decide +kernel
def c_X12_least_28 (k3 : Int32 → Int32 → Int32 → Int32 → Int32 → Sg → Option (Int32 × Sg)) (x1 : Int32) (x2 : Int32) (x3 : Int32) (x4 : Int32) (x5 : Int32) (s1 : Int32) (s2 : Int32) (σ : Sg) : Option (Int32 × Sg) := (if s1 < 0 ∨ 9 ≤ (s1).toNatClampNeg then none else (if x5 < 0 ∨ 9 ≤ (x5).toNatClampNeg then none else (k3 x1 x2 x3 x4 (x5 + (1 : Int32)) (mup (mup σ 99 (s1).toNatClampNeg s2) 100 (x5).toNatClampNeg (vp_nar .boolean (0 : Int32))))))
set_option maxHeartbeats 4000000 in
theorem okc_X12_least_28 {L : Nat} {k3 : Int32 → Int32 → Int32 → Int32 → Int32 → Sg → Option (Int32 × Sg)} {R : Int32 × Sg} (Hk3 : ∀ (x1 : Int32) (x2 : Int32) (x3 : Int32) (x4 : Int32) (x5 : Int32) (σ : Sg) (pl : mLoc), k3 x1 x2 x3 x4 x5 σ = some R → mlf [some (.ref 93), some (.int x1), some (.int x2), some (.int x3), some (.int x4), some (.int x5), none, none, none, none] pl → mAt 1 192 (some (.int R.1), (mSh, L, R.2)) 3 pl [] (mSh, L, σ) 0 0) {x1 : Int32} {x2 : Int32} {x3 : Int32} {x4 : Int32} {x5 : Int32} {s1 : Int32} {s2 : Int32} {σ : Sg} {pl : mLoc} (h : c_X12_least_28 k3 x1 x2 x3 x4 x5 s1 s2 σ = some R) (hl : mlf [some (.ref 93), some (.int x1), some (.int x2), some (.int x3), some (.int x4), some (.int x5), none, none, none, none] pl) : mAt 1 192 (some (.int R.1), (mSh, L, R.2)) 28 pl [.int s2, .int s1, .ref 99] (mSh, L, σ) 0 0 := by
  refine mAt.less hl ?_
  unfold c_X12_least_28 at h
  refine mAt.blk bk_X12_least_28 ck_X12_least_28 ?_
  obtain ⟨c3, h⟩ := mnone h
  refine q_iast rfl ar_99 c3 ?_
  refine q_aload_n rfl ?_
  refine q_getR ob_93 rfl rfl ?_
  refine q_iload rfl ?_
  refine q_iconst ?_
  obtain ⟨c4, h⟩ := mnone h
  refine q_bast rfl az_100 c4 ?_
  refine q_iinc rfl rfl ?_
  refine q_goto ?_
  exact Hk3 _ _ _ _ _ _ _  h ⟨rfl, rfl, rfl, rfl, rfl, rfl, trivial⟩
def c_X12_least_113 (k46 : Int32 → Int32 → Int32 → Int32 → Sg → Option (Int32 × Sg)) (k63 : Int32 → Int32 → Int32 → Int32 → Int32 → Int32 → Sg → Option (Int32 × Sg)) (x2 : Int32) (x3 : Int32) (x4 : Int32) (x5 : Int32) (x7 : Int32) (s0 : Int32) (σ : Sg) : Option (Int32 × Sg) := (k63 x2 x3 x4 x5 s0 (x7 + (1 : Int32)) σ)
set_option maxHeartbeats 4000000 in
theorem okc_X12_least_113 {L : Nat} {k46 : Int32 → Int32 → Int32 → Int32 → Sg → Option (Int32 × Sg)} {k63 : Int32 → Int32 → Int32 → Int32 → Int32 → Int32 → Sg → Option (Int32 × Sg)} {R : Int32 × Sg} (Hk46 : ∀ (x2 : Int32) (x3 : Int32) (x4 : Int32) (x5 : Int32) (σ : Sg) (pl : mLoc), k46 x2 x3 x4 x5 σ = some R → mlf [some (.ref 93), none, some (.int x2), some (.int x3), some (.int x4), some (.int x5), none, none, none, none] pl → mAt 1 192 (some (.int R.1), (mSh, L, R.2)) 46 pl [] (mSh, L, σ) 0 0) (Hk63 : ∀ (x2 : Int32) (x3 : Int32) (x4 : Int32) (x5 : Int32) (x6 : Int32) (x7 : Int32) (σ : Sg) (pl : mLoc), k63 x2 x3 x4 x5 x6 x7 σ = some R → mlf [some (.ref 93), none, some (.int x2), some (.int x3), some (.int x4), some (.int x5), some (.int x6), some (.int x7), none, none] pl → mAt 1 192 (some (.int R.1), (mSh, L, R.2)) 63 pl [] (mSh, L, σ) 0 0) {x2 : Int32} {x3 : Int32} {x4 : Int32} {x5 : Int32} {x7 : Int32} {s0 : Int32} {σ : Sg} {pl : mLoc} (h : c_X12_least_113 k46 k63 x2 x3 x4 x5 x7 s0 σ = some R) (hl : mlf [some (.ref 93), none, some (.int x2), some (.int x3), some (.int x4), some (.int x5), none, some (.int x7), none, none] pl) : mAt 1 192 (some (.int R.1), (mSh, L, R.2)) 113 pl [.int s0] (mSh, L, σ) 0 0 := by
  refine mAt.less hl ?_
  unfold c_X12_least_113 at h
  refine mAt.blk bk_X12_least_113 ck_X12_least_113 ?_
  refine q_istore rfl rfl ?_
  refine q_iinc rfl rfl ?_
  refine q_goto ?_
  exact Hk63 _ _ _ _ _ _ _ _  h ⟨rfl, rfl, rfl, rfl, rfl, rfl, rfl, trivial⟩
def c_X12_least_242 (k46 : Int32 → Int32 → Int32 → Int32 → Sg → Option (Int32 × Sg)) (k132 : Int32 → Int32 → Int32 → Int32 → Int32 → Int32 → Sg → Option (Int32 × Sg)) (x2 : Int32) (x3 : Int32) (x4 : Int32) (x5 : Int32) (x6 : Int32) (x7 : Int32) (s1 : Int32) (s2 : Int32) (σ : Sg) : Option (Int32 × Sg) := (if s1 < 0 ∨ 9 ≤ (s1).toNatClampNeg then none else (k132 x2 x3 x4 x5 x6 (x7 + (1 : Int32)) (mup σ 99 (s1).toNatClampNeg s2)))
set_option maxHeartbeats 4000000 in
theorem okc_X12_least_242 {L : Nat} {k46 : Int32 → Int32 → Int32 → Int32 → Sg → Option (Int32 × Sg)} {k132 : Int32 → Int32 → Int32 → Int32 → Int32 → Int32 → Sg → Option (Int32 × Sg)} {R : Int32 × Sg} (Hk46 : ∀ (x2 : Int32) (x3 : Int32) (x4 : Int32) (x5 : Int32) (σ : Sg) (pl : mLoc), k46 x2 x3 x4 x5 σ = some R → mlf [some (.ref 93), none, some (.int x2), some (.int x3), some (.int x4), some (.int x5), none, none, none, none] pl → mAt 1 192 (some (.int R.1), (mSh, L, R.2)) 46 pl [] (mSh, L, σ) 0 0) (Hk132 : ∀ (x2 : Int32) (x3 : Int32) (x4 : Int32) (x5 : Int32) (x6 : Int32) (x7 : Int32) (σ : Sg) (pl : mLoc), k132 x2 x3 x4 x5 x6 x7 σ = some R → mlf [some (.ref 93), none, some (.int x2), some (.int x3), some (.int x4), some (.int x5), some (.int x6), some (.int x7), none, none] pl → mAt 1 192 (some (.int R.1), (mSh, L, R.2)) 132 pl [] (mSh, L, σ) 0 0) {x2 : Int32} {x3 : Int32} {x4 : Int32} {x5 : Int32} {x6 : Int32} {x7 : Int32} {s1 : Int32} {s2 : Int32} {σ : Sg} {pl : mLoc} (h : c_X12_least_242 k46 k132 x2 x3 x4 x5 x6 x7 s1 s2 σ = some R) (hl : mlf [some (.ref 93), none, some (.int x2), some (.int x3), some (.int x4), some (.int x5), some (.int x6), some (.int x7), none, none] pl) : mAt 1 192 (some (.int R.1), (mSh, L, R.2)) 242 pl [.int s2, .int s1, .ref 99] (mSh, L, σ) 0 0 := by
  refine mAt.less hl ?_
  unfold c_X12_least_242 at h
  refine mAt.blk bk_X12_least_242 ck_X12_least_242 ?_
  obtain ⟨c30, h⟩ := mnone h
  refine q_iast rfl ar_99 c30 ?_
  refine q_iinc rfl rfl ?_
  refine q_goto ?_
  exact Hk132 _ _ _ _ _ _ _ _  h ⟨rfl, rfl, rfl, rfl, rfl, rfl, rfl, trivial⟩
def c_X12_least_249 (k46 : Int32 → Int32 → Int32 → Int32 → Sg → Option (Int32 × Sg)) (x2 : Int32) (x3 : Int32) (x4 : Int32) (x5 : Int32) (σ : Sg) : Option (Int32 × Sg) := (k46 x2 x3 x4 (x5 + (1 : Int32)) σ)
set_option maxHeartbeats 4000000 in
theorem okc_X12_least_249 {L : Nat} {k46 : Int32 → Int32 → Int32 → Int32 → Sg → Option (Int32 × Sg)} {R : Int32 × Sg} (Hk46 : ∀ (x2 : Int32) (x3 : Int32) (x4 : Int32) (x5 : Int32) (σ : Sg) (pl : mLoc), k46 x2 x3 x4 x5 σ = some R → mlf [some (.ref 93), none, some (.int x2), some (.int x3), some (.int x4), some (.int x5), none, none, none, none] pl → mAt 1 192 (some (.int R.1), (mSh, L, R.2)) 46 pl [] (mSh, L, σ) 0 0) {x2 : Int32} {x3 : Int32} {x4 : Int32} {x5 : Int32} {σ : Sg} {pl : mLoc} (h : c_X12_least_249 k46 x2 x3 x4 x5 σ = some R) (hl : mlf [some (.ref 93), none, some (.int x2), some (.int x3), some (.int x4), some (.int x5), none, none, none, none] pl) : mAt 1 192 (some (.int R.1), (mSh, L, R.2)) 249 pl [] (mSh, L, σ) 0 0 := by
  refine mAt.less hl ?_
  unfold c_X12_least_249 at h
  refine mAt.blk bk_X12_least_249 ck_X12_least_249 ?_
  refine q_iinc rfl rfl ?_
  refine q_goto ?_
  exact Hk46 _ _ _ _ _ _  h ⟨rfl, rfl, rfl, rfl, rfl, trivial⟩
def c_X12_least_106 (k46 : Int32 → Int32 → Int32 → Int32 → Sg → Option (Int32 × Sg)) (k63 : Int32 → Int32 → Int32 → Int32 → Int32 → Int32 → Sg → Option (Int32 × Sg)) (x2 : Int32) (x3 : Int32) (x4 : Int32) (x5 : Int32) (x7 : Int32) (σ : Sg) : Option (Int32 × Sg) := (c_X12_least_113 k46 k63  x2 x3 x4 x5 x7 x7 σ)
set_option maxHeartbeats 4000000 in
theorem okc_X12_least_106 {L : Nat} {k46 : Int32 → Int32 → Int32 → Int32 → Sg → Option (Int32 × Sg)} {k63 : Int32 → Int32 → Int32 → Int32 → Int32 → Int32 → Sg → Option (Int32 × Sg)} {R : Int32 × Sg} (Hk46 : ∀ (x2 : Int32) (x3 : Int32) (x4 : Int32) (x5 : Int32) (σ : Sg) (pl : mLoc), k46 x2 x3 x4 x5 σ = some R → mlf [some (.ref 93), none, some (.int x2), some (.int x3), some (.int x4), some (.int x5), none, none, none, none] pl → mAt 1 192 (some (.int R.1), (mSh, L, R.2)) 46 pl [] (mSh, L, σ) 0 0) (Hk63 : ∀ (x2 : Int32) (x3 : Int32) (x4 : Int32) (x5 : Int32) (x6 : Int32) (x7 : Int32) (σ : Sg) (pl : mLoc), k63 x2 x3 x4 x5 x6 x7 σ = some R → mlf [some (.ref 93), none, some (.int x2), some (.int x3), some (.int x4), some (.int x5), some (.int x6), some (.int x7), none, none] pl → mAt 1 192 (some (.int R.1), (mSh, L, R.2)) 63 pl [] (mSh, L, σ) 0 0) {x2 : Int32} {x3 : Int32} {x4 : Int32} {x5 : Int32} {x7 : Int32} {σ : Sg} {pl : mLoc} (h : c_X12_least_106 k46 k63 x2 x3 x4 x5 x7 σ = some R) (hl : mlf [some (.ref 93), none, some (.int x2), some (.int x3), some (.int x4), some (.int x5), none, some (.int x7), none, none] pl) : mAt 1 192 (some (.int R.1), (mSh, L, R.2)) 106 pl [] (mSh, L, σ) 0 0 := by
  refine mAt.less hl ?_
  unfold c_X12_least_106 at h
  refine mAt.blk bk_X12_least_106 ck_X12_least_106 ?_
  refine q_iload rfl ?_
  refine q_goto ?_
  exact okc_X12_least_113 Hk46 Hk63 h ⟨rfl, rfl, rfl, rfl, rfl, rfl, trivial⟩
def c_X12_least_111 (k46 : Int32 → Int32 → Int32 → Int32 → Sg → Option (Int32 × Sg)) (k63 : Int32 → Int32 → Int32 → Int32 → Int32 → Int32 → Sg → Option (Int32 × Sg)) (x2 : Int32) (x3 : Int32) (x4 : Int32) (x5 : Int32) (x6 : Int32) (x7 : Int32) (σ : Sg) : Option (Int32 × Sg) := (c_X12_least_113 k46 k63  x2 x3 x4 x5 x7 x6 σ)
set_option maxHeartbeats 4000000 in
theorem okc_X12_least_111 {L : Nat} {k46 : Int32 → Int32 → Int32 → Int32 → Sg → Option (Int32 × Sg)} {k63 : Int32 → Int32 → Int32 → Int32 → Int32 → Int32 → Sg → Option (Int32 × Sg)} {R : Int32 × Sg} (Hk46 : ∀ (x2 : Int32) (x3 : Int32) (x4 : Int32) (x5 : Int32) (σ : Sg) (pl : mLoc), k46 x2 x3 x4 x5 σ = some R → mlf [some (.ref 93), none, some (.int x2), some (.int x3), some (.int x4), some (.int x5), none, none, none, none] pl → mAt 1 192 (some (.int R.1), (mSh, L, R.2)) 46 pl [] (mSh, L, σ) 0 0) (Hk63 : ∀ (x2 : Int32) (x3 : Int32) (x4 : Int32) (x5 : Int32) (x6 : Int32) (x7 : Int32) (σ : Sg) (pl : mLoc), k63 x2 x3 x4 x5 x6 x7 σ = some R → mlf [some (.ref 93), none, some (.int x2), some (.int x3), some (.int x4), some (.int x5), some (.int x6), some (.int x7), none, none] pl → mAt 1 192 (some (.int R.1), (mSh, L, R.2)) 63 pl [] (mSh, L, σ) 0 0) {x2 : Int32} {x3 : Int32} {x4 : Int32} {x5 : Int32} {x6 : Int32} {x7 : Int32} {σ : Sg} {pl : mLoc} (h : c_X12_least_111 k46 k63 x2 x3 x4 x5 x6 x7 σ = some R) (hl : mlf [some (.ref 93), none, some (.int x2), some (.int x3), some (.int x4), some (.int x5), some (.int x6), some (.int x7), none, none] pl) : mAt 1 192 (some (.int R.1), (mSh, L, R.2)) 111 pl [] (mSh, L, σ) 0 0 := by
  refine mAt.less hl ?_
  unfold c_X12_least_111 at h
  refine mAt.blk bk_X12_least_111 ck_X12_least_111 ?_
  refine q_iload rfl ?_
  exact okc_X12_least_113 Hk46 Hk63 h ⟨rfl, rfl, rfl, rfl, rfl, rfl, trivial⟩
def c_X12_least_196 (k46 : Int32 → Int32 → Int32 → Int32 → Sg → Option (Int32 × Sg)) (k132 : Int32 → Int32 → Int32 → Int32 → Int32 → Int32 → Sg → Option (Int32 × Sg)) (x2 : Int32) (x3 : Int32) (x4 : Int32) (x5 : Int32) (x6 : Int32) (x7 : Int32) (x8 : Int32) (σ : Sg) : Option (Int32 × Sg) := (if x6 < 0 ∨ 9 ≤ (x6).toNatClampNeg then none else (if x7 < 0 ∨ 9 ≤ (x7).toNatClampNeg then none else (if (σ 99 (x7).toNatClampNeg) ≤ ((σ 99 (x6).toNatClampNeg) + x8) then (if x7 < 0 ∨ 9 ≤ (x7).toNatClampNeg then none else (c_X12_least_242 k46 k132  x2 x3 x4 x5 x6 x7 x7 (σ 99 (x7).toNatClampNeg) σ)) else (if x6 < 0 ∨ 9 ≤ (x6).toNatClampNeg then none else (c_X12_least_242 k46 k132  x2 x3 x4 x5 x6 x7 x7 ((σ 99 (x6).toNatClampNeg) + x8) σ)))))
set_option maxHeartbeats 4000000 in
theorem okc_X12_least_196 {L : Nat} {k46 : Int32 → Int32 → Int32 → Int32 → Sg → Option (Int32 × Sg)} {k132 : Int32 → Int32 → Int32 → Int32 → Int32 → Int32 → Sg → Option (Int32 × Sg)} {R : Int32 × Sg} (Hk46 : ∀ (x2 : Int32) (x3 : Int32) (x4 : Int32) (x5 : Int32) (σ : Sg) (pl : mLoc), k46 x2 x3 x4 x5 σ = some R → mlf [some (.ref 93), none, some (.int x2), some (.int x3), some (.int x4), some (.int x5), none, none, none, none] pl → mAt 1 192 (some (.int R.1), (mSh, L, R.2)) 46 pl [] (mSh, L, σ) 0 0) (Hk132 : ∀ (x2 : Int32) (x3 : Int32) (x4 : Int32) (x5 : Int32) (x6 : Int32) (x7 : Int32) (σ : Sg) (pl : mLoc), k132 x2 x3 x4 x5 x6 x7 σ = some R → mlf [some (.ref 93), none, some (.int x2), some (.int x3), some (.int x4), some (.int x5), some (.int x6), some (.int x7), none, none] pl → mAt 1 192 (some (.int R.1), (mSh, L, R.2)) 132 pl [] (mSh, L, σ) 0 0) {x2 : Int32} {x3 : Int32} {x4 : Int32} {x5 : Int32} {x6 : Int32} {x7 : Int32} {x8 : Int32} {σ : Sg} {pl : mLoc} (h : c_X12_least_196 k46 k132 x2 x3 x4 x5 x6 x7 x8 σ = some R) (hl : mlf [some (.ref 93), none, some (.int x2), some (.int x3), some (.int x4), some (.int x5), some (.int x6), some (.int x7), some (.int x8), none] pl) : mAt 1 192 (some (.int R.1), (mSh, L, R.2)) 196 pl [] (mSh, L, σ) 0 0 := by
  refine mAt.less hl ?_
  unfold c_X12_least_196 at h
  refine mAt.blk bk_X12_least_196 ck_X12_least_196 ?_
  refine q_aload_n rfl ?_
  refine q_getR ob_93 rfl rfl ?_
  refine q_iload rfl ?_
  refine q_aload_n rfl ?_
  refine q_getR ob_93 rfl rfl ?_
  refine q_iload rfl ?_
  obtain ⟨c25, h⟩ := mnone h
  refine q_iald (mrd ar_99 _ _) rfl c25 ?_
  refine q_iload rfl ?_
  refine q_iadd ?_
  refine q_aload_n rfl ?_
  refine q_getR ob_93 rfl rfl ?_
  refine q_iload rfl ?_
  obtain ⟨c26, h⟩ := mnone h
  refine q_iald (mrd ar_99 _ _) rfl c26 ?_
  refine q_ic_ge (fun c27 => ?_) (fun c27 => ?_)
  · rw [if_pos c27] at h
    refine mAt.blk bk_X12_least_235 ck_X12_least_235 ?_
    refine q_aload_n rfl ?_
    refine q_getR ob_93 rfl rfl ?_
    refine q_iload rfl ?_
    obtain ⟨c28, h⟩ := mnone h
    refine q_iald (mrd ar_99 _ _) rfl c28 ?_
    exact okc_X12_least_242 Hk46 Hk132 h ⟨rfl, rfl, rfl, rfl, rfl, rfl, rfl, trivial⟩
  · rw [if_neg c27] at h
    refine q_aload_n rfl ?_
    refine q_getR ob_93 rfl rfl ?_
    refine q_iload rfl ?_
    obtain ⟨c29, h⟩ := mnone h
    refine q_iald (mrd ar_99 _ _) rfl c29 ?_
    refine q_iload rfl ?_
    refine q_iadd ?_
    refine q_goto ?_
    exact okc_X12_least_242 Hk46 Hk132 h ⟨rfl, rfl, rfl, rfl, rfl, rfl, rfl, trivial⟩
def c_X12_least_194 (k46 : Int32 → Int32 → Int32 → Int32 → Sg → Option (Int32 × Sg)) (k132 : Int32 → Int32 → Int32 → Int32 → Int32 → Int32 → Sg → Option (Int32 × Sg)) (x2 : Int32) (x3 : Int32) (x4 : Int32) (x5 : Int32) (x6 : Int32) (x7 : Int32) (s0 : Int32) (σ : Sg) : Option (Int32 × Sg) := (c_X12_least_196 k46 k132  x2 x3 x4 x5 x6 x7 s0 σ)
set_option maxHeartbeats 4000000 in
theorem okc_X12_least_194 {L : Nat} {k46 : Int32 → Int32 → Int32 → Int32 → Sg → Option (Int32 × Sg)} {k132 : Int32 → Int32 → Int32 → Int32 → Int32 → Int32 → Sg → Option (Int32 × Sg)} {R : Int32 × Sg} (Hk46 : ∀ (x2 : Int32) (x3 : Int32) (x4 : Int32) (x5 : Int32) (σ : Sg) (pl : mLoc), k46 x2 x3 x4 x5 σ = some R → mlf [some (.ref 93), none, some (.int x2), some (.int x3), some (.int x4), some (.int x5), none, none, none, none] pl → mAt 1 192 (some (.int R.1), (mSh, L, R.2)) 46 pl [] (mSh, L, σ) 0 0) (Hk132 : ∀ (x2 : Int32) (x3 : Int32) (x4 : Int32) (x5 : Int32) (x6 : Int32) (x7 : Int32) (σ : Sg) (pl : mLoc), k132 x2 x3 x4 x5 x6 x7 σ = some R → mlf [some (.ref 93), none, some (.int x2), some (.int x3), some (.int x4), some (.int x5), some (.int x6), some (.int x7), none, none] pl → mAt 1 192 (some (.int R.1), (mSh, L, R.2)) 132 pl [] (mSh, L, σ) 0 0) {x2 : Int32} {x3 : Int32} {x4 : Int32} {x5 : Int32} {x6 : Int32} {x7 : Int32} {s0 : Int32} {σ : Sg} {pl : mLoc} (h : c_X12_least_194 k46 k132 x2 x3 x4 x5 x6 x7 s0 σ = some R) (hl : mlf [some (.ref 93), none, some (.int x2), some (.int x3), some (.int x4), some (.int x5), some (.int x6), some (.int x7), none, none] pl) : mAt 1 192 (some (.int R.1), (mSh, L, R.2)) 194 pl [.int s0] (mSh, L, σ) 0 0 := by
  refine mAt.less hl ?_
  unfold c_X12_least_194 at h
  refine mAt.blk bk_X12_least_194 ck_X12_least_194 ?_
  refine q_istore rfl rfl ?_
  exact okc_X12_least_196 Hk46 Hk132 h ⟨rfl, rfl, rfl, rfl, rfl, rfl, rfl, rfl, trivial⟩
def c_X12_least_180 (k46 : Int32 → Int32 → Int32 → Int32 → Sg → Option (Int32 × Sg)) (k132 : Int32 → Int32 → Int32 → Int32 → Int32 → Int32 → Sg → Option (Int32 × Sg)) (x2 : Int32) (x3 : Int32) (x4 : Int32) (x5 : Int32) (x6 : Int32) (x7 : Int32) (s0 : Int32) (σ : Sg) : Option (Int32 × Sg) := (if x3 ≤ s0 then (c_X12_least_194 k46 k132  x2 x3 x4 x5 x6 x7 x3 σ) else (c_X12_least_194 k46 k132  x2 x3 x4 x5 x6 x7 s0 σ))
set_option maxHeartbeats 4000000 in
theorem okc_X12_least_180 {L : Nat} {k46 : Int32 → Int32 → Int32 → Int32 → Sg → Option (Int32 × Sg)} {k132 : Int32 → Int32 → Int32 → Int32 → Int32 → Int32 → Sg → Option (Int32 × Sg)} {R : Int32 × Sg} (Hk46 : ∀ (x2 : Int32) (x3 : Int32) (x4 : Int32) (x5 : Int32) (σ : Sg) (pl : mLoc), k46 x2 x3 x4 x5 σ = some R → mlf [some (.ref 93), none, some (.int x2), some (.int x3), some (.int x4), some (.int x5), none, none, none, none] pl → mAt 1 192 (some (.int R.1), (mSh, L, R.2)) 46 pl [] (mSh, L, σ) 0 0) (Hk132 : ∀ (x2 : Int32) (x3 : Int32) (x4 : Int32) (x5 : Int32) (x6 : Int32) (x7 : Int32) (σ : Sg) (pl : mLoc), k132 x2 x3 x4 x5 x6 x7 σ = some R → mlf [some (.ref 93), none, some (.int x2), some (.int x3), some (.int x4), some (.int x5), some (.int x6), some (.int x7), none, none] pl → mAt 1 192 (some (.int R.1), (mSh, L, R.2)) 132 pl [] (mSh, L, σ) 0 0) {x2 : Int32} {x3 : Int32} {x4 : Int32} {x5 : Int32} {x6 : Int32} {x7 : Int32} {s0 : Int32} {σ : Sg} {pl : mLoc} (h : c_X12_least_180 k46 k132 x2 x3 x4 x5 x6 x7 s0 σ = some R) (hl : mlf [some (.ref 93), none, some (.int x2), some (.int x3), some (.int x4), some (.int x5), some (.int x6), some (.int x7), none, none] pl) : mAt 1 192 (some (.int R.1), (mSh, L, R.2)) 180 pl [.int s0] (mSh, L, σ) 0 0 := by
  refine mAt.less hl ?_
  unfold c_X12_least_180 at h
  refine mAt.blk bk_X12_least_180 ck_X12_least_180 ?_
  refine q_istore rfl rfl ?_
  refine q_iload rfl ?_
  refine q_iload_n rfl ?_
  refine q_ic_ge (fun c24 => ?_) (fun c24 => ?_)
  · rw [if_pos c24] at h
    refine mAt.blk bk_X12_least_193 ck_X12_least_193 ?_
    refine q_iload_n rfl ?_
    exact okc_X12_least_194 Hk46 Hk132 h ⟨rfl, rfl, rfl, rfl, rfl, rfl, rfl, trivial⟩
  · rw [if_neg c24] at h
    refine q_iload rfl ?_
    refine q_goto ?_
    exact okc_X12_least_194 Hk46 Hk132 h ⟨rfl, rfl, rfl, rfl, rfl, rfl, rfl, trivial⟩
def c_X12_least_132 (k46 : Int32 → Int32 → Int32 → Int32 → Sg → Option (Int32 × Sg)) : Nat → Int32 → Int32 → Int32 → Int32 → Int32 → Int32 → Sg → Option (Int32 × Sg)
  | 0, _, _, _, _, _, _, _ => none
  | n + 1, x2, x3, x4, x5, x6, x7, σ => (if (σ 94 1) ≤ x7 then (c_X12_least_249 k46  x2 x3 x4 x5 σ) else ((f_X12_itsWell x6 (0 : Int32) σ).bind fun q19 => (if q19 = x7 then (if x4 = 0 then ((f_X12_itsWell x7 (2 : Int32) σ).bind fun q22 => (c_X12_least_180 k46 (c_X12_least_132 k46 n)  x2 x3 x4 x5 x6 x7 q22 σ)) else ((f_X12_itsWell x6 (1 : Int32) σ).bind fun q23 => (c_X12_least_180 k46 (c_X12_least_132 k46 n)  x2 x3 x4 x5 x6 x7 q23 σ))) else (c_X12_least_196 k46 (c_X12_least_132 k46 n)  x2 x3 x4 x5 x6 x7 x3 σ))))
set_option maxHeartbeats 4000000 in
theorem okc_X12_least_132 {L : Nat} {k46 : Int32 → Int32 → Int32 → Int32 → Sg → Option (Int32 × Sg)} {R : Int32 × Sg} (Hk46 : ∀ (x2 : Int32) (x3 : Int32) (x4 : Int32) (x5 : Int32) (σ : Sg) (pl : mLoc), k46 x2 x3 x4 x5 σ = some R → mlf [some (.ref 93), none, some (.int x2), some (.int x3), some (.int x4), some (.int x5), none, none, none, none] pl → mAt 1 192 (some (.int R.1), (mSh, L, R.2)) 46 pl [] (mSh, L, σ) 0 0) {n : Nat} {x2 : Int32} {x3 : Int32} {x4 : Int32} {x5 : Int32} {x6 : Int32} {x7 : Int32} {σ : Sg} {pl : mLoc} (h : c_X12_least_132 k46 n x2 x3 x4 x5 x6 x7 σ = some R) (hl : mlf [some (.ref 93), none, some (.int x2), some (.int x3), some (.int x4), some (.int x5), some (.int x6), some (.int x7), none, none] pl) : mAt 1 192 (some (.int R.1), (mSh, L, R.2)) 132 pl [] (mSh, L, σ) 0 0 := by
  induction n generalizing x2 x3 x4 x5 x6 x7 σ pl with
  | zero =>
    rw [c_X12_least_132.eq_1] at h
    cases h
  | succ n ih =>
    refine mAt.less hl ?_
    rw [c_X12_least_132.eq_2] at h
    refine mAt.blk bk_X12_least_132 ck_X12_least_132 ?_
    refine q_iload rfl ?_
    refine q_aload_n rfl ?_
    refine q_getR ob_93 rfl rfl ?_
    refine q_iconst ?_
    refine q_iald (j := 1) (mrd ar_94 _ _) (by decide) (by decide) ?_
    refine q_ic_ge (fun c18 => ?_) (fun c18 => ?_)
    · rw [if_pos c18] at h
      exact okc_X12_least_249 Hk46 h ⟨rfl, rfl, rfl, rfl, rfl, trivial⟩
    · rw [if_neg c18] at h
      refine q_iload_n rfl ?_
      refine q_istore rfl rfl ?_
      refine q_aload_n rfl ?_
      refine q_iload rfl ?_
      refine q_iconst ?_
      obtain ⟨q19, e19, h⟩ := mbind h
      refine q_vI2 mcap_0 rfl rfl ob_93 rfl (by decide) (ok_X12_itsWell  e19) ?_
      refine q_iload rfl ?_
      refine q_ic_ne (fun c20 => ?_) (fun c20 => ?_)
      · rw [if_pos c20] at h
        refine q_iload rfl ?_
        refine q_if_eq (fun c21 => ?_) (fun c21 => ?_)
        · rw [if_pos c21] at h
          refine mAt.blk bk_X12_least_173 ck_X12_least_173 ?_
          refine q_aload_n rfl ?_
          refine q_iload rfl ?_
          refine q_iconst ?_
          obtain ⟨q22, e22, h⟩ := mbind h
          refine q_vI2 mcap_0 rfl rfl ob_93 rfl (by decide) (ok_X12_itsWell  e22) ?_
          exact okc_X12_least_180 Hk46 (fun _ _ _ _ _ _ _ _ e hl => ih  e hl) h ⟨rfl, rfl, rfl, rfl, rfl, rfl, rfl, trivial⟩
        · rw [if_neg c21] at h
          refine q_aload_n rfl ?_
          refine q_iload rfl ?_
          refine q_iconst ?_
          obtain ⟨q23, e23, h⟩ := mbind h
          refine q_vI2 mcap_0 rfl rfl ob_93 rfl (by decide) (ok_X12_itsWell  e23) ?_
          refine q_goto ?_
          exact okc_X12_least_180 Hk46 (fun _ _ _ _ _ _ _ _ e hl => ih  e hl) h ⟨rfl, rfl, rfl, rfl, rfl, rfl, rfl, trivial⟩
      · rw [if_neg c20] at h
        exact okc_X12_least_196 Hk46 (fun _ _ _ _ _ _ _ _ e hl => ih  e hl) h ⟨rfl, rfl, rfl, rfl, rfl, rfl, rfl, rfl, trivial⟩
def c_X12_least_121 (k46 : Int32 → Int32 → Int32 → Int32 → Sg → Option (Int32 × Sg)) (x2 : Int32) (x3 : Int32) (x4 : Int32) (x5 : Int32) (x6 : Int32) (σ : Sg) : Option (Int32 × Sg) := (if x6 < 0 ∨ 9 ≤ (x6).toNatClampNeg then none else (c_X12_least_132 k46  1000 x2 x3 x4 x5 x6 (0 : Int32) (mup σ 100 (x6).toNatClampNeg (vp_nar .boolean (1 : Int32)))))
set_option maxHeartbeats 4000000 in
theorem okc_X12_least_121 {L : Nat} {k46 : Int32 → Int32 → Int32 → Int32 → Sg → Option (Int32 × Sg)} {R : Int32 × Sg} (Hk46 : ∀ (x2 : Int32) (x3 : Int32) (x4 : Int32) (x5 : Int32) (σ : Sg) (pl : mLoc), k46 x2 x3 x4 x5 σ = some R → mlf [some (.ref 93), none, some (.int x2), some (.int x3), some (.int x4), some (.int x5), none, none, none, none] pl → mAt 1 192 (some (.int R.1), (mSh, L, R.2)) 46 pl [] (mSh, L, σ) 0 0) {x2 : Int32} {x3 : Int32} {x4 : Int32} {x5 : Int32} {x6 : Int32} {σ : Sg} {pl : mLoc} (h : c_X12_least_121 k46 x2 x3 x4 x5 x6 σ = some R) (hl : mlf [some (.ref 93), none, some (.int x2), some (.int x3), some (.int x4), some (.int x5), some (.int x6), none, none, none] pl) : mAt 1 192 (some (.int R.1), (mSh, L, R.2)) 121 pl [] (mSh, L, σ) 0 0 := by
  refine mAt.less hl ?_
  unfold c_X12_least_121 at h
  refine mAt.blk bk_X12_least_121 ck_X12_least_121 ?_
  refine q_aload_n rfl ?_
  refine q_getR ob_93 rfl rfl ?_
  refine q_iload rfl ?_
  refine q_iconst ?_
  obtain ⟨c16, h⟩ := mnone h
  refine q_bast rfl az_100 c16 ?_
  refine q_iconst ?_
  refine q_istore rfl rfl ?_
  exact okc_X12_least_132 Hk46 h ⟨rfl, rfl, rfl, rfl, rfl, rfl, rfl, trivial⟩
def c_X12_least_63 (k46 : Int32 → Int32 → Int32 → Int32 → Sg → Option (Int32 × Sg)) : Nat → Int32 → Int32 → Int32 → Int32 → Int32 → Int32 → Sg → Option (Int32 × Sg)
  | 0, _, _, _, _, _, _, _ => none
  | n + 1, x2, x3, x4, x5, x6, x7, σ => (if (σ 94 1) ≤ x7 then (c_X12_least_121 k46  x2 x3 x4 x5 x6 σ) else (if x7 < 0 ∨ 9 ≤ (x7).toNatClampNeg then none else (if (σ 100 (x7).toNatClampNeg) = 0 then (if x6 < 0 then (c_X12_least_106 k46 (c_X12_least_63 k46 n)  x2 x3 x4 x5 x7 σ) else (if x7 < 0 ∨ 9 ≤ (x7).toNatClampNeg then none else (if x6 < 0 ∨ 9 ≤ (x6).toNatClampNeg then none else (if (σ 99 (x6).toNatClampNeg) ≤ (σ 99 (x7).toNatClampNeg) then (c_X12_least_111 k46 (c_X12_least_63 k46 n)  x2 x3 x4 x5 x6 x7 σ) else (c_X12_least_106 k46 (c_X12_least_63 k46 n)  x2 x3 x4 x5 x7 σ))))) else (c_X12_least_111 k46 (c_X12_least_63 k46 n)  x2 x3 x4 x5 x6 x7 σ))))
set_option maxHeartbeats 4000000 in
theorem okc_X12_least_63 {L : Nat} {k46 : Int32 → Int32 → Int32 → Int32 → Sg → Option (Int32 × Sg)} {R : Int32 × Sg} (Hk46 : ∀ (x2 : Int32) (x3 : Int32) (x4 : Int32) (x5 : Int32) (σ : Sg) (pl : mLoc), k46 x2 x3 x4 x5 σ = some R → mlf [some (.ref 93), none, some (.int x2), some (.int x3), some (.int x4), some (.int x5), none, none, none, none] pl → mAt 1 192 (some (.int R.1), (mSh, L, R.2)) 46 pl [] (mSh, L, σ) 0 0) {n : Nat} {x2 : Int32} {x3 : Int32} {x4 : Int32} {x5 : Int32} {x6 : Int32} {x7 : Int32} {σ : Sg} {pl : mLoc} (h : c_X12_least_63 k46 n x2 x3 x4 x5 x6 x7 σ = some R) (hl : mlf [some (.ref 93), none, some (.int x2), some (.int x3), some (.int x4), some (.int x5), some (.int x6), some (.int x7), none, none] pl) : mAt 1 192 (some (.int R.1), (mSh, L, R.2)) 63 pl [] (mSh, L, σ) 0 0 := by
  induction n generalizing x2 x3 x4 x5 x6 x7 σ pl with
  | zero =>
    rw [c_X12_least_63.eq_1] at h
    cases h
  | succ n ih =>
    refine mAt.less hl ?_
    rw [c_X12_least_63.eq_2] at h
    refine mAt.blk bk_X12_least_63 ck_X12_least_63 ?_
    refine q_iload rfl ?_
    refine q_aload_n rfl ?_
    refine q_getR ob_93 rfl rfl ?_
    refine q_iconst ?_
    refine q_iald (j := 1) (mrd ar_94 _ _) (by decide) (by decide) ?_
    refine q_ic_ge (fun c9 => ?_) (fun c9 => ?_)
    · rw [if_pos c9] at h
      exact okc_X12_least_121 Hk46 h ⟨rfl, rfl, rfl, rfl, rfl, rfl, trivial⟩
    · rw [if_neg c9] at h
      refine q_aload_n rfl ?_
      refine q_getR ob_93 rfl rfl ?_
      refine q_iload rfl ?_
      obtain ⟨c10, h⟩ := mnone h
      refine q_bald rfl az_100 c10 ?_
      refine q_if_ne (fun c11 => ?_) (fun c11 => ?_)
      · rw [if_pos c11] at h
        refine q_iload rfl ?_
        refine q_if_lt (fun c12 => ?_) (fun c12 => ?_)
        · rw [if_pos c12] at h
          exact okc_X12_least_106 Hk46 (fun _ _ _ _ _ _ _ _ e hl => ih  e hl) h ⟨rfl, rfl, rfl, rfl, rfl, rfl, trivial⟩
        · rw [if_neg c12] at h
          refine q_aload_n rfl ?_
          refine q_getR ob_93 rfl rfl ?_
          refine q_iload rfl ?_
          obtain ⟨c13, h⟩ := mnone h
          refine q_iald (mrd ar_99 _ _) rfl c13 ?_
          refine q_aload_n rfl ?_
          refine q_getR ob_93 rfl rfl ?_
          refine q_iload rfl ?_
          obtain ⟨c14, h⟩ := mnone h
          refine q_iald (mrd ar_99 _ _) rfl c14 ?_
          refine q_ic_ge (fun c15 => ?_) (fun c15 => ?_)
          · rw [if_pos c15] at h
            exact okc_X12_least_111 Hk46 (fun _ _ _ _ _ _ _ _ e hl => ih  e hl) h ⟨rfl, rfl, rfl, rfl, rfl, rfl, rfl, trivial⟩
          · rw [if_neg c15] at h
            exact okc_X12_least_106 Hk46 (fun _ _ _ _ _ _ _ _ e hl => ih  e hl) h ⟨rfl, rfl, rfl, rfl, rfl, rfl, trivial⟩
      · rw [if_neg c11] at h
        exact okc_X12_least_111 Hk46 (fun _ _ _ _ _ _ _ _ e hl => ih  e hl) h ⟨rfl, rfl, rfl, rfl, rfl, rfl, rfl, trivial⟩
def c_X12_least_46 : Nat → Int32 → Int32 → Int32 → Int32 → Sg → Option (Int32 × Sg)
  | 0, _, _, _, _, _ => none
  | n + 1, x2, x3, x4, x5, σ => (if (σ 94 1) ≤ x5 then (if x2 < 0 ∨ 9 ≤ (x2).toNatClampNeg then none else (some ((σ 99 (x2).toNatClampNeg), σ))) else (c_X12_least_63 (c_X12_least_46  n)  1000 x2 x3 x4 x5 (-1 : Int32) (0 : Int32) σ))
set_option maxHeartbeats 4000000 in
theorem okc_X12_least_46 {L : Nat} {R : Int32 × Sg} {n : Nat} {x2 : Int32} {x3 : Int32} {x4 : Int32} {x5 : Int32} {σ : Sg} {pl : mLoc} (h : c_X12_least_46 n x2 x3 x4 x5 σ = some R) (hl : mlf [some (.ref 93), none, some (.int x2), some (.int x3), some (.int x4), some (.int x5), none, none, none, none] pl) : mAt 1 192 (some (.int R.1), (mSh, L, R.2)) 46 pl [] (mSh, L, σ) 0 0 := by
  induction n generalizing x2 x3 x4 x5 σ pl with
  | zero =>
    rw [c_X12_least_46.eq_1] at h
    cases h
  | succ n ih =>
    refine mAt.less hl ?_
    rw [c_X12_least_46.eq_2] at h
    refine mAt.blk bk_X12_least_46 ck_X12_least_46 ?_
    refine q_iload rfl ?_
    refine q_aload_n rfl ?_
    refine q_getR ob_93 rfl rfl ?_
    refine q_iconst ?_
    refine q_iald (j := 1) (mrd ar_94 _ _) (by decide) (by decide) ?_
    refine q_ic_ge (fun c6 => ?_) (fun c6 => ?_)
    · rw [if_pos c6] at h
      refine mAt.blk bk_X12_least_255 ck_X12_least_255 ?_
      refine q_aload_n rfl ?_
      refine q_getR ob_93 rfl rfl ?_
      refine q_iload_n rfl ?_
      obtain ⟨c7, h⟩ := mnone h
      refine q_iald (mrd ar_99 _ _) rfl c7 ?_
      have h := Option.some.inj h
      subst h
      exact q_iretI mcap_0 rfl rfl
    · rw [if_neg c6] at h
      refine q_iconst ?_
      refine q_istore rfl rfl ?_
      refine q_iconst ?_
      refine q_istore rfl rfl ?_
      exact okc_X12_least_63 (fun _ _ _ _ _ _ e hl => ih  e hl) h ⟨rfl, rfl, rfl, rfl, rfl, rfl, rfl, trivial⟩
def c_X12_least_43 (x2 : Int32) (x3 : Int32) (x4 : Int32) (σ : Sg) : Option (Int32 × Sg) := (c_X12_least_46   1000 x2 x3 x4 (0 : Int32) σ)
set_option maxHeartbeats 4000000 in
theorem okc_X12_least_43 {L : Nat} {R : Int32 × Sg} {x2 : Int32} {x3 : Int32} {x4 : Int32} {σ : Sg} {pl : mLoc} (h : c_X12_least_43 x2 x3 x4 σ = some R) (hl : mlf [some (.ref 93), none, some (.int x2), some (.int x3), some (.int x4), none, none, none, none, none] pl) : mAt 1 192 (some (.int R.1), (mSh, L, R.2)) 43 pl [] (mSh, L, σ) 0 0 := by
  refine mAt.less hl ?_
  unfold c_X12_least_43 at h
  refine mAt.blk bk_X12_least_43 ck_X12_least_43 ?_
  refine q_iconst ?_
  refine q_istore rfl rfl ?_
  exact okc_X12_least_46  h ⟨rfl, rfl, rfl, rfl, rfl, trivial⟩
def c_X12_least_3 : Nat → Int32 → Int32 → Int32 → Int32 → Int32 → Sg → Option (Int32 × Sg)
  | 0, _, _, _, _, _, _ => none
  | n + 1, x1, x2, x3, x4, x5, σ => (if (9 : Int32) ≤ x5 then (c_X12_least_43   x2 x3 x4 σ) else (if x5 = x1 then (c_X12_least_28 (c_X12_least_3  n)  x1 x2 x3 x4 x5 x5 (0 : Int32) σ) else (c_X12_least_28 (c_X12_least_3  n)  x1 x2 x3 x4 x5 x5 (100000000 : Int32) σ)))
set_option maxHeartbeats 4000000 in
theorem okc_X12_least_3 {L : Nat} {R : Int32 × Sg} {n : Nat} {x1 : Int32} {x2 : Int32} {x3 : Int32} {x4 : Int32} {x5 : Int32} {σ : Sg} {pl : mLoc} (h : c_X12_least_3 n x1 x2 x3 x4 x5 σ = some R) (hl : mlf [some (.ref 93), some (.int x1), some (.int x2), some (.int x3), some (.int x4), some (.int x5), none, none, none, none] pl) : mAt 1 192 (some (.int R.1), (mSh, L, R.2)) 3 pl [] (mSh, L, σ) 0 0 := by
  induction n generalizing x1 x2 x3 x4 x5 σ pl with
  | zero =>
    rw [c_X12_least_3.eq_1] at h
    cases h
  | succ n ih =>
    refine mAt.less hl ?_
    rw [c_X12_least_3.eq_2] at h
    refine mAt.blk bk_X12_least_3 ck_X12_least_3 ?_
    refine q_iload rfl ?_
    refine q_bipush ?_
    refine q_ic_ge (fun c1 => ?_) (fun c1 => ?_)
    · rw [if_pos c1] at h
      exact okc_X12_least_43  h ⟨rfl, rfl, rfl, rfl, trivial⟩
    · rw [if_neg c1] at h
      refine q_aload_n rfl ?_
      refine q_getR ob_93 rfl rfl ?_
      refine q_iload rfl ?_
      refine q_iload rfl ?_
      refine q_iload_n rfl ?_
      refine q_ic_ne (fun c2 => ?_) (fun c2 => ?_)
      · rw [if_pos c2] at h
        refine q_iconst ?_
        refine q_goto ?_
        exact okc_X12_least_28 (fun _ _ _ _ _ _ _ e hl => ih  e hl) h ⟨rfl, rfl, rfl, rfl, rfl, rfl, trivial⟩
      · rw [if_neg c2] at h
        refine mAt.blk bk_X12_least_26 ck_X12_least_26 ?_
        refine q_ldc ?_
        exact okc_X12_least_28 (fun _ _ _ _ _ _ _ e hl => ih  e hl) h ⟨rfl, rfl, rfl, rfl, rfl, rfl, trivial⟩
def f_X12_least (p0 : Int32) (p1 : Int32) (p2 : Int32) (p3 : Int32) (σ : Sg) : Option (Int32 × Sg) := (c_X12_least_3   1000 p0 p1 p2 p3 (0 : Int32) σ)
set_option maxHeartbeats 4000000 in
theorem ok_X12_least {L : Nat} {p0 : Int32} {p1 : Int32} {p2 : Int32} {p3 : Int32} {σ : Sg} {R : Int32 × Sg} (h : f_X12_least p0 p1 p2 p3 σ = some R) : mEv 1 192 [.ref 93, .int p0, .int p1, .int p2, .int p3] (mSh, L, σ) (some (.int R.1)) (mSh, L, R.2) := by
  refine mEv.of (by decide) rfl rfl ?_
  unfold f_X12_least at h
  refine mAt.blk bk_X12_least_0 ck_X12_least_0 ?_
  refine q_iconst ?_
  refine q_istore rfl rfl ?_
  exact okc_X12_least_3  h ⟨rfl, rfl, rfl, rfl, rfl, rfl, trivial⟩
