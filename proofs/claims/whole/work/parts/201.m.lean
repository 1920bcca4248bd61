def bk_X4_copyFrom_0 : List mI := [(.aload_n 1, 1, 0, 0, 0, []), (.getfield 13, 3, 4, 0, 138, []), (.aload_n 0, 1, 0, 0, 0, []), (.getfield 13, 3, 4, 0, 138, []), (.invokestatic 19, 3, 132, 0, 906, []), (.aload_n 0, 1, 0, 0, 0, []), (.aload_n 1, 1, 0, 0, 0, []), (.getfield 25, 3, 4, 1, 141, []), (.putfield 25, 3, 4, 1, 141, []), (.return_, 1, 0, 0, 0, [])]
theorem ck_X4_copyFrom_0 : mChk 25 0 bk_X4_copyFrom_0 = true := by decide +kernel
def f_X4_copyFrom (a a_n r0 r0_n : Nat) (σ : Sg) : Option (Sg) := ((f_X11_copyRow (r0 + 1) r0_n (a + 1) a_n σ).bind fun q1 => (some (mup q1 a 1 (q1 r0 1))))
set_option maxHeartbeats 4000000 in
theorem ok_X4_copyFrom {L : Nat} {a a_n r0 r0_n : Nat} {σ : Sg} {R : Sg} (ha : P4 a a_n) (hr0 : P4 r0 r0_n) (h : f_X4_copyFrom a a_n r0 r0_n σ = some R) : mEv 2 25 [.ref a, .ref r0] (mSh, L, σ) none (mSh, L, R) := by
  refine mEv.of (by decide) rfl rfl ?_
  unfold f_X4_copyFrom at h
  refine mAt.blk bk_X4_copyFrom_0 ck_X4_copyFrom_0 ?_
  refine q_aload_n rfl ?_
  refine q_getR (hr0).1 rfl rfl ?_
  refine q_aload_n rfl ?_
  refine q_getR (ha).1 rfl rfl ?_
  obtain ⟨q1, e1, h⟩ := mbind h
  refine q_sV2 mcap_0 rfl rfl rfl rfl (by decide) (ok_X11_copyRow (hr0).2 (ha).2 e1) ?_
  refine q_aload_n rfl ?_
  refine q_aload_n rfl ?_
  refine q_getI (hr0).1 rfl ?_
  refine q_putI (ha).1 rfl ?_
  have h := Option.some.inj h
  subst h
  exact q_vret mcap_0 rfl rfl
def bk_X6_copyFrom_0 : List mI := [(.aload_n 1, 1, 0, 0, 0, []), (.getfield 9, 3, 6, 0, 117, []), (.aload_n 0, 1, 0, 0, 0, []), (.getfield 9, 3, 6, 0, 117, []), (.invokestatic 18, 3, 132, 0, 637, []), (.aload_n 0, 1, 0, 0, 0, []), (.aload_n 1, 1, 0, 0, 0, []), (.getfield 22, 3, 6, 2, 119, []), (.putfield 22, 3, 6, 2, 119, []), (.return_, 1, 0, 0, 0, [])]
theorem ck_X6_copyFrom_0 : mChk 32 0 bk_X6_copyFrom_0 = true := by decide +kernel
def f_X6_copyFrom (a r0 : Nat) (σ : Sg) : Option (Sg) := ((f_X11_copyRow (r0 + 1) 50 (a + 1) 50 σ).bind fun q1 => (some (mup q1 a 2 (q1 r0 2))))
set_option maxHeartbeats 4000000 in
theorem ok_X6_copyFrom {L : Nat} {a r0 : Nat} {σ : Sg} {R : Sg} (ha : P6 a) (hr0 : P6 r0) (h : f_X6_copyFrom a r0 σ = some R) : mEv 2 32 [.ref a, .ref r0] (mSh, L, σ) none (mSh, L, R) := by
  refine mEv.of (by decide) rfl rfl ?_
  unfold f_X6_copyFrom at h
  refine mAt.blk bk_X6_copyFrom_0 ck_X6_copyFrom_0 ?_
  refine q_aload_n rfl ?_
  refine q_getR (hr0).1 rfl rfl ?_
  refine q_aload_n rfl ?_
  refine q_getR (ha).1 rfl rfl ?_
  obtain ⟨q1, e1, h⟩ := mbind h
  refine q_sV2 mcap_0 rfl rfl rfl rfl (by decide) (ok_X11_copyRow (hr0).2.1 (ha).2.1 e1) ?_
  refine q_aload_n rfl ?_
  refine q_aload_n rfl ?_
  refine q_getI (hr0).1 rfl ?_
  refine q_putI (ha).1 rfl ?_
  have h := Option.some.inj h
  subst h
  exact q_vret mcap_0 rfl rfl
def bk_X1_copyFrom_0 : List mI := [(.aload_n 0, 1, 0, 0, 0, []), (.getfield 12, 3, 1, 0, 149, []), (.aload_n 1, 1, 0, 0, 0, []), (.getfield 12, 3, 1, 0, 149, []), (.invokevirtual 44, 3, 9, 0, 896, []), (.aload_n 0, 1, 0, 0, 0, []), (.getfield 21, 3, 1, 1, 151, []), (.aload_n 1, 1, 0, 0, 0, []), (.getfield 21, 3, 1, 1, 151, []), (.invokevirtual 48, 3, 32, 0, 901, []), (.aload_n 0, 1, 0, 0, 0, []), (.getfield 25, 3, 1, 2, 153, []), (.aload_n 1, 1, 0, 0, 0, []), (.getfield 25, 3, 1, 2, 153, []), (.invokevirtual 48, 3, 32, 0, 901, []), (.aload_n 0, 1, 0, 0, 0, []), (.getfield 33, 3, 1, 3, 155, []), (.aload_n 1, 1, 0, 0, 0, []), (.getfield 33, 3, 1, 3, 155, []), (.invokevirtual 51, 3, 25, 0, 902, []), (.aload_n 0, 1, 0, 0, 0, []), (.getfield 37, 3, 1, 4, 157, []), (.aload_n 1, 1, 0, 0, 0, []), (.getfield 37, 3, 1, 4, 157, []), (.invokevirtual 51, 3, 25, 0, 902, []), (.aload_n 0, 1, 0, 0, 0, []), (.aload_n 1, 1, 0, 0, 0, []), (.getfield 40, 3, 1, 5, 159, []), (.putfield 40, 3, 1, 5, 159, []), (.return_, 1, 0, 0, 0, [])]
theorem ck_X1_copyFrom_0 : mChk 6 0 bk_X1_copyFrom_0 = true := by decide +kernel
def f_X1_copyFrom (a r0 : Nat) (σ : Sg) : Option (Sg) := ((f_X2_copyFrom (a + 1) (r0 + 1) σ).bind fun q1 => ((f_X6_copyFrom (a + 5) (r0 + 5) q1).bind fun q2 => ((f_X6_copyFrom (a + 8) (r0 + 8) q2).bind fun q3 => ((f_X4_copyFrom (a + 11) 50 (r0 + 11) 50 q3).bind fun q4 => ((f_X4_copyFrom (a + 13) 20 (r0 + 13) 20 q4).bind fun q5 => (some (mup q5 a 5 (q5 r0 5))))))))
set_option maxHeartbeats 4000000 in
theorem ok_X1_copyFrom {L : Nat} {a r0 : Nat} {σ : Sg} {R : Sg} (ha : P1 a) (hr0 : P1 r0) (h : f_X1_copyFrom a r0 σ = some R) : mEv 3 6 [.ref a, .ref r0] (mSh, L, σ) none (mSh, L, R) := by
  refine mEv.of (by decide) rfl rfl ?_
  unfold f_X1_copyFrom at h
  refine mAt.blk bk_X1_copyFrom_0 ck_X1_copyFrom_0 ?_
  refine q_aload_n rfl ?_
  refine q_getR (ha).1 rfl rfl ?_
  refine q_aload_n rfl ?_
  refine q_getR (hr0).1 rfl rfl ?_
  obtain ⟨q1, e1, h⟩ := mbind h
  refine q_vV1 mcap_0 rfl rfl ((ha).2.1).1 rfl (by decide) (ok_X2_copyFrom (ha).2.1 (hr0).2.1 e1) ?_
  refine q_aload_n rfl ?_
  refine q_getR (ha).1 rfl rfl ?_
  refine q_aload_n rfl ?_
  refine q_getR (hr0).1 rfl rfl ?_
  obtain ⟨q2, e2, h⟩ := mbind h
  refine q_vV1 mcap_0 rfl rfl ((ha).2.2.1).1 rfl (by decide) (ok_X6_copyFrom (ha).2.2.1 (hr0).2.2.1 e2) ?_
  refine q_aload_n rfl ?_
  refine q_getR (ha).1 rfl rfl ?_
  refine q_aload_n rfl ?_
  refine q_getR (hr0).1 rfl rfl ?_
  obtain ⟨q3, e3, h⟩ := mbind h
  refine q_vV1 mcap_0 rfl rfl ((ha).2.2.2.1).1 rfl (by decide) (ok_X6_copyFrom (ha).2.2.2.1 (hr0).2.2.2.1 e3) ?_
  refine q_aload_n rfl ?_
  refine q_getR (ha).1 rfl rfl ?_
  refine q_aload_n rfl ?_
  refine q_getR (hr0).1 rfl rfl ?_
  obtain ⟨q4, e4, h⟩ := mbind h
  refine q_vV1 mcap_0 rfl rfl ((ha).2.2.2.2.1).1 rfl (by decide) (ok_X4_copyFrom (ha).2.2.2.2.1 (hr0).2.2.2.2.1 e4) ?_
  refine q_aload_n rfl ?_
  refine q_getR (ha).1 rfl rfl ?_
  refine q_aload_n rfl ?_
  refine q_getR (hr0).1 rfl rfl ?_
  obtain ⟨q5, e5, h⟩ := mbind h
  refine q_vV1 mcap_0 rfl rfl ((ha).2.2.2.2.2).1 rfl (by decide) (ok_X4_copyFrom (ha).2.2.2.2.2 (hr0).2.2.2.2.2 e5) ?_
  refine q_aload_n rfl ?_
  refine q_aload_n rfl ?_
  refine q_getI (hr0).1 rfl ?_
  refine q_putI (ha).1 rfl ?_
  have h := Option.some.inj h
  subst h
  exact q_vret mcap_0 rfl rfl
def bk_X1_draw_0 : List mI := [(.aload_n 0, 1, 0, 0, 0, []), (.aload_n 0, 1, 0, 0, 0, []), (.getfield 40, 3, 1, 5, 159, []), (.ldc 54, 2, 0, 0, 684, [(1103515245, 0)]), (.imul, 1, 0, 0, 0, []), (.sipush 12345, 3, 0, 0, 0, [(12345, 0)]), (.iadd, 1, 0, 0, 0, []), (.putfield 40, 3, 1, 5, 159, []), (.aload_n 0, 1, 0, 0, 0, []), (.getfield 40, 3, 1, 5, 159, []), (.bipush 8, 2, 0, 0, 0, [(8, 0)]), (.iushr, 1, 0, 0, 0, []), (.ireturn, 1, 0, 0, 0, [])]
theorem ck_X1_draw_0 : mChk 7 0 bk_X1_draw_0 = true := by decide +kernel
def f_X1_draw (a : Nat) (σ : Sg) : Option (Int32 × Sg) := (some (((((mup σ a 5 (((σ a 5) * (1103515245 : Int32)) + (12345 : Int32))) a 5)).toUInt32 >>> (((8 : Int32)).toUInt32 &&& Int32.toUInt32 31)).toInt32, (mup σ a 5 (((σ a 5) * (1103515245 : Int32)) + (12345 : Int32)))))
set_option maxHeartbeats 4000000 in
theorem ok_X1_draw {L : Nat} {a : Nat} {σ : Sg} {R : Int32 × Sg} (ha : P1 a) (h : f_X1_draw a σ = some R) : mEv 0 7 [.ref a] (mSh, L, σ) (some (.int R.1)) (mSh, L, R.2) := by
  refine mEv.of (by decide) rfl rfl ?_
  unfold f_X1_draw at h
  refine mAt.blk bk_X1_draw_0 ck_X1_draw_0 ?_
  refine q_aload_n rfl ?_
  refine q_aload_n rfl ?_
  refine q_getI (ha).1 rfl ?_
  refine q_ldc ?_
  refine q_imul ?_
  refine q_sipush ?_
  refine q_iadd ?_
  refine q_putI (ha).1 rfl ?_
  refine q_aload_n rfl ?_
  refine q_getI (ha).1 rfl ?_
  refine q_bipush ?_
  refine q_iushr ?_
  have h := Option.some.inj h
  subst h
  exact q_iretI mcap_0 rfl rfl
def bk_X2_append_0 : List mI := [(.aload_n 0, 1, 0, 0, 0, []), (.getfield 25, 3, 2, 3, 99, []), (.istore 4, 2, 0, 0, 0, []), (.aload_n 0, 1, 0, 0, 0, []), (.dup, 1, 0, 0, 0, []), (.getfield 25, 3, 2, 3, 99, []), (.iconst 1, 1, 0, 0, 0, [(1, 0)]), (.iadd, 1, 0, 0, 0, []), (.putfield 25, 3, 2, 3, 99, []), (.aload_n 0, 1, 0, 0, 0, []), (.getfield 9, 3, 2, 0, 96, []), (.iload 4, 2, 0, 0, 0, []), (.iload_n 1, 1, 0, 0, 0, []), (.invokestatic 29, 3, 131, 0, 776, []), (.aload_n 0, 1, 0, 0, 0, []), (.getfield 15, 3, 2, 1, 97, []), (.iload 4, 2, 0, 0, 0, []), (.iload_n 2, 1, 0, 0, 0, []), (.invokestatic 29, 3, 131, 0, 776, []), (.aload_n 0, 1, 0, 0, 0, []), (.getfield 18, 3, 2, 2, 98, []), (.iload 4, 2, 0, 0, 0, []), (.iload_n 3, 1, 0, 0, 0, []), (.invokestatic 29, 3, 131, 0, 776, []), (.iload 4, 2, 0, 0, 0, []), (.ireturn, 1, 0, 0, 0, [])]
theorem ck_X2_append_0 : mChk 10 0 bk_X2_append_0 = true := by decide +kernel
def f_X2_append (a : Nat) (p0 : Int32) (p1 : Int32) (p2 : Int32) (σ : Sg) : Option (Int32 × Sg) := ((f_X11_lay (a + 1) 12 (σ a 3) p0 (mup σ a 3 ((σ a 3) + (1 : Int32)))).bind fun q1 => ((f_X11_lay (a + 2) 12 (σ a 3) p1 q1).bind fun q2 => ((f_X11_lay (a + 3) 12 (σ a 3) p2 q2).bind fun q3 => (some ((σ a 3), q3)))))
set_option maxHeartbeats 4000000 in
theorem ok_X2_append {L : Nat} {a : Nat} {p0 : Int32} {p1 : Int32} {p2 : Int32} {σ : Sg} {R : Int32 × Sg} (ha : P2 a) (h : f_X2_append a p0 p1 p2 σ = some R) : mEv 1 10 [.ref a, .int p0, .int p1, .int p2] (mSh, L, σ) (some (.int R.1)) (mSh, L, R.2) := by
  refine mEv.of (by decide) rfl rfl ?_
  unfold f_X2_append at h
  refine mAt.blk bk_X2_append_0 ck_X2_append_0 ?_
  refine q_aload_n rfl ?_
  refine q_getI (ha).1 rfl ?_
  refine q_istore rfl rfl ?_
  refine q_aload_n rfl ?_
  refine q_dupR ?_
  refine q_getI (ha).1 rfl ?_
  refine q_iconst ?_
  refine q_iadd ?_
  refine q_putI (ha).1 rfl ?_
  refine q_aload_n rfl ?_
  refine q_getR (ha).1 rfl rfl ?_
  refine q_iload rfl ?_
  refine q_iload_n rfl ?_
  obtain ⟨q1, e1, h⟩ := mbind h
  refine q_sV3 mcap_0 rfl rfl rfl rfl (by decide) (ok_X11_lay (ha).2.1 e1) ?_
  refine q_aload_n rfl ?_
  refine q_getR (ha).1 rfl rfl ?_
  refine q_iload rfl ?_
  refine q_iload_n rfl ?_
  obtain ⟨q2, e2, h⟩ := mbind h
  refine q_sV3 mcap_0 rfl rfl rfl rfl (by decide) (ok_X11_lay (ha).2.2.1 e2) ?_
  refine q_aload_n rfl ?_
  refine q_getR (ha).1 rfl rfl ?_
  refine q_iload rfl ?_
  refine q_iload_n rfl ?_
  obtain ⟨q3, e3, h⟩ := mbind h
  refine q_sV3 mcap_0 rfl rfl rfl rfl (by decide) (ok_X11_lay (ha).2.2.2 e3) ?_
  refine q_iload rfl ?_
  have h := Option.some.inj h
  subst h
  exact q_iretI mcap_0 rfl rfl
def bk_X3_levelOf_0 : List mI := [(.iload_n 0, 1, 0, 0, 0, []), (.lookupswitch 101 #[(37, 99), (38, 93), (42, 99), (43, 97), (45, 97), (47, 99), (60, 95), (61, 95), (62, 95), (124, 91)], 91, 102, 0, 0, [(37, 100), (38, 94), (42, 100), (43, 98), (45, 98), (47, 100), (60, 96), (61, 96), (62, 96), (124, 92)])]
theorem ck_X3_levelOf_0 : mChk 23 0 bk_X3_levelOf_0 = true := by decide +kernel
def bk_X3_levelOf_92 : List mI := [(.iconst 0, 1, 0, 0, 0, [(0, 0)]), (.ireturn, 1, 0, 0, 0, [])]
theorem ck_X3_levelOf_92 : mChk 23 92 bk_X3_levelOf_92 = true := by decide +kernel
def bk_X3_levelOf_94 : List mI := [(.iconst 1, 1, 0, 0, 0, [(1, 0)]), (.ireturn, 1, 0, 0, 0, [])]
theorem ck_X3_levelOf_94 : mChk 23 94 bk_X3_levelOf_94 = true := by decide +kernel
def bk_X3_levelOf_96 : List mI := [(.iconst 2, 1, 0, 0, 0, [(2, 0)]), (.ireturn, 1, 0, 0, 0, [])]
theorem ck_X3_levelOf_96 : mChk 23 96 bk_X3_levelOf_96 = true := by decide +kernel
def bk_X3_levelOf_98 : List mI := [(.iconst 3, 1, 0, 0, 0, [(3, 0)]), (.ireturn, 1, 0, 0, 0, [])]
theorem ck_X3_levelOf_98 : mChk 23 98 bk_X3_levelOf_98 = true := by decide +kernel
def bk_X3_levelOf_100 : List mI := [(.iconst 4, 1, 0, 0, 0, [(4, 0)]), (.ireturn, 1, 0, 0, 0, [])]
theorem ck_X3_levelOf_100 : mChk 23 100 bk_X3_levelOf_100 = true := by decide +kernel
def bk_X3_levelOf_102 : List mI := [(.iconst (-1), 1, 0, 0, 0, [((-1), 0)]), (.ireturn, 1, 0, 0, 0, [])]
theorem ck_X3_levelOf_102 : mChk 23 102 bk_X3_levelOf_102 = true := by decide +kernel
def f_X3_levelOf (p0 : Int32) (σ : Sg) : Option (Int32) := (if p0 = (37 : Int32) then (some (4 : Int32)) else (if p0 = (38 : Int32) then (some (1 : Int32)) else (if p0 = (42 : Int32) then (some (4 : Int32)) else (if p0 = (43 : Int32) then (some (3 : Int32)) else (if p0 = (45 : Int32) then (some (3 : Int32)) else (if p0 = (47 : Int32) then (some (4 : Int32)) else (if p0 = (60 : Int32) then (some (2 : Int32)) else (if p0 = (61 : Int32) then (some (2 : Int32)) else (if p0 = (62 : Int32) then (some (2 : Int32)) else (if p0 = (124 : Int32) then (some (0 : Int32)) else (some (-1 : Int32))))))))))))
set_option maxHeartbeats 4000000 in
theorem ok_X3_levelOf {L : Nat} {p0 : Int32} {σ : Sg} {R : Int32} (h : f_X3_levelOf p0 σ = some R) : mEv 0 23 [.int p0] (mSh, L, σ) (some (.int R)) (mSh, L, σ) := by
  refine mEv.of (by decide) rfl rfl ?_
  unfold f_X3_levelOf at h
  refine mAt.blk bk_X3_levelOf_0 ck_X3_levelOf_0 ?_
  refine q_iload_n rfl ?_
  refine q_lsw ?_
  refine ⟨fun c10 => ?_, fun c10 => ?_⟩
  · rw [if_pos c10] at h
    refine mAt.blk bk_X3_levelOf_100 ck_X3_levelOf_100 ?_
    refine q_iconst ?_
    have h := Option.some.inj h
    subst h
    exact q_iretI mcap_0 rfl rfl
  · rw [if_neg c10] at h
    refine ⟨fun c9 => ?_, fun c9 => ?_⟩
    · rw [if_pos c9] at h
      refine mAt.blk bk_X3_levelOf_94 ck_X3_levelOf_94 ?_
      refine q_iconst ?_
      have h := Option.some.inj h
      subst h
      exact q_iretI mcap_0 rfl rfl
    · rw [if_neg c9] at h
      refine ⟨fun c8 => ?_, fun c8 => ?_⟩
      · rw [if_pos c8] at h
        refine mAt.blk bk_X3_levelOf_100 ck_X3_levelOf_100 ?_
        refine q_iconst ?_
        have h := Option.some.inj h
        subst h
        exact q_iretI mcap_0 rfl rfl
      · rw [if_neg c8] at h
        refine ⟨fun c7 => ?_, fun c7 => ?_⟩
        · rw [if_pos c7] at h
          refine mAt.blk bk_X3_levelOf_98 ck_X3_levelOf_98 ?_
          refine q_iconst ?_
          have h := Option.some.inj h
          subst h
          exact q_iretI mcap_0 rfl rfl
        · rw [if_neg c7] at h
          refine ⟨fun c6 => ?_, fun c6 => ?_⟩
          · rw [if_pos c6] at h
            refine mAt.blk bk_X3_levelOf_98 ck_X3_levelOf_98 ?_
            refine q_iconst ?_
            have h := Option.some.inj h
            subst h
            exact q_iretI mcap_0 rfl rfl
          · rw [if_neg c6] at h
            refine ⟨fun c5 => ?_, fun c5 => ?_⟩
            · rw [if_pos c5] at h
              refine mAt.blk bk_X3_levelOf_100 ck_X3_levelOf_100 ?_
              refine q_iconst ?_
              have h := Option.some.inj h
              subst h
              exact q_iretI mcap_0 rfl rfl
            · rw [if_neg c5] at h
              refine ⟨fun c4 => ?_, fun c4 => ?_⟩
              · rw [if_pos c4] at h
                refine mAt.blk bk_X3_levelOf_96 ck_X3_levelOf_96 ?_
                refine q_iconst ?_
                have h := Option.some.inj h
                subst h
                exact q_iretI mcap_0 rfl rfl
              · rw [if_neg c4] at h
                refine ⟨fun c3 => ?_, fun c3 => ?_⟩
                · rw [if_pos c3] at h
                  refine mAt.blk bk_X3_levelOf_96 ck_X3_levelOf_96 ?_
                  refine q_iconst ?_
                  have h := Option.some.inj h
                  subst h
                  exact q_iretI mcap_0 rfl rfl
                · rw [if_neg c3] at h
                  refine ⟨fun c2 => ?_, fun c2 => ?_⟩
                  · rw [if_pos c2] at h
                    refine mAt.blk bk_X3_levelOf_96 ck_X3_levelOf_96 ?_
                    refine q_iconst ?_
                    have h := Option.some.inj h
                    subst h
                    exact q_iretI mcap_0 rfl rfl
                  · rw [if_neg c2] at h
                    refine ⟨fun c1 => ?_, fun c1 => ?_⟩
                    · rw [if_pos c1] at h
                      refine mAt.blk bk_X3_levelOf_92 ck_X3_levelOf_92 ?_
                      refine q_iconst ?_
                      have h := Option.some.inj h
                      subst h
                      exact q_iretI mcap_0 rfl rfl
                    · rw [if_neg c1] at h
                      refine mAt.blk bk_X3_levelOf_102 ck_X3_levelOf_102 ?_
                      refine q_iconst ?_
                      have h := Option.some.inj h
                      subst h
                      exact q_iretI mcap_0 rfl rfl
def bk_X3_next_0 : List mI := [(.aload_n 0, 1, 0, 0, 0, []), (.getfield 26, 3, 3, 3, 280, []), (.ifCond .lt 47, 3, 51, 0, 0, []), (.aload_n 0, 1, 0, 0, 0, []), (.getfield 26, 3, 3, 3, 280, []), (.aload_n 0, 1, 0, 0, 0, []), (.getfield 18, 3, 3, 1, 278, []), (.getfield 36, 3, 4, 1, 142, []), (.if_icmp .ge 33, 3, 51, 0, 0, []), (.aload_n 0, 1, 0, 0, 0, []), (.getfield 26, 3, 3, 3, 280, []), (.aload_n 0, 1, 0, 0, 0, []), (.getfield 18, 3, 3, 1, 278, []), (.getfield 72, 3, 4, 0, 139, []), (.arraylength, 1, 0, 0, 0, []), (.if_icmp .ge 18, 3, 51, 0, 0, []), (.aload_n 0, 1, 0, 0, 0, []), (.getfield 18, 3, 3, 1, 278, []), (.getfield 72, 3, 4, 0, 139, []), (.aload_n 0, 1, 0, 0, 0, []), (.getfield 26, 3, 3, 3, 280, []), (.iaload, 1, 0, 0, 0, []), (.goto 4, 3, 52, 0, 0, [])]
theorem ck_X3_next_0 : mChk 20 0 bk_X3_next_0 = true := by decide +kernel
def bk_X3_next_51 : List mI := [(.iconst (-1), 1, 0, 0, 0, [((-1), 0)])]
theorem ck_X3_next_51 : mChk 20 51 bk_X3_next_51 = true := by decide +kernel
def bk_X3_next_52 : List mI := [(.ireturn, 1, 0, 0, 0, [])]
theorem ck_X3_next_52 : mChk 20 52 bk_X3_next_52 = true := by decide +kernel
def f_X3_next (σ : Sg) : Option (Int32) := (if (σ 70 3) < 0 then (some (-1 : Int32)) else (if (σ 12 1) ≤ (σ 70 3) then (some (-1 : Int32)) else (if (50 : Int32) ≤ (σ 70 3) then (some (-1 : Int32)) else (if (σ 70 3) < 0 ∨ 50 ≤ ((σ 70 3)).toNatClampNeg then none else (some (σ 13 ((σ 70 3)).toNatClampNeg))))))
set_option maxHeartbeats 4000000 in
theorem ok_X3_next {L : Nat} {σ : Sg} {R : Int32} (h : f_X3_next σ = some R) : mEv 0 20 [.ref 70] (mSh, L, σ) (some (.int R)) (mSh, L, σ) := by
  refine mEv.of (by decide) rfl rfl ?_
  unfold f_X3_next at h
  refine mAt.blk bk_X3_next_0 ck_X3_next_0 ?_
  refine q_aload_n rfl ?_
  refine q_getI ob_70 rfl ?_
  refine q_if_lt (fun c1 => ?_) (fun c1 => ?_)
  · rw [if_pos c1] at h
    refine mAt.blk bk_X3_next_51 ck_X3_next_51 ?_
    refine q_iconst ?_
    refine mAt.blk bk_X3_next_52 ck_X3_next_52 ?_
    have h := Option.some.inj h
    subst h
    exact q_iretI mcap_0 rfl rfl
  · rw [if_neg c1] at h
    refine q_aload_n rfl ?_
    refine q_getI ob_70 rfl ?_
    refine q_aload_n rfl ?_
    refine q_getR ob_70 rfl rfl ?_
    refine q_getI ob_12 rfl ?_
    refine q_ic_ge (fun c2 => ?_) (fun c2 => ?_)
    · rw [if_pos c2] at h
      refine mAt.blk bk_X3_next_51 ck_X3_next_51 ?_
      refine q_iconst ?_
      refine mAt.blk bk_X3_next_52 ck_X3_next_52 ?_
      have h := Option.some.inj h
      subst h
      exact q_iretI mcap_0 rfl rfl
    · rw [if_neg c2] at h
      refine q_aload_n rfl ?_
      refine q_getI ob_70 rfl ?_
      refine q_aload_n rfl ?_
      refine q_getR ob_70 rfl rfl ?_
      refine q_getR ob_12 rfl rfl ?_
      refine q_alen (v := (50 : Int32)) rfl ar_13 ?_
      refine q_ic_ge (fun c3 => ?_) (fun c3 => ?_)
      · rw [if_pos c3] at h
        refine mAt.blk bk_X3_next_51 ck_X3_next_51 ?_
        refine q_iconst ?_
        refine mAt.blk bk_X3_next_52 ck_X3_next_52 ?_
        have h := Option.some.inj h
        subst h
        exact q_iretI mcap_0 rfl rfl
      · rw [if_neg c3] at h
        refine q_aload_n rfl ?_
        refine q_getR ob_70 rfl rfl ?_
        refine q_getR ob_12 rfl rfl ?_
        refine q_aload_n rfl ?_
        refine q_getI ob_70 rfl ?_
        obtain ⟨c4, h⟩ := mnone h
        refine q_iald (mrd ar_13 _ _) rfl c4 ?_
        refine q_goto ?_
        refine mAt.blk bk_X3_next_52 ck_X3_next_52 ?_
        have h := Option.some.inj h
        subst h
        exact q_iretI mcap_0 rfl rfl
def bk_X3_isDigit_0 : List mI := [(.iload_n 0, 1, 0, 0, 0, []), (.bipush 48, 2, 0, 0, 0, [(48, 0)]), (.if_icmp .lt 13, 3, 16, 0, 0, []), (.iload_n 0, 1, 0, 0, 0, []), (.bipush 57, 2, 0, 0, 0, [(57, 0)]), (.if_icmp .gt 7, 3, 16, 0, 0, []), (.iconst 1, 1, 0, 0, 0, [(1, 0)]), (.goto 4, 3, 17, 0, 0, [])]
theorem ck_X3_isDigit_0 : mChk 21 0 bk_X3_isDigit_0 = true := by decide +kernel
def bk_X3_isDigit_16 : List mI := [(.iconst 0, 1, 0, 0, 0, [(0, 0)])]
theorem ck_X3_isDigit_16 : mChk 21 16 bk_X3_isDigit_16 = true := by decide +kernel
def bk_X3_isDigit_17 : List mI := [(.ireturn, 1, 0, 0, 0, [])]
theorem ck_X3_isDigit_17 : mChk 21 17 bk_X3_isDigit_17 = true := by decide +kernel
def f_X3_isDigit (p0 : Int32) (σ : Sg) : Option (Int32) := (if p0 < (48 : Int32) then (some (0 : Int32)) else (if (57 : Int32) < p0 then (some (0 : Int32)) else (some (1 : Int32))))
set_option maxHeartbeats 4000000 in
theorem ok_X3_isDigit {L : Nat} {p0 : Int32} {σ : Sg} {R : Int32} (h : f_X3_isDigit p0 σ = some R) : mEv 0 21 [.int p0] (mSh, L, σ) (some (.int R)) (mSh, L, σ) := by
  refine mEv.of (by decide) rfl rfl ?_
  unfold f_X3_isDigit at h
  refine mAt.blk bk_X3_isDigit_0 ck_X3_isDigit_0 ?_
  refine q_iload_n rfl ?_
  refine q_bipush ?_
  refine q_ic_lt (fun c1 => ?_) (fun c1 => ?_)
  · rw [if_pos c1] at h
    refine mAt.blk bk_X3_isDigit_16 ck_X3_isDigit_16 ?_
    refine q_iconst ?_
    refine mAt.blk bk_X3_isDigit_17 ck_X3_isDigit_17 ?_
    have h := Option.some.inj h
    subst h
    exact q_iretZ mcap_0 rfl (by decide) rfl
  · rw [if_neg c1] at h
    refine q_iload_n rfl ?_
    refine q_bipush ?_
    refine q_ic_gt (fun c2 => ?_) (fun c2 => ?_)
    · rw [if_pos c2] at h
      refine mAt.blk bk_X3_isDigit_16 ck_X3_isDigit_16 ?_
      refine q_iconst ?_
      refine mAt.blk bk_X3_isDigit_17 ck_X3_isDigit_17 ?_
      have h := Option.some.inj h
      subst h
      exact q_iretZ mcap_0 rfl (by decide) rfl
    · rw [if_neg c2] at h
      refine q_iconst ?_
      refine q_goto ?_
      refine mAt.blk bk_X3_isDigit_17 ck_X3_isDigit_17 ?_
      have h := Option.some.inj h
      subst h
      exact q_iretZ mcap_0 rfl (by decide) rfl
def bk_X3_nameOf_0 : List mI := [(.iload_n 1, 1, 0, 0, 0, []), (.tableswitch 100 107 119 #[69, 100, 73, 100, 100, 100, 100, 100, 86, 71, 100, 100, 67], 67, 101, 0, 0, [(107, 70), (108, 101), (109, 74), (110, 101), (111, 101), (112, 101), (113, 101), (114, 101), (115, 87), (116, 72), (117, 101), (118, 101), (119, 68)])]
theorem ck_X3_nameOf_0 : mChk 22 0 bk_X3_nameOf_0 = true := by decide +kernel
def bk_X3_nameOf_68 : List mI := [(.iconst 0, 1, 0, 0, 0, [(0, 0)]), (.ireturn, 1, 0, 0, 0, [])]
theorem ck_X3_nameOf_68 : mChk 22 68 bk_X3_nameOf_68 = true := by decide +kernel
def bk_X3_nameOf_70 : List mI := [(.iconst 1, 1, 0, 0, 0, [(1, 0)]), (.ireturn, 1, 0, 0, 0, [])]
theorem ck_X3_nameOf_70 : mChk 22 70 bk_X3_nameOf_70 = true := by decide +kernel
def bk_X3_nameOf_72 : List mI := [(.iconst 2, 1, 0, 0, 0, [(2, 0)]), (.ireturn, 1, 0, 0, 0, [])]
theorem ck_X3_nameOf_72 : mChk 22 72 bk_X3_nameOf_72 = true := by decide +kernel
def bk_X3_nameOf_74 : List mI := [(.aload_n 0, 1, 0, 0, 0, []), (.getfield 22, 3, 3, 2, 279, []), (.ifCond .ne 7, 3, 85, 0, 0, []), (.iconst 3, 1, 0, 0, 0, [(3, 0)]), (.goto 4, 3, 86, 0, 0, [])]
theorem ck_X3_nameOf_74 : mChk 22 74 bk_X3_nameOf_74 = true := by decide +kernel
def bk_X3_nameOf_85 : List mI := [(.iconst (-1), 1, 0, 0, 0, [((-1), 0)])]
theorem ck_X3_nameOf_85 : mChk 22 85 bk_X3_nameOf_85 = true := by decide +kernel
def bk_X3_nameOf_86 : List mI := [(.ireturn, 1, 0, 0, 0, [])]
theorem ck_X3_nameOf_86 : mChk 22 86 bk_X3_nameOf_86 = true := by decide +kernel
def bk_X3_nameOf_87 : List mI := [(.aload_n 0, 1, 0, 0, 0, []), (.getfield 22, 3, 3, 2, 279, []), (.iconst 1, 1, 0, 0, 0, [(1, 0)]), (.if_icmp .ne 7, 3, 99, 0, 0, []), (.iconst 3, 1, 0, 0, 0, [(3, 0)]), (.goto 4, 3, 100, 0, 0, [])]
theorem ck_X3_nameOf_87 : mChk 22 87 bk_X3_nameOf_87 = true := by decide +kernel
def bk_X3_nameOf_99 : List mI := [(.iconst (-1), 1, 0, 0, 0, [((-1), 0)])]
theorem ck_X3_nameOf_99 : mChk 22 99 bk_X3_nameOf_99 = true := by decide +kernel
def bk_X3_nameOf_100 : List mI := [(.ireturn, 1, 0, 0, 0, [])]
theorem ck_X3_nameOf_100 : mChk 22 100 bk_X3_nameOf_100 = true := by decide +kernel
def bk_X3_nameOf_101 : List mI := [(.iconst (-1), 1, 0, 0, 0, [((-1), 0)]), (.ireturn, 1, 0, 0, 0, [])]
theorem ck_X3_nameOf_101 : mChk 22 101 bk_X3_nameOf_101 = true := by decide +kernel
def f_X3_nameOf (p0 : Int32) (σ : Sg) : Option (Int32) := (if p0 = (107 : Int32) then (some (1 : Int32)) else (if p0 = (108 : Int32) then (some (-1 : Int32)) else (if p0 = (109 : Int32) then (if (σ 70 2) = 0 then (some (3 : Int32)) else (some (-1 : Int32))) else (if p0 = (110 : Int32) then (some (-1 : Int32)) else (if p0 = (111 : Int32) then (some (-1 : Int32)) else (if p0 = (112 : Int32) then (some (-1 : Int32)) else (if p0 = (113 : Int32) then (some (-1 : Int32)) else (if p0 = (114 : Int32) then (some (-1 : Int32)) else (if p0 = (115 : Int32) then (if (σ 70 2) = (1 : Int32) then (some (3 : Int32)) else (some (-1 : Int32))) else (if p0 = (116 : Int32) then (some (2 : Int32)) else (if p0 = (117 : Int32) then (some (-1 : Int32)) else (if p0 = (118 : Int32) then (some (-1 : Int32)) else (if p0 = (119 : Int32) then (some (0 : Int32)) else (some (-1 : Int32)))))))))))))))
set_option maxHeartbeats 4000000 in
theorem ok_X3_nameOf {L : Nat} {p0 : Int32} {σ : Sg} {R : Int32} (h : f_X3_nameOf p0 σ = some R) : mEv 0 22 [.ref 70, .int p0] (mSh, L, σ) (some (.int R)) (mSh, L, σ) := by
  refine mEv.of (by decide) rfl rfl ?_
  unfold f_X3_nameOf at h
  refine mAt.blk bk_X3_nameOf_0 ck_X3_nameOf_0 ?_
  refine q_iload_n rfl ?_
  refine q_tsw ?_
  refine ⟨fun c15 => ?_, fun c15 => ?_⟩
  · rw [if_pos c15] at h
    refine mAt.blk bk_X3_nameOf_70 ck_X3_nameOf_70 ?_
    refine q_iconst ?_
    have h := Option.some.inj h
    subst h
    exact q_iretI mcap_0 rfl rfl
  · rw [if_neg c15] at h
    refine ⟨fun c14 => ?_, fun c14 => ?_⟩
    · rw [if_pos c14] at h
      refine mAt.blk bk_X3_nameOf_101 ck_X3_nameOf_101 ?_
      refine q_iconst ?_
      have h := Option.some.inj h
      subst h
      exact q_iretI mcap_0 rfl rfl
    · rw [if_neg c14] at h
      refine ⟨fun c13 => ?_, fun c13 => ?_⟩
      · rw [if_pos c13] at h
        refine mAt.blk bk_X3_nameOf_74 ck_X3_nameOf_74 ?_
        refine q_aload_n rfl ?_
        refine q_getI ob_70 rfl ?_
        refine q_if_ne (fun c1 => ?_) (fun c1 => ?_)
        · rw [if_pos c1] at h
          refine q_iconst ?_
          refine q_goto ?_
          refine mAt.blk bk_X3_nameOf_86 ck_X3_nameOf_86 ?_
          have h := Option.some.inj h
          subst h
          exact q_iretI mcap_0 rfl rfl
        · rw [if_neg c1] at h
          refine mAt.blk bk_X3_nameOf_85 ck_X3_nameOf_85 ?_
          refine q_iconst ?_
          refine mAt.blk bk_X3_nameOf_86 ck_X3_nameOf_86 ?_
          have h := Option.some.inj h
          subst h
          exact q_iretI mcap_0 rfl rfl
      · rw [if_neg c13] at h
        refine ⟨fun c12 => ?_, fun c12 => ?_⟩
        · rw [if_pos c12] at h
          refine mAt.blk bk_X3_nameOf_101 ck_X3_nameOf_101 ?_
          refine q_iconst ?_
          have h := Option.some.inj h
          subst h
          exact q_iretI mcap_0 rfl rfl
        · rw [if_neg c12] at h
          refine ⟨fun c11 => ?_, fun c11 => ?_⟩
          · rw [if_pos c11] at h
            refine mAt.blk bk_X3_nameOf_101 ck_X3_nameOf_101 ?_
            refine q_iconst ?_
            have h := Option.some.inj h
            subst h
            exact q_iretI mcap_0 rfl rfl
          · rw [if_neg c11] at h
            refine ⟨fun c10 => ?_, fun c10 => ?_⟩
            · rw [if_pos c10] at h
              refine mAt.blk bk_X3_nameOf_101 ck_X3_nameOf_101 ?_
              refine q_iconst ?_
              have h := Option.some.inj h
              subst h
              exact q_iretI mcap_0 rfl rfl
            · rw [if_neg c10] at h
              refine ⟨fun c9 => ?_, fun c9 => ?_⟩
              · rw [if_pos c9] at h
                refine mAt.blk bk_X3_nameOf_101 ck_X3_nameOf_101 ?_
                refine q_iconst ?_
                have h := Option.some.inj h
                subst h
                exact q_iretI mcap_0 rfl rfl
              · rw [if_neg c9] at h
                refine ⟨fun c8 => ?_, fun c8 => ?_⟩
                · rw [if_pos c8] at h
                  refine mAt.blk bk_X3_nameOf_101 ck_X3_nameOf_101 ?_
                  refine q_iconst ?_
                  have h := Option.some.inj h
                  subst h
                  exact q_iretI mcap_0 rfl rfl
                · rw [if_neg c8] at h
                  refine ⟨fun c7 => ?_, fun c7 => ?_⟩
                  · rw [if_pos c7] at h
                    refine mAt.blk bk_X3_nameOf_87 ck_X3_nameOf_87 ?_
                    refine q_aload_n rfl ?_
                    refine q_getI ob_70 rfl ?_
                    refine q_iconst ?_
                    refine q_ic_ne (fun c2 => ?_) (fun c2 => ?_)
                    · rw [if_pos c2] at h
                      refine q_iconst ?_
                      refine q_goto ?_
                      refine mAt.blk bk_X3_nameOf_100 ck_X3_nameOf_100 ?_
                      have h := Option.some.inj h
                      subst h
                      exact q_iretI mcap_0 rfl rfl
                    · rw [if_neg c2] at h
                      refine mAt.blk bk_X3_nameOf_99 ck_X3_nameOf_99 ?_
                      refine q_iconst ?_
                      refine mAt.blk bk_X3_nameOf_100 ck_X3_nameOf_100 ?_
                      have h := Option.some.inj h
                      subst h
                      exact q_iretI mcap_0 rfl rfl
                  · rw [if_neg c7] at h
                    refine ⟨fun c6 => ?_, fun c6 => ?_⟩
                    · rw [if_pos c6] at h
                      refine mAt.blk bk_X3_nameOf_72 ck_X3_nameOf_72 ?_
                      refine q_iconst ?_
                      have h := Option.some.inj h
                      subst h
                      exact q_iretI mcap_0 rfl rfl
                    · rw [if_neg c6] at h
                      refine ⟨fun c5 => ?_, fun c5 => ?_⟩
                      · rw [if_pos c5] at h
                        refine mAt.blk bk_X3_nameOf_101 ck_X3_nameOf_101 ?_
                        refine q_iconst ?_
                        have h := Option.some.inj h
                        subst h
                        exact q_iretI mcap_0 rfl rfl
                      · rw [if_neg c5] at h
                        refine ⟨fun c4 => ?_, fun c4 => ?_⟩
                        · rw [if_pos c4] at h
                          refine mAt.blk bk_X3_nameOf_101 ck_X3_nameOf_101 ?_
                          refine q_iconst ?_
                          have h := Option.some.inj h
                          subst h
                          exact q_iretI mcap_0 rfl rfl
                        · rw [if_neg c4] at h
                          refine ⟨fun c3 => ?_, fun c3 => ?_⟩
                          · rw [if_pos c3] at h
                            refine mAt.blk bk_X3_nameOf_68 ck_X3_nameOf_68 ?_
                            refine q_iconst ?_
                            have h := Option.some.inj h
                            subst h
                            exact q_iretI mcap_0 rfl rfl
                          · rw [if_neg c3] at h
                            refine mAt.blk bk_X3_nameOf_101 ck_X3_nameOf_101 ?_
                            refine q_iconst ?_
                            have h := Option.some.inj h
                            subst h
                            exact q_iretI mcap_0 rfl rfl
def bk_X6_append_0 : List mI := [(.aload_n 0, 1, 0, 0, 0, []), (.getfield 9, 3, 6, 0, 117, []), (.aload_n 0, 1, 0, 0, 0, []), (.getfield 22, 3, 6, 2, 119, []), (.iload_n 1, 1, 0, 0, 0, []), (.invokestatic 26, 3, 131, 0, 542, []), (.aload_n 0, 1, 0, 0, 0, []), (.dup, 1, 0, 0, 0, []), (.getfield 22, 3, 6, 2, 119, []), (.iconst 1, 1, 0, 0, 0, [(1, 0)]), (.iadd, 1, 0, 0, 0, []), (.putfield 22, 3, 6, 2, 119, []), (.return_, 1, 0, 0, 0, [])]
theorem ck_X6_append_0 : mChk 33 0 bk_X6_append_0 = true := by decide +kernel
def f_X6_append (a : Nat) (p0 : Int32) (σ : Sg) : Option (Sg) := ((f_X11_lay (a + 1) 50 (σ a 2) p0 σ).bind fun q1 => (some (mup q1 a 2 ((q1 a 2) + (1 : Int32)))))
set_option maxHeartbeats 4000000 in
theorem ok_X6_append {L : Nat} {a : Nat} {p0 : Int32} {σ : Sg} {R : Sg} (ha : P6 a) (h : f_X6_append a p0 σ = some R) : mEv 1 33 [.ref a, .int p0] (mSh, L, σ) none (mSh, L, R) := by
  refine mEv.of (by decide) rfl rfl ?_
  unfold f_X6_append at h
  refine mAt.blk bk_X6_append_0 ck_X6_append_0 ?_
  refine q_aload_n rfl ?_
  refine q_getR (ha).1 rfl rfl ?_
  refine q_aload_n rfl ?_
  refine q_getI (ha).1 rfl ?_
  refine q_iload_n rfl ?_
  obtain ⟨q1, e1, h⟩ := mbind h
  refine q_sV3 mcap_0 rfl rfl rfl rfl (by decide) (ok_X11_lay (ha).2.1 e1) ?_
  refine q_aload_n rfl ?_
  refine q_dupR ?_
  refine q_getI (ha).1 rfl ?_
  refine q_iconst ?_
  refine q_iadd ?_
  refine q_putI (ha).1 rfl ?_
  have h := Option.some.inj h
  subst h
  exact q_vret mcap_0 rfl rfl
def bk_X3_readNumber_0 : List mI := [(.iconst 0, 1, 0, 0, 0, [(0, 0)]), (.istore_n 1, 1, 0, 0, 0, []), (.iconst 0, 1, 0, 0, 0, [(0, 0)]), (.istore_n 2, 1, 0, 0, 0, [])]
theorem ck_X3_readNumber_0 : mChk 19 0 bk_X3_readNumber_0 = true := by decide +kernel
def bk_X3_readNumber_4 : List mI := [(.iload_n 2, 1, 0, 0, 0, []), (.iconst 4, 1, 0, 0, 0, [(4, 0)]), (.if_icmp .ge 42, 3, 48, 0, 0, []), (.aload_n 0, 1, 0, 0, 0, []), (.invokevirtual 45, 3, 20, 0, 603, []), (.invokestatic 57, 3, 21, 0, 607, []), (.ifCond .eq 32, 3, 48, 0, 0, []), (.iload_n 1, 1, 0, 0, 0, []), (.bipush 10, 2, 0, 0, 0, [(10, 0)]), (.imul, 1, 0, 0, 0, []), (.aload_n 0, 1, 0, 0, 0, []), (.invokevirtual 45, 3, 20, 0, 603, []), (.iadd, 1, 0, 0, 0, []), (.bipush 48, 2, 0, 0, 0, [(48, 0)]), (.isub, 1, 0, 0, 0, []), (.istore_n 1, 1, 0, 0, 0, []), (.aload_n 0, 1, 0, 0, 0, []), (.dup, 1, 0, 0, 0, []), (.getfield 26, 3, 3, 3, 280, []), (.iconst 1, 1, 0, 0, 0, [(1, 0)]), (.iadd, 1, 0, 0, 0, []), (.putfield 26, 3, 3, 3, 280, []), (.iinc 2 1, 3, 0, 0, 0, [(1, 0)]), (.goto (-41), 3, 4, 0, 0, [])]
theorem ck_X3_readNumber_4 : mChk 19 4 bk_X3_readNumber_4 = true := by decide +kernel
def bk_X3_readNumber_48 : List mI := [(.aload_n 0, 1, 0, 0, 0, []), (.getfield 12, 3, 3, 0, 276, []), (.iload_n 1, 1, 0, 0, 0, []), (.invokevirtual 53, 3, 33, 0, 614, []), (.return_, 1, 0, 0, 0, [])]
theorem ck_X3_readNumber_48 : mChk 19 48 bk_X3_readNumber_48 = true := by decide +kernel
def c_X3_readNumber_4 : Nat → Int32 → Int32 → Sg → Option (Sg)
  | 0, _, _, _ => none
  | n + 1, x1, x2, σ => (if (4 : Int32) ≤ x2 then ((f_X6_append 71 x1 σ).bind fun q2 => (some q2)) else ((f_X3_next  σ).bind fun q3 => ((f_X3_isDigit q3 σ).bind fun q4 => (if q4 = 0 then ((f_X6_append 71 x1 σ).bind fun q6 => (some q6)) else ((f_X3_next  σ).bind fun q7 => (c_X3_readNumber_4  n (((x1 * (10 : Int32)) + q7) - (48 : Int32)) (x2 + (1 : Int32)) (mup σ 70 3 ((σ 70 3) + (1 : Int32)))))))))
set_option maxHeartbeats 4000000 in
theorem okc_X3_readNumber_4 {L : Nat} {R : Sg} {n : Nat} {x1 : Int32} {x2 : Int32} {σ : Sg} {pl : mLoc} (h : c_X3_readNumber_4 n x1 x2 σ = some R) (hl : mlf [some (.ref 70), some (.int x1), some (.int x2)] pl) : mAt 2 19 (none, (mSh, L, R)) 4 pl [] (mSh, L, σ) 0 0 := by
  induction n generalizing x1 x2 σ pl with
  | zero =>
    rw [c_X3_readNumber_4.eq_1] at h
    cases h
  | succ n ih =>
    refine mAt.less hl ?_
    rw [c_X3_readNumber_4.eq_2] at h
    refine mAt.blk bk_X3_readNumber_4 ck_X3_readNumber_4 ?_
    refine q_iload_n rfl ?_
    refine q_iconst ?_
    refine q_ic_ge (fun c1 => ?_) (fun c1 => ?_)
    · rw [if_pos c1] at h
      refine mAt.blk bk_X3_readNumber_48 ck_X3_readNumber_48 ?_
      refine q_aload_n rfl ?_
      refine q_getR ob_70 rfl rfl ?_
      refine q_iload_n rfl ?_
      obtain ⟨q2, e2, h⟩ := mbind h
      refine q_vV1 mcap_0 rfl rfl ob_71 rfl (by decide) (ok_X6_append p6_71 e2) ?_
      have h := Option.some.inj h
      subst h
      exact q_vret mcap_0 rfl rfl
    · rw [if_neg c1] at h
      refine q_aload_n rfl ?_
      obtain ⟨q3, e3, h⟩ := mbind h
      refine q_vI0 mcap_0 rfl rfl ob_70 rfl (by decide) (ok_X3_next  e3) ?_
      obtain ⟨q4, e4, h⟩ := mbind h
      refine q_sI1 mcap_0 rfl rfl rfl rfl (by decide) (ok_X3_isDigit  e4) ?_
      refine q_if_eq (fun c5 => ?_) (fun c5 => ?_)
      · rw [if_pos c5] at h
        refine mAt.blk bk_X3_readNumber_48 ck_X3_readNumber_48 ?_
        refine q_aload_n rfl ?_
        refine q_getR ob_70 rfl rfl ?_
        refine q_iload_n rfl ?_
        obtain ⟨q6, e6, h⟩ := mbind h
        refine q_vV1 mcap_0 rfl rfl ob_71 rfl (by decide) (ok_X6_append p6_71 e6) ?_
        have h := Option.some.inj h
        subst h
        exact q_vret mcap_0 rfl rfl
      · rw [if_neg c5] at h
        refine q_iload_n rfl ?_
        refine q_bipush ?_
        refine q_imul ?_
        refine q_aload_n rfl ?_
        obtain ⟨q7, e7, h⟩ := mbind h
        refine q_vI0 mcap_0 rfl rfl ob_70 rfl (by decide) (ok_X3_next  e7) ?_
        refine q_iadd ?_
        refine q_bipush ?_
        refine q_isub ?_
        refine q_istore_n rfl rfl ?_
        refine q_aload_n rfl ?_
        refine q_dupR ?_
        refine q_getI ob_70 rfl ?_
        refine q_iconst ?_
        refine q_iadd ?_
        refine q_putI ob_70 rfl ?_
        refine q_iinc rfl rfl ?_
        refine q_goto ?_
        exact ih  h ⟨rfl, rfl, rfl, trivial⟩
def f_X3_readNumber (σ : Sg) : Option (Sg) := (c_X3_readNumber_4   1000 (0 : Int32) (0 : Int32) σ)
set_option maxHeartbeats 4000000 in
theorem ok_X3_readNumber {L : Nat} {σ : Sg} {R : Sg} (h : f_X3_readNumber σ = some R) : mEv 2 19 [.ref 70] (mSh, L, σ) none (mSh, L, R) := by
  refine mEv.of (by decide) rfl rfl ?_
  unfold f_X3_readNumber at h
  refine mAt.blk bk_X3_readNumber_0 ck_X3_readNumber_0 ?_
  refine q_iconst ?_
  refine q_istore_n rfl rfl ?_
  refine q_iconst ?_
  refine q_istore_n rfl rfl ?_
  exact okc_X3_readNumber_4  h ⟨rfl, rfl, rfl, trivial⟩
def bk_X3_reads_0 : List mI := [(.iload_n 1, 1, 0, 0, 0, []), (.iconst 5, 1, 0, 0, 0, [(5, 0)]), (.if_icmp .lt 9, 3, 11, 0, 0, []), (.aload_n 0, 1, 0, 0, 0, []), (.iload_n 2, 1, 0, 0, 0, []), (.invokevirtual 41, 3, 16, 0, 599, []), (.ireturn, 1, 0, 0, 0, [])]
theorem ck_X3_reads_0 : mChk 15 0 bk_X3_reads_0 = true := by decide +kernel
def bk_X3_reads_11 : List mI := [(.aload_n 0, 1, 0, 0, 0, []), (.iload_n 1, 1, 0, 0, 0, []), (.iconst 1, 1, 0, 0, 0, [(1, 0)]), (.iadd, 1, 0, 0, 0, []), (.iload_n 2, 1, 0, 0, 0, []), (.invokevirtual 32, 3, 15, 0, 595, []), (.ifCond .ne 5, 3, 24, 0, 0, []), (.iconst 0, 1, 0, 0, 0, [(0, 0)]), (.ireturn, 1, 0, 0, 0, [])]
theorem ck_X3_reads_11 : mChk 15 11 bk_X3_reads_11 = true := by decide +kernel
def bk_X3_reads_24 : List mI := [(.iload_n 1, 1, 0, 0, 0, []), (.iconst 2, 1, 0, 0, 0, [(2, 0)]), (.if_icmp .ne 7, 3, 33, 0, 0, []), (.iconst 1, 1, 0, 0, 0, [(1, 0)]), (.goto 5, 3, 35, 0, 0, [])]
theorem ck_X3_reads_24 : mChk 15 24 bk_X3_reads_24 = true := by decide +kernel
def bk_X3_reads_33 : List mI := [(.bipush 50, 2, 0, 0, 0, [(50, 0)])]
theorem ck_X3_reads_33 : mChk 15 33 bk_X3_reads_33 = true := by decide +kernel
def bk_X3_reads_35 : List mI := [(.istore_n 3, 1, 0, 0, 0, []), (.iconst 0, 1, 0, 0, 0, [(0, 0)]), (.istore 4, 2, 0, 0, 0, [])]
theorem ck_X3_reads_35 : mChk 15 35 bk_X3_reads_35 = true := by decide +kernel
def bk_X3_reads_39 : List mI := [(.iload 4, 2, 0, 0, 0, []), (.iload_n 3, 1, 0, 0, 0, []), (.if_icmp .ge 59, 3, 101, 0, 0, []), (.aload_n 0, 1, 0, 0, 0, []), (.invokevirtual 45, 3, 20, 0, 603, []), (.invokestatic 49, 3, 23, 0, 630, []), (.iload_n 1, 1, 0, 0, 0, []), (.if_icmp .ne 48, 3, 101, 0, 0, []), (.aload_n 0, 1, 0, 0, 0, []), (.invokevirtual 45, 3, 20, 0, 603, []), (.istore 5, 2, 0, 0, 0, []), (.aload_n 0, 1, 0, 0, 0, []), (.dup, 1, 0, 0, 0, []), (.getfield 26, 3, 3, 3, 280, []), (.iconst 1, 1, 0, 0, 0, [(1, 0)]), (.iadd, 1, 0, 0, 0, []), (.putfield 26, 3, 3, 3, 280, []), (.aload_n 0, 1, 0, 0, 0, []), (.iload_n 1, 1, 0, 0, 0, []), (.iconst 1, 1, 0, 0, 0, [(1, 0)]), (.iadd, 1, 0, 0, 0, []), (.iload_n 2, 1, 0, 0, 0, []), (.invokevirtual 32, 3, 15, 0, 595, []), (.ifCond .ne 5, 3, 85, 0, 0, []), (.iconst 0, 1, 0, 0, 0, [(0, 0)]), (.ireturn, 1, 0, 0, 0, [])]
theorem ck_X3_reads_39 : mChk 15 39 bk_X3_reads_39 = true := by decide +kernel
def bk_X3_reads_85 : List mI := [(.aload_n 0, 1, 0, 0, 0, []), (.getfield 12, 3, 3, 0, 276, []), (.iload 5, 2, 0, 0, 0, []), (.ineg, 1, 0, 0, 0, []), (.invokevirtual 53, 3, 33, 0, 614, []), (.iinc 4 1, 3, 0, 0, 0, [(1, 0)]), (.goto (-59), 3, 39, 0, 0, [])]
theorem ck_X3_reads_85 : mChk 15 85 bk_X3_reads_85 = true := by decide +kernel
def bk_X3_reads_101 : List mI := [(.iconst 1, 1, 0, 0, 0, [(1, 0)]), (.ireturn, 1, 0, 0, 0, [])]
theorem ck_X3_reads_101 : mChk 15 101 bk_X3_reads_101 = true := by decide +kernel
def c_X3_reads_39 (g_X3_reads : Int32 → Int32 → Sg → Option (Int32 × Sg)) (g_X3_readsUnit : Int32 → Sg → Option (Int32 × Sg)) (g_X3_readsNot : Int32 → Sg → Option (Int32 × Sg)) (g_X3_readsInside : Int32 → Sg → Option (Int32 × Sg)) : Nat → Int32 → Int32 → Int32 → Int32 → Sg → Option (Int32 × Sg)
  | 0, _, _, _, _, _ => none
  | n + 1, x1, x2, x3, x4, σ => (if x3 ≤ x4 then (some ((1 : Int32), σ)) else ((f_X3_next  σ).bind fun q2 => ((f_X3_levelOf q2 σ).bind fun q3 => (if q3 = x1 then ((f_X3_next  σ).bind fun q5 => ((g_X3_reads (x1 + (1 : Int32)) x2 (mup σ 70 3 ((σ 70 3) + (1 : Int32)))).bind fun q6 => (if q6.1 = 0 then (some ((0 : Int32), q6.2)) else ((f_X6_append 71 (-q5) q6.2).bind fun q8 => (c_X3_reads_39 g_X3_reads g_X3_readsUnit g_X3_readsNot g_X3_readsInside n x1 x2 x3 (x4 + (1 : Int32)) q8))))) else (some ((1 : Int32), σ))))))
set_option maxHeartbeats 4000000 in
theorem okc_X3_reads_39 {L : Nat} {g_X3_reads : Int32 → Int32 → Sg → Option (Int32 × Sg)} {g_X3_readsUnit : Int32 → Sg → Option (Int32 × Sg)} {g_X3_readsNot : Int32 → Sg → Option (Int32 × Sg)} {g_X3_readsInside : Int32 → Sg → Option (Int32 × Sg)} {dd : Nat} {R : Int32 × Sg} (G_X3_reads : ∀ (p0 : Int32) (p1 : Int32) (σ : Sg) (R : Int32 × Sg), g_X3_reads p0 p1 σ = some R → mEv dd 15 [.ref 70, .int p0, .int p1] (mSh, L, σ) (some (.int R.1)) (mSh, L, R.2)) (G_X3_readsUnit : ∀ (p0 : Int32) (σ : Sg) (R : Int32 × Sg), g_X3_readsUnit p0 σ = some R → mEv dd 16 [.ref 70, .int p0] (mSh, L, σ) (some (.int R.1)) (mSh, L, R.2)) (G_X3_readsNot : ∀ (p0 : Int32) (σ : Sg) (R : Int32 × Sg), g_X3_readsNot p0 σ = some R → mEv dd 17 [.ref 70, .int p0] (mSh, L, σ) (some (.int R.1)) (mSh, L, R.2)) (G_X3_readsInside : ∀ (p0 : Int32) (σ : Sg) (R : Int32 × Sg), g_X3_readsInside p0 σ = some R → mEv dd 18 [.ref 70, .int p0] (mSh, L, σ) (some (.int R.1)) (mSh, L, R.2)) (hdd : 3 ≤ dd) {n : Nat} {x1 : Int32} {x2 : Int32} {x3 : Int32} {x4 : Int32} {σ : Sg} {pl : mLoc} (h : c_X3_reads_39 g_X3_reads g_X3_readsUnit g_X3_readsNot g_X3_readsInside n x1 x2 x3 x4 σ = some R) (hl : mlf [some (.ref 70), some (.int x1), some (.int x2), some (.int x3), some (.int x4), none] pl) : mAt (dd + 1) 15 (some (.int R.1), (mSh, L, R.2)) 39 pl [] (mSh, L, σ) 0 0 := by
  induction n generalizing x1 x2 x3 x4 σ pl with
  | zero =>
    rw [c_X3_reads_39.eq_1] at h
    cases h
  | succ n ih =>
    refine mAt.less hl ?_
    rw [c_X3_reads_39.eq_2] at h
    refine mAt.blk bk_X3_reads_39 ck_X3_reads_39 ?_
    refine q_iload rfl ?_
    refine q_iload_n rfl ?_
    refine q_ic_ge (fun c1 => ?_) (fun c1 => ?_)
    · rw [if_pos c1] at h
      refine mAt.blk bk_X3_reads_101 ck_X3_reads_101 ?_
      refine q_iconst ?_
      have h := Option.some.inj h
      subst h
      exact q_iretZ mcap_0 rfl (by decide) rfl
    · rw [if_neg c1] at h
      refine q_aload_n rfl ?_
      obtain ⟨q2, e2, h⟩ := mbind h
      refine q_vI0 mcap_0 rfl rfl ob_70 rfl (by omega) (ok_X3_next  e2) ?_
      obtain ⟨q3, e3, h⟩ := mbind h
      refine q_sI1 mcap_0 rfl rfl rfl rfl (by omega) (ok_X3_levelOf  e3) ?_
      refine q_iload_n rfl ?_
      refine q_ic_ne (fun c4 => ?_) (fun c4 => ?_)
      · rw [if_pos c4] at h
        refine q_aload_n rfl ?_
        obtain ⟨q5, e5, h⟩ := mbind h
        refine q_vI0 mcap_0 rfl rfl ob_70 rfl (by omega) (ok_X3_next  e5) ?_
        refine q_istore rfl rfl ?_
        refine q_aload_n rfl ?_
        refine q_dupR ?_
        refine q_getI ob_70 rfl ?_
        refine q_iconst ?_
        refine q_iadd ?_
        refine q_putI ob_70 rfl ?_
        refine q_aload_n rfl ?_
        refine q_iload_n rfl ?_
        refine q_iconst ?_
        refine q_iadd ?_
        refine q_iload_n rfl ?_
        obtain ⟨q6, e6, h⟩ := mbind h
        refine q_vI2 mcap_0 rfl rfl ob_70 rfl (by omega) (G_X3_reads _ _ _ _ e6) ?_
        refine q_if_ne (fun c7 => ?_) (fun c7 => ?_)
        · rw [if_pos c7] at h
          refine q_iconst ?_
          have h := Option.some.inj h
          subst h
          exact q_iretZ mcap_0 rfl (by decide) rfl
        · rw [if_neg c7] at h
          refine mAt.blk bk_X3_reads_85 ck_X3_reads_85 ?_
          refine q_aload_n rfl ?_
          refine q_getR ob_70 rfl rfl ?_
          refine q_iload rfl ?_
          refine q_ineg ?_
          obtain ⟨q8, e8, h⟩ := mbind h
          refine q_vV1 mcap_0 rfl rfl ob_71 rfl (by omega) (ok_X6_append p6_71 e8) ?_
          refine q_iinc rfl rfl ?_
          refine q_goto ?_
          exact ih  h ⟨rfl, rfl, rfl, rfl, rfl, trivial⟩
      · rw [if_neg c4] at h
        refine mAt.blk bk_X3_reads_101 ck_X3_reads_101 ?_
        refine q_iconst ?_
        have h := Option.some.inj h
        subst h
        exact q_iretZ mcap_0 rfl (by decide) rfl
def c_X3_reads_35 (g_X3_reads : Int32 → Int32 → Sg → Option (Int32 × Sg)) (g_X3_readsUnit : Int32 → Sg → Option (Int32 × Sg)) (g_X3_readsNot : Int32 → Sg → Option (Int32 × Sg)) (g_X3_readsInside : Int32 → Sg → Option (Int32 × Sg)) (x1 : Int32) (x2 : Int32) (s0 : Int32) (σ : Sg) : Option (Int32 × Sg) := (c_X3_reads_39  g_X3_reads g_X3_readsUnit g_X3_readsNot g_X3_readsInside 1000 x1 x2 s0 (0 : Int32) σ)
set_option maxHeartbeats 4000000 in
theorem okc_X3_reads_35 {L : Nat} {g_X3_reads : Int32 → Int32 → Sg → Option (Int32 × Sg)} {g_X3_readsUnit : Int32 → Sg → Option (Int32 × Sg)} {g_X3_readsNot : Int32 → Sg → Option (Int32 × Sg)} {g_X3_readsInside : Int32 → Sg → Option (Int32 × Sg)} {dd : Nat} {R : Int32 × Sg} (G_X3_reads : ∀ (p0 : Int32) (p1 : Int32) (σ : Sg) (R : Int32 × Sg), g_X3_reads p0 p1 σ = some R → mEv dd 15 [.ref 70, .int p0, .int p1] (mSh, L, σ) (some (.int R.1)) (mSh, L, R.2)) (G_X3_readsUnit : ∀ (p0 : Int32) (σ : Sg) (R : Int32 × Sg), g_X3_readsUnit p0 σ = some R → mEv dd 16 [.ref 70, .int p0] (mSh, L, σ) (some (.int R.1)) (mSh, L, R.2)) (G_X3_readsNot : ∀ (p0 : Int32) (σ : Sg) (R : Int32 × Sg), g_X3_readsNot p0 σ = some R → mEv dd 17 [.ref 70, .int p0] (mSh, L, σ) (some (.int R.1)) (mSh, L, R.2)) (G_X3_readsInside : ∀ (p0 : Int32) (σ : Sg) (R : Int32 × Sg), g_X3_readsInside p0 σ = some R → mEv dd 18 [.ref 70, .int p0] (mSh, L, σ) (some (.int R.1)) (mSh, L, R.2)) (hdd : 3 ≤ dd) {x1 : Int32} {x2 : Int32} {s0 : Int32} {σ : Sg} {pl : mLoc} (h : c_X3_reads_35 g_X3_reads g_X3_readsUnit g_X3_readsNot g_X3_readsInside x1 x2 s0 σ = some R) (hl : mlf [some (.ref 70), some (.int x1), some (.int x2), none, none, none] pl) : mAt (dd + 1) 15 (some (.int R.1), (mSh, L, R.2)) 35 pl [.int s0] (mSh, L, σ) 0 0 := by
  refine mAt.less hl ?_
  unfold c_X3_reads_35 at h
  refine mAt.blk bk_X3_reads_35 ck_X3_reads_35 ?_
  refine q_istore_n rfl rfl ?_
  refine q_iconst ?_
  refine q_istore rfl rfl ?_
  exact okc_X3_reads_39 G_X3_reads G_X3_readsUnit G_X3_readsNot G_X3_readsInside hdd h ⟨rfl, rfl, rfl, rfl, rfl, trivial⟩
def b_X3_reads (g_X3_reads : Int32 → Int32 → Sg → Option (Int32 × Sg)) (g_X3_readsUnit : Int32 → Sg → Option (Int32 × Sg)) (g_X3_readsNot : Int32 → Sg → Option (Int32 × Sg)) (g_X3_readsInside : Int32 → Sg → Option (Int32 × Sg)) (p0 : Int32) (p1 : Int32) (σ : Sg) : Option (Int32 × Sg) := (if p0 < (5 : Int32) then ((g_X3_reads (p0 + (1 : Int32)) p1 σ).bind fun q10 => (if q10.1 = 0 then (some ((0 : Int32), q10.2)) else (if p0 = (2 : Int32) then (c_X3_reads_35  g_X3_reads g_X3_readsUnit g_X3_readsNot g_X3_readsInside p0 p1 (1 : Int32) q10.2) else (c_X3_reads_35  g_X3_reads g_X3_readsUnit g_X3_readsNot g_X3_readsInside p0 p1 (50 : Int32) q10.2)))) else ((g_X3_readsUnit p1 σ).bind fun q13 => (if q13.1 = 0 ∨ q13.1 = 1 then some (q13.1, q13.2) else none)))
set_option maxHeartbeats 4000000 in
theorem okb_X3_reads {L : Nat} {g_X3_reads : Int32 → Int32 → Sg → Option (Int32 × Sg)} {g_X3_readsUnit : Int32 → Sg → Option (Int32 × Sg)} {g_X3_readsNot : Int32 → Sg → Option (Int32 × Sg)} {g_X3_readsInside : Int32 → Sg → Option (Int32 × Sg)} {dd : Nat} {p0 : Int32} {p1 : Int32} {σ : Sg} {R : Int32 × Sg} (G_X3_reads : ∀ (p0 : Int32) (p1 : Int32) (σ : Sg) (R : Int32 × Sg), g_X3_reads p0 p1 σ = some R → mEv dd 15 [.ref 70, .int p0, .int p1] (mSh, L, σ) (some (.int R.1)) (mSh, L, R.2)) (G_X3_readsUnit : ∀ (p0 : Int32) (σ : Sg) (R : Int32 × Sg), g_X3_readsUnit p0 σ = some R → mEv dd 16 [.ref 70, .int p0] (mSh, L, σ) (some (.int R.1)) (mSh, L, R.2)) (G_X3_readsNot : ∀ (p0 : Int32) (σ : Sg) (R : Int32 × Sg), g_X3_readsNot p0 σ = some R → mEv dd 17 [.ref 70, .int p0] (mSh, L, σ) (some (.int R.1)) (mSh, L, R.2)) (G_X3_readsInside : ∀ (p0 : Int32) (σ : Sg) (R : Int32 × Sg), g_X3_readsInside p0 σ = some R → mEv dd 18 [.ref 70, .int p0] (mSh, L, σ) (some (.int R.1)) (mSh, L, R.2)) (hdd : 3 ≤ dd) (h : b_X3_reads g_X3_reads g_X3_readsUnit g_X3_readsNot g_X3_readsInside p0 p1 σ = some R) : mEv (dd + 1) 15 [.ref 70, .int p0, .int p1] (mSh, L, σ) (some (.int R.1)) (mSh, L, R.2) := by
  refine mEv.of (by decide) rfl rfl ?_
  unfold b_X3_reads at h
  refine mAt.blk bk_X3_reads_0 ck_X3_reads_0 ?_
  refine q_iload_n rfl ?_
  refine q_iconst ?_
  refine q_ic_lt (fun c9 => ?_) (fun c9 => ?_)
  · rw [if_pos c9] at h
    refine mAt.blk bk_X3_reads_11 ck_X3_reads_11 ?_
    refine q_aload_n rfl ?_
    refine q_iload_n rfl ?_
    refine q_iconst ?_
    refine q_iadd ?_
    refine q_iload_n rfl ?_
    obtain ⟨q10, e10, h⟩ := mbind h
    refine q_vI2 mcap_0 rfl rfl ob_70 rfl (by omega) (G_X3_reads _ _ _ _ e10) ?_
    refine q_if_ne (fun c11 => ?_) (fun c11 => ?_)
    · rw [if_pos c11] at h
      refine q_iconst ?_
      have h := Option.some.inj h
      subst h
      exact q_iretZ mcap_0 rfl (by decide) rfl
    · rw [if_neg c11] at h
      refine mAt.blk bk_X3_reads_24 ck_X3_reads_24 ?_
      refine q_iload_n rfl ?_
      refine q_iconst ?_
      refine q_ic_ne (fun c12 => ?_) (fun c12 => ?_)
      · rw [if_pos c12] at h
        refine q_iconst ?_
        refine q_goto ?_
        exact okc_X3_reads_35 G_X3_reads G_X3_readsUnit G_X3_readsNot G_X3_readsInside hdd h ⟨rfl, rfl, rfl, trivial⟩
      · rw [if_neg c12] at h
        refine mAt.blk bk_X3_reads_33 ck_X3_reads_33 ?_
        refine q_bipush ?_
        exact okc_X3_reads_35 G_X3_reads G_X3_readsUnit G_X3_readsNot G_X3_readsInside hdd h ⟨rfl, rfl, rfl, trivial⟩
  · rw [if_neg c9] at h
    refine q_aload_n rfl ?_
    refine q_iload_n rfl ?_
    obtain ⟨q13, e13, h⟩ := mbind h
    refine q_vI1 mcap_0 rfl rfl ob_70 rfl (by omega) (G_X3_readsUnit _ _ _ e13) ?_
    obtain ⟨c14, h⟩ := msome h
    have h := Option.some.inj h
    subst h
    exact q_iretZ mcap_0 rfl c14 rfl
def bk_X3_readsUnit_0 : List mI := [(.aload_n 0, 1, 0, 0, 0, []), (.invokevirtual 45, 3, 20, 0, 603, []), (.istore_n 2, 1, 0, 0, 0, []), (.iload_n 2, 1, 0, 0, 0, []), (.invokestatic 57, 3, 21, 0, 607, []), (.ifCond .eq 9, 3, 18, 0, 0, []), (.aload_n 0, 1, 0, 0, 0, []), (.invokevirtual 60, 3, 19, 0, 610, []), (.iconst 1, 1, 0, 0, 0, [(1, 0)]), (.ireturn, 1, 0, 0, 0, [])]
theorem ck_X3_readsUnit_0 : mChk 16 0 bk_X3_readsUnit_0 = true := by decide +kernel
def bk_X3_readsUnit_18 : List mI := [(.aload_n 0, 1, 0, 0, 0, []), (.iload_n 2, 1, 0, 0, 0, []), (.invokevirtual 63, 3, 22, 0, 618, []), (.istore_n 3, 1, 0, 0, 0, []), (.iload_n 3, 1, 0, 0, 0, []), (.ifCond .lt 25, 3, 50, 0, 0, []), (.aload_n 0, 1, 0, 0, 0, []), (.dup, 1, 0, 0, 0, []), (.getfield 26, 3, 3, 3, 280, []), (.iconst 1, 1, 0, 0, 0, [(1, 0)]), (.iadd, 1, 0, 0, 0, []), (.putfield 26, 3, 3, 3, 280, []), (.aload_n 0, 1, 0, 0, 0, []), (.getfield 12, 3, 3, 0, 276, []), (.iconst (-1), 1, 0, 0, 0, [((-1), 0)]), (.iload_n 3, 1, 0, 0, 0, []), (.isub, 1, 0, 0, 0, []), (.invokevirtual 53, 3, 33, 0, 614, []), (.iconst 1, 1, 0, 0, 0, [(1, 0)]), (.ireturn, 1, 0, 0, 0, [])]
theorem ck_X3_readsUnit_18 : mChk 16 18 bk_X3_readsUnit_18 = true := by decide +kernel
def bk_X3_readsUnit_50 : List mI := [(.iload_n 2, 1, 0, 0, 0, []), (.bipush 33, 2, 0, 0, 0, [(33, 0)]), (.if_icmp .eq 9, 3, 62, 0, 0, []), (.iload_n 2, 1, 0, 0, 0, []), (.bipush 40, 2, 0, 0, 0, [(40, 0)]), (.if_icmp .ne 8, 3, 67, 0, 0, [])]
theorem ck_X3_readsUnit_50 : mChk 16 50 bk_X3_readsUnit_50 = true := by decide +kernel
def bk_X3_readsUnit_62 : List mI := [(.iload_n 1, 1, 0, 0, 0, []), (.iconst 5, 1, 0, 0, 0, [(5, 0)]), (.if_icmp .lt 5, 3, 69, 0, 0, [])]
theorem ck_X3_readsUnit_62 : mChk 16 62 bk_X3_readsUnit_62 = true := by decide +kernel
def bk_X3_readsUnit_67 : List mI := [(.iconst 0, 1, 0, 0, 0, [(0, 0)]), (.ireturn, 1, 0, 0, 0, [])]
theorem ck_X3_readsUnit_67 : mChk 16 67 bk_X3_readsUnit_67 = true := by decide +kernel
def bk_X3_readsUnit_69 : List mI := [(.aload_n 0, 1, 0, 0, 0, []), (.dup, 1, 0, 0, 0, []), (.getfield 26, 3, 3, 3, 280, []), (.iconst 1, 1, 0, 0, 0, [(1, 0)]), (.iadd, 1, 0, 0, 0, []), (.putfield 26, 3, 3, 3, 280, []), (.iload_n 2, 1, 0, 0, 0, []), (.bipush 33, 2, 0, 0, 0, [(33, 0)]), (.if_icmp .ne 13, 3, 95, 0, 0, []), (.aload_n 0, 1, 0, 0, 0, []), (.iload_n 1, 1, 0, 0, 0, []), (.iconst 1, 1, 0, 0, 0, [(1, 0)]), (.iadd, 1, 0, 0, 0, []), (.invokevirtual 66, 3, 17, 0, 622, []), (.goto 10, 3, 102, 0, 0, [])]
theorem ck_X3_readsUnit_69 : mChk 16 69 bk_X3_readsUnit_69 = true := by decide +kernel
def bk_X3_readsUnit_95 : List mI := [(.aload_n 0, 1, 0, 0, 0, []), (.iload_n 1, 1, 0, 0, 0, []), (.iconst 1, 1, 0, 0, 0, [(1, 0)]), (.iadd, 1, 0, 0, 0, []), (.invokevirtual 69, 3, 18, 0, 626, [])]
theorem ck_X3_readsUnit_95 : mChk 16 95 bk_X3_readsUnit_95 = true := by decide +kernel
def bk_X3_readsUnit_102 : List mI := [(.ireturn, 1, 0, 0, 0, [])]
theorem ck_X3_readsUnit_102 : mChk 16 102 bk_X3_readsUnit_102 = true := by decide +kernel
def c_X3_readsUnit_62 (g_X3_reads : Int32 → Int32 → Sg → Option (Int32 × Sg)) (g_X3_readsUnit : Int32 → Sg → Option (Int32 × Sg)) (g_X3_readsNot : Int32 → Sg → Option (Int32 × Sg)) (g_X3_readsInside : Int32 → Sg → Option (Int32 × Sg)) (x1 : Int32) (x2 : Int32) (σ : Sg) : Option (Int32 × Sg) := (if x1 < (5 : Int32) then (if x2 = (33 : Int32) then ((g_X3_readsNot (x1 + (1 : Int32)) (mup σ 70 3 ((σ 70 3) + (1 : Int32)))).bind fun q5 => (if q5.1 = 0 ∨ q5.1 = 1 then some (q5.1, q5.2) else none)) else ((g_X3_readsInside (x1 + (1 : Int32)) (mup σ 70 3 ((σ 70 3) + (1 : Int32)))).bind fun q3 => (if q3.1 = 0 ∨ q3.1 = 1 then some (q3.1, q3.2) else none))) else (some ((0 : Int32), σ)))
set_option maxHeartbeats 4000000 in
theorem okc_X3_readsUnit_62 {L : Nat} {g_X3_reads : Int32 → Int32 → Sg → Option (Int32 × Sg)} {g_X3_readsUnit : Int32 → Sg → Option (Int32 × Sg)} {g_X3_readsNot : Int32 → Sg → Option (Int32 × Sg)} {g_X3_readsInside : Int32 → Sg → Option (Int32 × Sg)} {dd : Nat} {R : Int32 × Sg} (G_X3_reads : ∀ (p0 : Int32) (p1 : Int32) (σ : Sg) (R : Int32 × Sg), g_X3_reads p0 p1 σ = some R → mEv dd 15 [.ref 70, .int p0, .int p1] (mSh, L, σ) (some (.int R.1)) (mSh, L, R.2)) (G_X3_readsUnit : ∀ (p0 : Int32) (σ : Sg) (R : Int32 × Sg), g_X3_readsUnit p0 σ = some R → mEv dd 16 [.ref 70, .int p0] (mSh, L, σ) (some (.int R.1)) (mSh, L, R.2)) (G_X3_readsNot : ∀ (p0 : Int32) (σ : Sg) (R : Int32 × Sg), g_X3_readsNot p0 σ = some R → mEv dd 17 [.ref 70, .int p0] (mSh, L, σ) (some (.int R.1)) (mSh, L, R.2)) (G_X3_readsInside : ∀ (p0 : Int32) (σ : Sg) (R : Int32 × Sg), g_X3_readsInside p0 σ = some R → mEv dd 18 [.ref 70, .int p0] (mSh, L, σ) (some (.int R.1)) (mSh, L, R.2)) (hdd : 3 ≤ dd) {x1 : Int32} {x2 : Int32} {σ : Sg} {pl : mLoc} (h : c_X3_readsUnit_62 g_X3_reads g_X3_readsUnit g_X3_readsNot g_X3_readsInside x1 x2 σ = some R) (hl : mlf [some (.ref 70), some (.int x1), some (.int x2), none] pl) : mAt (dd + 1) 16 (some (.int R.1), (mSh, L, R.2)) 62 pl [] (mSh, L, σ) 0 0 := by
  refine mAt.less hl ?_
  unfold c_X3_readsUnit_62 at h
  refine mAt.blk bk_X3_readsUnit_62 ck_X3_readsUnit_62 ?_
  refine q_iload_n rfl ?_
  refine q_iconst ?_
  refine q_ic_lt (fun c1 => ?_) (fun c1 => ?_)
  · rw [if_pos c1] at h
    refine mAt.blk bk_X3_readsUnit_69 ck_X3_readsUnit_69 ?_
    refine q_aload_n rfl ?_
    refine q_dupR ?_
    refine q_getI ob_70 rfl ?_
    refine q_iconst ?_
    refine q_iadd ?_
    refine q_putI ob_70 rfl ?_
    refine q_iload_n rfl ?_
    refine q_bipush ?_
    refine q_ic_ne (fun c2 => ?_) (fun c2 => ?_)
    · rw [if_pos c2] at h
      refine q_aload_n rfl ?_
      refine q_iload_n rfl ?_
      refine q_iconst ?_
      refine q_iadd ?_
      obtain ⟨q5, e5, h⟩ := mbind h
      refine q_vI1 mcap_0 rfl rfl ob_70 rfl (by omega) (G_X3_readsNot _ _ _ e5) ?_
      refine q_goto ?_
      refine mAt.blk bk_X3_readsUnit_102 ck_X3_readsUnit_102 ?_
      obtain ⟨c6, h⟩ := msome h
      have h := Option.some.inj h
      subst h
      exact q_iretZ mcap_0 rfl c6 rfl
    · rw [if_neg c2] at h
      refine mAt.blk bk_X3_readsUnit_95 ck_X3_readsUnit_95 ?_
      refine q_aload_n rfl ?_
      refine q_iload_n rfl ?_
      refine q_iconst ?_
      refine q_iadd ?_
      obtain ⟨q3, e3, h⟩ := mbind h
      refine q_vI1 mcap_0 rfl rfl ob_70 rfl (by omega) (G_X3_readsInside _ _ _ e3) ?_
      refine mAt.blk bk_X3_readsUnit_102 ck_X3_readsUnit_102 ?_
      obtain ⟨c4, h⟩ := msome h
      have h := Option.some.inj h
      subst h
      exact q_iretZ mcap_0 rfl c4 rfl
  · rw [if_neg c1] at h
    refine mAt.blk bk_X3_readsUnit_67 ck_X3_readsUnit_67 ?_
    refine q_iconst ?_
    have h := Option.some.inj h
    subst h
    exact q_iretZ mcap_0 rfl (by decide) rfl
def b_X3_readsUnit (g_X3_reads : Int32 → Int32 → Sg → Option (Int32 × Sg)) (g_X3_readsUnit : Int32 → Sg → Option (Int32 × Sg)) (g_X3_readsNot : Int32 → Sg → Option (Int32 × Sg)) (g_X3_readsInside : Int32 → Sg → Option (Int32 × Sg)) (p0 : Int32) (σ : Sg) : Option (Int32 × Sg) := ((f_X3_next  σ).bind fun q7 => ((f_X3_isDigit q7 σ).bind fun q8 => (if q8 = 0 then ((f_X3_nameOf q7 σ).bind fun q10 => (if q10 < 0 then (if q7 = (33 : Int32) then (c_X3_readsUnit_62  g_X3_reads g_X3_readsUnit g_X3_readsNot g_X3_readsInside p0 q7 σ) else (if q7 = (40 : Int32) then (c_X3_readsUnit_62  g_X3_reads g_X3_readsUnit g_X3_readsNot g_X3_readsInside p0 q7 σ) else (some ((0 : Int32), σ)))) else ((f_X6_append 71 ((-1 : Int32) - q10) (mup σ 70 3 ((σ 70 3) + (1 : Int32)))).bind fun q14 => (some ((1 : Int32), q14))))) else ((f_X3_readNumber  σ).bind fun q15 => (some ((1 : Int32), q15))))))
set_option maxHeartbeats 4000000 in
theorem okb_X3_readsUnit {L : Nat} {g_X3_reads : Int32 → Int32 → Sg → Option (Int32 × Sg)} {g_X3_readsUnit : Int32 → Sg → Option (Int32 × Sg)} {g_X3_readsNot : Int32 → Sg → Option (Int32 × Sg)} {g_X3_readsInside : Int32 → Sg → Option (Int32 × Sg)} {dd : Nat} {p0 : Int32} {σ : Sg} {R : Int32 × Sg} (G_X3_reads : ∀ (p0 : Int32) (p1 : Int32) (σ : Sg) (R : Int32 × Sg), g_X3_reads p0 p1 σ = some R → mEv dd 15 [.ref 70, .int p0, .int p1] (mSh, L, σ) (some (.int R.1)) (mSh, L, R.2)) (G_X3_readsUnit : ∀ (p0 : Int32) (σ : Sg) (R : Int32 × Sg), g_X3_readsUnit p0 σ = some R → mEv dd 16 [.ref 70, .int p0] (mSh, L, σ) (some (.int R.1)) (mSh, L, R.2)) (G_X3_readsNot : ∀ (p0 : Int32) (σ : Sg) (R : Int32 × Sg), g_X3_readsNot p0 σ = some R → mEv dd 17 [.ref 70, .int p0] (mSh, L, σ) (some (.int R.1)) (mSh, L, R.2)) (G_X3_readsInside : ∀ (p0 : Int32) (σ : Sg) (R : Int32 × Sg), g_X3_readsInside p0 σ = some R → mEv dd 18 [.ref 70, .int p0] (mSh, L, σ) (some (.int R.1)) (mSh, L, R.2)) (hdd : 3 ≤ dd) (h : b_X3_readsUnit g_X3_reads g_X3_readsUnit g_X3_readsNot g_X3_readsInside p0 σ = some R) : mEv (dd + 1) 16 [.ref 70, .int p0] (mSh, L, σ) (some (.int R.1)) (mSh, L, R.2) := by
  refine mEv.of (by decide) rfl rfl ?_
  unfold b_X3_readsUnit at h
  refine mAt.blk bk_X3_readsUnit_0 ck_X3_readsUnit_0 ?_
  refine q_aload_n rfl ?_
  obtain ⟨q7, e7, h⟩ := mbind h
  refine q_vI0 mcap_0 rfl rfl ob_70 rfl (by omega) (ok_X3_next  e7) ?_
  refine q_istore_n rfl rfl ?_
  refine q_iload_n rfl ?_
  obtain ⟨q8, e8, h⟩ := mbind h
  refine q_sI1 mcap_0 rfl rfl rfl rfl (by omega) (ok_X3_isDigit  e8) ?_
  refine q_if_eq (fun c9 => ?_) (fun c9 => ?_)
  · rw [if_pos c9] at h
    refine mAt.blk bk_X3_readsUnit_18 ck_X3_readsUnit_18 ?_
    refine q_aload_n rfl ?_
    refine q_iload_n rfl ?_
    obtain ⟨q10, e10, h⟩ := mbind h
    refine q_vI1 mcap_0 rfl rfl ob_70 rfl (by omega) (ok_X3_nameOf  e10) ?_
    refine q_istore_n rfl rfl ?_
    refine q_iload_n rfl ?_
    refine q_if_lt (fun c11 => ?_) (fun c11 => ?_)
    · rw [if_pos c11] at h
      refine mAt.blk bk_X3_readsUnit_50 ck_X3_readsUnit_50 ?_
      refine q_iload_n rfl ?_
      refine q_bipush ?_
      refine q_ic_eq (fun c12 => ?_) (fun c12 => ?_)
      · rw [if_pos c12] at h
        exact okc_X3_readsUnit_62 G_X3_reads G_X3_readsUnit G_X3_readsNot G_X3_readsInside hdd h ⟨rfl, rfl, rfl, trivial⟩
      · rw [if_neg c12] at h
        refine q_iload_n rfl ?_
        refine q_bipush ?_
        refine q_ic_ne (fun c13 => ?_) (fun c13 => ?_)
        · rw [if_pos c13] at h
          exact okc_X3_readsUnit_62 G_X3_reads G_X3_readsUnit G_X3_readsNot G_X3_readsInside hdd h ⟨rfl, rfl, rfl, trivial⟩
        · rw [if_neg c13] at h
          refine mAt.blk bk_X3_readsUnit_67 ck_X3_readsUnit_67 ?_
          refine q_iconst ?_
          have h := Option.some.inj h
          subst h
          exact q_iretZ mcap_0 rfl (by decide) rfl
    · rw [if_neg c11] at h
      refine q_aload_n rfl ?_
      refine q_dupR ?_
      refine q_getI ob_70 rfl ?_
      refine q_iconst ?_
      refine q_iadd ?_
      refine q_putI ob_70 rfl ?_
      refine q_aload_n rfl ?_
      refine q_getR ob_70 rfl rfl ?_
      refine q_iconst ?_
      refine q_iload_n rfl ?_
      refine q_isub ?_
      obtain ⟨q14, e14, h⟩ := mbind h
      refine q_vV1 mcap_0 rfl rfl ob_71 rfl (by omega) (ok_X6_append p6_71 e14) ?_
      refine q_iconst ?_
      have h := Option.some.inj h
      subst h
      exact q_iretZ mcap_0 rfl (by decide) rfl
  · rw [if_neg c9] at h
    refine q_aload_n rfl ?_
    obtain ⟨q15, e15, h⟩ := mbind h
    refine q_vV0 mcap_0 rfl rfl ob_70 rfl (by omega) (ok_X3_readNumber  e15) ?_
    refine q_iconst ?_
    have h := Option.some.inj h
    subst h
    exact q_iretZ mcap_0 rfl (by decide) rfl
def bk_X3_readsNot_0 : List mI := [(.aload_n 0, 1, 0, 0, 0, []), (.iload_n 1, 1, 0, 0, 0, []), (.invokevirtual 41, 3, 16, 0, 599, []), (.ifCond .ne 5, 3, 10, 0, 0, []), (.iconst 0, 1, 0, 0, 0, [(0, 0)]), (.ireturn, 1, 0, 0, 0, [])]
theorem ck_X3_readsNot_0 : mChk 17 0 bk_X3_readsNot_0 = true := by decide +kernel
def bk_X3_readsNot_10 : List mI := [(.aload_n 0, 1, 0, 0, 0, []), (.getfield 12, 3, 3, 0, 276, []), (.bipush (-33), 2, 0, 0, 0, [((-33), 0)]), (.invokevirtual 53, 3, 33, 0, 614, []), (.iconst 1, 1, 0, 0, 0, [(1, 0)]), (.ireturn, 1, 0, 0, 0, [])]
theorem ck_X3_readsNot_10 : mChk 17 10 bk_X3_readsNot_10 = true := by decide +kernel
def b_X3_readsNot (g_X3_reads : Int32 → Int32 → Sg → Option (Int32 × Sg)) (g_X3_readsUnit : Int32 → Sg → Option (Int32 × Sg)) (g_X3_readsNot : Int32 → Sg → Option (Int32 × Sg)) (g_X3_readsInside : Int32 → Sg → Option (Int32 × Sg)) (p0 : Int32) (σ : Sg) : Option (Int32 × Sg) := ((g_X3_readsUnit p0 σ).bind fun q1 => (if q1.1 = 0 then (some ((0 : Int32), q1.2)) else ((f_X6_append 71 (-33 : Int32) q1.2).bind fun q3 => (some ((1 : Int32), q3)))))
set_option maxHeartbeats 4000000 in
theorem okb_X3_readsNot {L : Nat} {g_X3_reads : Int32 → Int32 → Sg → Option (Int32 × Sg)} {g_X3_readsUnit : Int32 → Sg → Option (Int32 × Sg)} {g_X3_readsNot : Int32 → Sg → Option (Int32 × Sg)} {g_X3_readsInside : Int32 → Sg → Option (Int32 × Sg)} {dd : Nat} {p0 : Int32} {σ : Sg} {R : Int32 × Sg} (G_X3_reads : ∀ (p0 : Int32) (p1 : Int32) (σ : Sg) (R : Int32 × Sg), g_X3_reads p0 p1 σ = some R → mEv dd 15 [.ref 70, .int p0, .int p1] (mSh, L, σ) (some (.int R.1)) (mSh, L, R.2)) (G_X3_readsUnit : ∀ (p0 : Int32) (σ : Sg) (R : Int32 × Sg), g_X3_readsUnit p0 σ = some R → mEv dd 16 [.ref 70, .int p0] (mSh, L, σ) (some (.int R.1)) (mSh, L, R.2)) (G_X3_readsNot : ∀ (p0 : Int32) (σ : Sg) (R : Int32 × Sg), g_X3_readsNot p0 σ = some R → mEv dd 17 [.ref 70, .int p0] (mSh, L, σ) (some (.int R.1)) (mSh, L, R.2)) (G_X3_readsInside : ∀ (p0 : Int32) (σ : Sg) (R : Int32 × Sg), g_X3_readsInside p0 σ = some R → mEv dd 18 [.ref 70, .int p0] (mSh, L, σ) (some (.int R.1)) (mSh, L, R.2)) (hdd : 3 ≤ dd) (h : b_X3_readsNot g_X3_reads g_X3_readsUnit g_X3_readsNot g_X3_readsInside p0 σ = some R) : mEv (dd + 1) 17 [.ref 70, .int p0] (mSh, L, σ) (some (.int R.1)) (mSh, L, R.2) := by
  refine mEv.of (by decide) rfl rfl ?_
  unfold b_X3_readsNot at h
  refine mAt.blk bk_X3_readsNot_0 ck_X3_readsNot_0 ?_
  refine q_aload_n rfl ?_
  refine q_iload_n rfl ?_
  obtain ⟨q1, e1, h⟩ := mbind h
  refine q_vI1 mcap_0 rfl rfl ob_70 rfl (by omega) (G_X3_readsUnit _ _ _ e1) ?_
  refine q_if_ne (fun c2 => ?_) (fun c2 => ?_)
  · rw [if_pos c2] at h
    refine q_iconst ?_
    have h := Option.some.inj h
    subst h
    exact q_iretZ mcap_0 rfl (by decide) rfl
  · rw [if_neg c2] at h
    refine mAt.blk bk_X3_readsNot_10 ck_X3_readsNot_10 ?_
    refine q_aload_n rfl ?_
    refine q_getR ob_70 rfl rfl ?_
    refine q_bipush ?_
    obtain ⟨q3, e3, h⟩ := mbind h
    refine q_vV1 mcap_0 rfl rfl ob_71 rfl (by omega) (ok_X6_append p6_71 e3) ?_
    refine q_iconst ?_
    have h := Option.some.inj h
    subst h
    exact q_iretZ mcap_0 rfl (by decide) rfl
def bk_X3_readsInside_0 : List mI := [(.aload_n 0, 1, 0, 0, 0, []), (.iconst 0, 1, 0, 0, 0, [(0, 0)]), (.iload_n 1, 1, 0, 0, 0, []), (.invokevirtual 32, 3, 15, 0, 595, []), (.ifCond .eq 12, 3, 18, 0, 0, []), (.aload_n 0, 1, 0, 0, 0, []), (.invokevirtual 45, 3, 20, 0, 603, []), (.bipush 41, 2, 0, 0, 0, [(41, 0)]), (.if_icmp .eq 5, 3, 20, 0, 0, [])]
theorem ck_X3_readsInside_0 : mChk 18 0 bk_X3_readsInside_0 = true := by decide +kernel
def bk_X3_readsInside_18 : List mI := [(.iconst 0, 1, 0, 0, 0, [(0, 0)]), (.ireturn, 1, 0, 0, 0, [])]
theorem ck_X3_readsInside_18 : mChk 18 18 bk_X3_readsInside_18 = true := by decide +kernel
def bk_X3_readsInside_20 : List mI := [(.aload_n 0, 1, 0, 0, 0, []), (.dup, 1, 0, 0, 0, []), (.getfield 26, 3, 3, 3, 280, []), (.iconst 1, 1, 0, 0, 0, [(1, 0)]), (.iadd, 1, 0, 0, 0, []), (.putfield 26, 3, 3, 3, 280, []), (.iconst 1, 1, 0, 0, 0, [(1, 0)]), (.ireturn, 1, 0, 0, 0, [])]
theorem ck_X3_readsInside_20 : mChk 18 20 bk_X3_readsInside_20 = true := by decide +kernel
def b_X3_readsInside (g_X3_reads : Int32 → Int32 → Sg → Option (Int32 × Sg)) (g_X3_readsUnit : Int32 → Sg → Option (Int32 × Sg)) (g_X3_readsNot : Int32 → Sg → Option (Int32 × Sg)) (g_X3_readsInside : Int32 → Sg → Option (Int32 × Sg)) (p0 : Int32) (σ : Sg) : Option (Int32 × Sg) := ((g_X3_reads (0 : Int32) p0 σ).bind fun q1 => (if q1.1 = 0 then (some ((0 : Int32), q1.2)) else ((f_X3_next  q1.2).bind fun q3 => (if q3 = (41 : Int32) then (some ((1 : Int32), (mup q1.2 70 3 ((q1.2 70 3) + (1 : Int32))))) else (some ((0 : Int32), q1.2))))))
set_option maxHeartbeats 4000000 in
theorem okb_X3_readsInside {L : Nat} {g_X3_reads : Int32 → Int32 → Sg → Option (Int32 × Sg)} {g_X3_readsUnit : Int32 → Sg → Option (Int32 × Sg)} {g_X3_readsNot : Int32 → Sg → Option (Int32 × Sg)} {g_X3_readsInside : Int32 → Sg → Option (Int32 × Sg)} {dd : Nat} {p0 : Int32} {σ : Sg} {R : Int32 × Sg} (G_X3_reads : ∀ (p0 : Int32) (p1 : Int32) (σ : Sg) (R : Int32 × Sg), g_X3_reads p0 p1 σ = some R → mEv dd 15 [.ref 70, .int p0, .int p1] (mSh, L, σ) (some (.int R.1)) (mSh, L, R.2)) (G_X3_readsUnit : ∀ (p0 : Int32) (σ : Sg) (R : Int32 × Sg), g_X3_readsUnit p0 σ = some R → mEv dd 16 [.ref 70, .int p0] (mSh, L, σ) (some (.int R.1)) (mSh, L, R.2)) (G_X3_readsNot : ∀ (p0 : Int32) (σ : Sg) (R : Int32 × Sg), g_X3_readsNot p0 σ = some R → mEv dd 17 [.ref 70, .int p0] (mSh, L, σ) (some (.int R.1)) (mSh, L, R.2)) (G_X3_readsInside : ∀ (p0 : Int32) (σ : Sg) (R : Int32 × Sg), g_X3_readsInside p0 σ = some R → mEv dd 18 [.ref 70, .int p0] (mSh, L, σ) (some (.int R.1)) (mSh, L, R.2)) (hdd : 3 ≤ dd) (h : b_X3_readsInside g_X3_reads g_X3_readsUnit g_X3_readsNot g_X3_readsInside p0 σ = some R) : mEv (dd + 1) 18 [.ref 70, .int p0] (mSh, L, σ) (some (.int R.1)) (mSh, L, R.2) := by
  refine mEv.of (by decide) rfl rfl ?_
  unfold b_X3_readsInside at h
  refine mAt.blk bk_X3_readsInside_0 ck_X3_readsInside_0 ?_
  refine q_aload_n rfl ?_
  refine q_iconst ?_
  refine q_iload_n rfl ?_
  obtain ⟨q1, e1, h⟩ := mbind h
  refine q_vI2 mcap_0 rfl rfl ob_70 rfl (by omega) (G_X3_reads _ _ _ _ e1) ?_
  refine q_if_eq (fun c2 => ?_) (fun c2 => ?_)
  · rw [if_pos c2] at h
    refine mAt.blk bk_X3_readsInside_18 ck_X3_readsInside_18 ?_
    refine q_iconst ?_
    have h := Option.some.inj h
    subst h
    exact q_iretZ mcap_0 rfl (by decide) rfl
  · rw [if_neg c2] at h
    refine q_aload_n rfl ?_
    obtain ⟨q3, e3, h⟩ := mbind h
    refine q_vI0 mcap_0 rfl rfl ob_70 rfl (by omega) (ok_X3_next  e3) ?_
    refine q_bipush ?_
    refine q_ic_eq (fun c4 => ?_) (fun c4 => ?_)
    · rw [if_pos c4] at h
      refine mAt.blk bk_X3_readsInside_20 ck_X3_readsInside_20 ?_
      refine q_aload_n rfl ?_
      refine q_dupR ?_
      refine q_getI ob_70 rfl ?_
      refine q_iconst ?_
      refine q_iadd ?_
      refine q_putI ob_70 rfl ?_
      refine q_iconst ?_
      have h := Option.some.inj h
      subst h
      exact q_iretZ mcap_0 rfl (by decide) rfl
    · rw [if_neg c4] at h
      refine mAt.blk bk_X3_readsInside_18 ck_X3_readsInside_18 ?_
      refine q_iconst ?_
      have h := Option.some.inj h
      subst h
      exact q_iretZ mcap_0 rfl (by decide) rfl
def F_X3_reads : Nat → (Int32 → Int32 → Sg → Option (Int32 × Sg)) × (Int32 → Sg → Option (Int32 × Sg)) × (Int32 → Sg → Option (Int32 × Sg)) × (Int32 → Sg → Option (Int32 × Sg))
  | 0 => ((fun _ _ _ => none), (fun _ _ => none), (fun _ _ => none), (fun _ _ => none))
  | n + 1 => ((fun p0 p1 σ => b_X3_reads ((F_X3_reads n).1) ((F_X3_reads n).2.1) ((F_X3_reads n).2.2.1) ((F_X3_reads n).2.2.2) p0 p1 σ), (fun p0 σ => b_X3_readsUnit ((F_X3_reads n).1) ((F_X3_reads n).2.1) ((F_X3_reads n).2.2.1) ((F_X3_reads n).2.2.2) p0 σ), (fun p0 σ => b_X3_readsNot ((F_X3_reads n).1) ((F_X3_reads n).2.1) ((F_X3_reads n).2.2.1) ((F_X3_reads n).2.2.2) p0 σ), (fun p0 σ => b_X3_readsInside ((F_X3_reads n).1) ((F_X3_reads n).2.1) ((F_X3_reads n).2.2.1) ((F_X3_reads n).2.2.2) p0 σ))
def f_X3_reads (n : Nat) (p0 : Int32) (p1 : Int32) (σ : Sg) : Option (Int32 × Sg) := ((F_X3_reads n).1) p0 p1 σ
def f_X3_readsUnit (n : Nat) (p0 : Int32) (σ : Sg) : Option (Int32 × Sg) := ((F_X3_reads n).2.1) p0 σ
def f_X3_readsNot (n : Nat) (p0 : Int32) (σ : Sg) : Option (Int32 × Sg) := ((F_X3_reads n).2.2.1) p0 σ
def f_X3_readsInside (n : Nat) (p0 : Int32) (σ : Sg) : Option (Int32 × Sg) := ((F_X3_reads n).2.2.2) p0 σ
theorem f_X3_reads_0 (p0 : Int32) (p1 : Int32) (σ : Sg) : f_X3_reads 0 p0 p1 σ = none := rfl
theorem f_X3_reads_s (n : Nat) (p0 : Int32) (p1 : Int32) (σ : Sg) : f_X3_reads (n + 1) p0 p1 σ = b_X3_reads (f_X3_reads n) (f_X3_readsUnit n) (f_X3_readsNot n) (f_X3_readsInside n) p0 p1 σ := rfl
theorem f_X3_readsUnit_0 (p0 : Int32) (σ : Sg) : f_X3_readsUnit 0 p0 σ = none := rfl
theorem f_X3_readsUnit_s (n : Nat) (p0 : Int32) (σ : Sg) : f_X3_readsUnit (n + 1) p0 σ = b_X3_readsUnit (f_X3_reads n) (f_X3_readsUnit n) (f_X3_readsNot n) (f_X3_readsInside n) p0 σ := rfl
theorem f_X3_readsNot_0 (p0 : Int32) (σ : Sg) : f_X3_readsNot 0 p0 σ = none := rfl
theorem f_X3_readsNot_s (n : Nat) (p0 : Int32) (σ : Sg) : f_X3_readsNot (n + 1) p0 σ = b_X3_readsNot (f_X3_reads n) (f_X3_readsUnit n) (f_X3_readsNot n) (f_X3_readsInside n) p0 σ := rfl
theorem f_X3_readsInside_0 (p0 : Int32) (σ : Sg) : f_X3_readsInside 0 p0 σ = none := rfl
theorem f_X3_readsInside_s (n : Nat) (p0 : Int32) (σ : Sg) : f_X3_readsInside (n + 1) p0 σ = b_X3_readsInside (f_X3_reads n) (f_X3_readsUnit n) (f_X3_readsNot n) (f_X3_readsInside n) p0 σ := rfl
set_option maxHeartbeats 4000000 in
theorem okg_X3_reads {L : Nat} : ∀ n : Nat, (∀ (p0 : Int32) (p1 : Int32) (σ : Sg) (R : Int32 × Sg), f_X3_reads n p0 p1 σ = some R → mEv (n + 3) 15 [.ref 70, .int p0, .int p1] (mSh, L, σ) (some (.int R.1)) (mSh, L, R.2)) ∧ (∀ (p0 : Int32) (σ : Sg) (R : Int32 × Sg), f_X3_readsUnit n p0 σ = some R → mEv (n + 3) 16 [.ref 70, .int p0] (mSh, L, σ) (some (.int R.1)) (mSh, L, R.2)) ∧ (∀ (p0 : Int32) (σ : Sg) (R : Int32 × Sg), f_X3_readsNot n p0 σ = some R → mEv (n + 3) 17 [.ref 70, .int p0] (mSh, L, σ) (some (.int R.1)) (mSh, L, R.2)) ∧ (∀ (p0 : Int32) (σ : Sg) (R : Int32 × Sg), f_X3_readsInside n p0 σ = some R → mEv (n + 3) 18 [.ref 70, .int p0] (mSh, L, σ) (some (.int R.1)) (mSh, L, R.2))
  | 0 => ⟨(fun _ _ _ _ h => by rw [f_X3_reads_0] at h; cases h), (fun _ _ _ h => by rw [f_X3_readsUnit_0] at h; cases h), (fun _ _ _ h => by rw [f_X3_readsNot_0] at h; cases h), (fun _ _ _ h => by rw [f_X3_readsInside_0] at h; cases h)⟩
  | n + 1 => by
    have ih := okg_X3_reads (L := L) n
    exact ⟨(fun _ _ _ _ h => by rw [f_X3_reads_s] at h; exact (by have := okb_X3_reads (L := L) (dd := n + 3) (ih.1) (ih.2.1) (ih.2.2.1) (ih.2.2.2) (by omega) h; rw [show n + 1 + 3 = n + 3 + 1 by omega]; exact this)), (fun _ _ _ h => by rw [f_X3_readsUnit_s] at h; exact (by have := okb_X3_readsUnit (L := L) (dd := n + 3) (ih.1) (ih.2.1) (ih.2.2.1) (ih.2.2.2) (by omega) h; rw [show n + 1 + 3 = n + 3 + 1 by omega]; exact this)), (fun _ _ _ h => by rw [f_X3_readsNot_s] at h; exact (by have := okb_X3_readsNot (L := L) (dd := n + 3) (ih.1) (ih.2.1) (ih.2.2.1) (ih.2.2.2) (by omega) h; rw [show n + 1 + 3 = n + 3 + 1 by omega]; exact this)), (fun _ _ _ h => by rw [f_X3_readsInside_s] at h; exact (by have := okb_X3_readsInside (L := L) (dd := n + 3) (ih.1) (ih.2.1) (ih.2.2.1) (ih.2.2.2) (by omega) h; rw [show n + 1 + 3 = n + 3 + 1 by omega]; exact this))⟩
theorem ok_X3_reads {L : Nat} {p0 : Int32} {p1 : Int32} {σ : Sg} {R : Int32 × Sg} (h : f_X3_reads 64 p0 p1 σ = some R) : mEv 67 15 [.ref 70, .int p0, .int p1] (mSh, L, σ) (some (.int R.1)) (mSh, L, R.2) := (okg_X3_reads (L := L) 64).1 _ _ _ _ h
theorem ok_X3_readsUnit {L : Nat} {p0 : Int32} {σ : Sg} {R : Int32 × Sg} (h : f_X3_readsUnit 64 p0 σ = some R) : mEv 67 16 [.ref 70, .int p0] (mSh, L, σ) (some (.int R.1)) (mSh, L, R.2) := (okg_X3_reads (L := L) 64).2.1 _ _ _ h
theorem ok_X3_readsNot {L : Nat} {p0 : Int32} {σ : Sg} {R : Int32 × Sg} (h : f_X3_readsNot 64 p0 σ = some R) : mEv 67 17 [.ref 70, .int p0] (mSh, L, σ) (some (.int R.1)) (mSh, L, R.2) := (okg_X3_reads (L := L) 64).2.2.1 _ _ _ h
theorem ok_X3_readsInside {L : Nat} {p0 : Int32} {σ : Sg} {R : Int32 × Sg} (h : f_X3_readsInside 64 p0 σ = some R) : mEv 67 18 [.ref 70, .int p0] (mSh, L, σ) (some (.int R.1)) (mSh, L, R.2) := (okg_X3_reads (L := L) 64).2.2.2 _ _ _ h
