def bk_X12_forget_0 : List mI := [(.aload_n 0, 1, 0, 0, 0, []), (.getfield 7, 3, 12, 0, 937, []), (.iconst 3, 1, 0, 0, 0, [(3, 0)]), (.iaload, 1, 0, 0, 0, []), (.istore_n 1, 1, 0, 0, 0, []), (.aload_n 0, 1, 0, 0, 0, []), (.getfield 7, 3, 12, 0, 937, []), (.iconst 3, 1, 0, 0, 0, [(3, 0)]), (.iconst 0, 1, 0, 0, 0, [(0, 0)]), (.iastore, 1, 0, 0, 0, []), (.iload_n 1, 1, 0, 0, 0, []), (.ireturn, 1, 0, 0, 0, [])]
theorem ck_X12_forget_0 : mChk 202 0 bk_X12_forget_0 = true := by decide +kernel
def f_X12_forget (σ : Sg) : Option (Int32 × Sg) := (some ((σ 94 3), (mup σ 94 3 (0 : Int32))))
set_option maxHeartbeats 4000000 in
theorem ok_X12_forget {L : Nat} {σ : Sg} {R : Int32 × Sg} (h : f_X12_forget σ = some R) : mEv 0 202 [.ref 93] (mSh, L, σ) (some (.int R.1)) (mSh, L, R.2) := by
  refine mEv.of (by decide) rfl rfl ?_
  unfold f_X12_forget at h
  refine mAt.blk bk_X12_forget_0 ck_X12_forget_0 ?_
  refine q_aload_n rfl ?_
  refine q_getR ob_93 rfl rfl ?_
  refine q_iconst ?_
  refine q_iald (j := 3) (mrd ar_94 _ _) (by decide) (by decide) ?_
  refine q_istore_n rfl rfl ?_
  refine q_aload_n rfl ?_
  refine q_getR ob_93 rfl rfl ?_
  refine q_iconst ?_
  refine q_iconst ?_
  refine q_iast (j := 3) (by decide) ar_94 (by decide) ?_
  refine q_iload_n rfl ?_
  have h := Option.some.inj h
  subst h
  exact q_iretI mcap_0 rfl rfl
def bk_X12_isSo_0 : List mI := [(.aload_n 0, 1, 0, 0, 0, []), (.aload_n 0, 1, 0, 0, 0, []), (.getfield 7, 3, 12, 0, 937, []), (.bipush 106, 2, 0, 0, 0, [(106, 0)]), (.iconst 3, 1, 0, 0, 0, [(3, 0)]), (.iload_n 1, 1, 0, 0, 0, []), (.imul, 1, 0, 0, 0, []), (.iadd, 1, 0, 0, 0, []), (.iaload, 1, 0, 0, 0, []), (.aload_n 0, 1, 0, 0, 0, []), (.getfield 7, 3, 12, 0, 937, []), (.bipush 106, 2, 0, 0, 0, [(106, 0)]), (.iconst 3, 1, 0, 0, 0, [(3, 0)]), (.iload_n 1, 1, 0, 0, 0, []), (.imul, 1, 0, 0, 0, []), (.iadd, 1, 0, 0, 0, []), (.iconst 2, 1, 0, 0, 0, [(2, 0)]), (.iadd, 1, 0, 0, 0, []), (.iaload, 1, 0, 0, 0, []), (.iload_n 2, 1, 0, 0, 0, []), (.iload_n 3, 1, 0, 0, 0, []), (.iload 4, 2, 0, 0, 0, []), (.invokevirtual 243, 3, 198, 0, 1269, []), (.aload_n 0, 1, 0, 0, 0, []), (.getfield 7, 3, 12, 0, 937, []), (.bipush 106, 2, 0, 0, 0, [(106, 0)]), (.iconst 3, 1, 0, 0, 0, [(3, 0)]), (.iload_n 1, 1, 0, 0, 0, []), (.imul, 1, 0, 0, 0, []), (.iadd, 1, 0, 0, 0, []), (.iconst 1, 1, 0, 0, 0, [(1, 0)]), (.iadd, 1, 0, 0, 0, []), (.iaload, 1, 0, 0, 0, []), (.if_icmp .ne 7, 3, 52, 0, 0, []), (.iconst 1, 1, 0, 0, 0, [(1, 0)]), (.goto 4, 3, 53, 0, 0, [])]
theorem ck_X12_isSo_0 : mChk 203 0 bk_X12_isSo_0 = true := by decide +kernel
def bk_X12_isSo_52 : List mI := [(.iconst 0, 1, 0, 0, 0, [(0, 0)])]
theorem ck_X12_isSo_52 : mChk 203 52 bk_X12_isSo_52 = true := by decide +kernel
def bk_X12_isSo_53 : List mI := [(.ireturn, 1, 0, 0, 0, [])]
theorem ck_X12_isSo_53 : mChk 203 53 bk_X12_isSo_53 = true := by decide +kernel
def f_X12_isSo (p0 : Int32) (p1 : Int32) (p2 : Int32) (p3 : Int32) (σ : Sg) : Option (Int32) := (if ((106 : Int32) + ((3 : Int32) * p0)) < 0 ∨ 320 ≤ (((106 : Int32) + ((3 : Int32) * p0))).toNatClampNeg then none else (if (((106 : Int32) + ((3 : Int32) * p0)) + (2 : Int32)) < 0 ∨ 320 ≤ ((((106 : Int32) + ((3 : Int32) * p0)) + (2 : Int32))).toNatClampNeg then none else ((f_X12_walk (σ 94 (((106 : Int32) + ((3 : Int32) * p0))).toNatClampNeg) (σ 94 ((((106 : Int32) + ((3 : Int32) * p0)) + (2 : Int32))).toNatClampNeg) p1 p2 p3 σ).bind fun q3 => (if (((106 : Int32) + ((3 : Int32) * p0)) + (1 : Int32)) < 0 ∨ 320 ≤ ((((106 : Int32) + ((3 : Int32) * p0)) + (1 : Int32))).toNatClampNeg then none else (if q3 = (σ 94 ((((106 : Int32) + ((3 : Int32) * p0)) + (1 : Int32))).toNatClampNeg) then (some (1 : Int32)) else (some (0 : Int32)))))))
set_option maxHeartbeats 4000000 in
theorem ok_X12_isSo {L : Nat} {p0 : Int32} {p1 : Int32} {p2 : Int32} {p3 : Int32} {σ : Sg} {R : Int32} (h : f_X12_isSo p0 p1 p2 p3 σ = some R) : mEv 2 203 [.ref 93, .int p0, .int p1, .int p2, .int p3] (mSh, L, σ) (some (.int R)) (mSh, L, σ) := by
  refine mEv.of (by decide) rfl rfl ?_
  unfold f_X12_isSo at h
  refine mAt.blk bk_X12_isSo_0 ck_X12_isSo_0 ?_
  refine q_aload_n rfl ?_
  refine q_aload_n rfl ?_
  refine q_getR ob_93 rfl rfl ?_
  refine q_bipush ?_
  refine q_iconst ?_
  refine q_iload_n rfl ?_
  refine q_imul ?_
  refine q_iadd ?_
  obtain ⟨c1, h⟩ := mnone h
  refine q_iald (mrd ar_94 _ _) rfl c1 ?_
  refine q_aload_n rfl ?_
  refine q_getR ob_93 rfl rfl ?_
  refine q_bipush ?_
  refine q_iconst ?_
  refine q_iload_n rfl ?_
  refine q_imul ?_
  refine q_iadd ?_
  refine q_iconst ?_
  refine q_iadd ?_
  obtain ⟨c2, h⟩ := mnone h
  refine q_iald (mrd ar_94 _ _) rfl c2 ?_
  refine q_iload_n rfl ?_
  refine q_iload_n rfl ?_
  refine q_iload rfl ?_
  obtain ⟨q3, e3, h⟩ := mbind h
  refine q_vI5 mcap_0 rfl rfl ob_93 rfl (by decide) (ok_X12_walk  e3) ?_
  refine q_aload_n rfl ?_
  refine q_getR ob_93 rfl rfl ?_
  refine q_bipush ?_
  refine q_iconst ?_
  refine q_iload_n rfl ?_
  refine q_imul ?_
  refine q_iadd ?_
  refine q_iconst ?_
  refine q_iadd ?_
  obtain ⟨c4, h⟩ := mnone h
  refine q_iald (mrd ar_94 _ _) rfl c4 ?_
  refine q_ic_ne (fun c5 => ?_) (fun c5 => ?_)
  · rw [if_pos c5] at h
    refine q_iconst ?_
    refine q_goto ?_
    refine mAt.blk bk_X12_isSo_53 ck_X12_isSo_53 ?_
    have h := Option.some.inj h
    subst h
    exact q_iretZ mcap_0 rfl (by decide) rfl
  · rw [if_neg c5] at h
    refine mAt.blk bk_X12_isSo_52 ck_X12_isSo_52 ?_
    refine q_iconst ?_
    refine mAt.blk bk_X12_isSo_53 ck_X12_isSo_53 ?_
    have h := Option.some.inj h
    subst h
    exact q_iretZ mcap_0 rfl (by decide) rfl
def bk_X12_agrees_0 : List mI := [(.iload_n 1, 1, 0, 0, 0, []), (.i2l, 1, 0, 0, 0, []), (.lconst 0, 1, 0, 0, 0, [(0, 0)]), (.aload_n 0, 1, 0, 0, 0, []), (.getfield 7, 3, 12, 0, 937, []), (.iconst 3, 1, 0, 0, 0, [(3, 0)]), (.iaload, 1, 0, 0, 0, []), (.iconst 1, 1, 0, 0, 0, [(1, 0)]), (.isub, 1, 0, 0, 0, []), (.i2l, 1, 0, 0, 0, []), (.invokestatic 48, 3, 135, 0, 1007, []), (.ifCond .ne 9, 3, 24, 0, 0, []), (.aload_n 0, 1, 0, 0, 0, []), (.iconst 1, 1, 0, 0, 0, [(1, 0)]), (.invokevirtual 111, 3, 134, 0, 1010, []), (.ireturn, 1, 0, 0, 0, [])]
theorem ck_X12_agrees_0 : mChk 204 0 bk_X12_agrees_0 = true := by decide +kernel
def bk_X12_agrees_24 : List mI := [(.aload_n 0, 1, 0, 0, 0, []), (.iload_n 1, 1, 0, 0, 0, []), (.bipush (-2), 2, 0, 0, 0, [((-2), 0)]), (.iconst (-1), 1, 0, 0, 0, [((-1), 0)]), (.iconst 1, 1, 0, 0, 0, [(1, 0)]), (.invokevirtual 246, 3, 203, 0, 1289, []), (.ifCond .eq 7, 3, 40, 0, 0, []), (.iconst 1, 1, 0, 0, 0, [(1, 0)]), (.goto 4, 3, 41, 0, 0, [])]
theorem ck_X12_agrees_24 : mChk 204 24 bk_X12_agrees_24 = true := by decide +kernel
def bk_X12_agrees_40 : List mI := [(.iconst 0, 1, 0, 0, 0, [(0, 0)])]
theorem ck_X12_agrees_40 : mChk 204 40 bk_X12_agrees_40 = true := by decide +kernel
def bk_X12_agrees_41 : List mI := [(.ireturn, 1, 0, 0, 0, [])]
theorem ck_X12_agrees_41 : mChk 204 41 bk_X12_agrees_41 = true := by decide +kernel
def f_X12_agrees (p0 : Int32) (σ : Sg) : Option (Int32 × Sg) := ((f_X12_isIn (p0).toInt64 (0 : Int32).toInt64 (((σ 94 3) - (1 : Int32))).toInt64 σ).bind fun q2 => (if q2 = 0 then ((f_X12_finds (1 : Int32) σ).bind fun q6 => (some (q6.1, q6.2))) else ((f_X12_isSo p0 (-2 : Int32) (-1 : Int32) (1 : Int32) σ).bind fun q4 => (if q4 = 0 then (some ((0 : Int32), σ)) else (some ((1 : Int32), σ))))))
set_option maxHeartbeats 4000000 in
theorem ok_X12_agrees {L : Nat} {p0 : Int32} {σ : Sg} {R : Int32 × Sg} (h : f_X12_agrees p0 σ = some R) : mEv 3 204 [.ref 93, .int p0] (mSh, L, σ) (some (.int R.1)) (mSh, L, R.2) := by
  refine mEv.of (by decide) rfl rfl ?_
  unfold f_X12_agrees at h
  refine mAt.blk bk_X12_agrees_0 ck_X12_agrees_0 ?_
  refine q_iload_n rfl ?_
  refine q_i2l ?_
  refine q_lconst ?_
  refine q_aload_n rfl ?_
  refine q_getR ob_93 rfl rfl ?_
  refine q_iconst ?_
  refine q_iald (j := 3) (mrd ar_94 _ _) (by decide) (by decide) ?_
  refine q_iconst ?_
  refine q_isub ?_
  refine q_i2l ?_
  obtain ⟨q2, e2, h⟩ := mbind h
  refine q_sI3 mcap_0 rfl rfl rfl rfl (by decide) (ok_X12_isIn  e2) ?_
  refine q_if_ne (fun c3 => ?_) (fun c3 => ?_)
  · rw [if_pos c3] at h
    refine q_aload_n rfl ?_
    refine q_iconst ?_
    obtain ⟨q6, e6, h⟩ := mbind h
    refine q_vI1 mcap_0 rfl rfl ob_93 rfl (by decide) (ok_X12_finds  e6) ?_
    have h := Option.some.inj h
    subst h
    exact q_iretI mcap_0 rfl rfl
  · rw [if_neg c3] at h
    refine mAt.blk bk_X12_agrees_24 ck_X12_agrees_24 ?_
    refine q_aload_n rfl ?_
    refine q_iload_n rfl ?_
    refine q_bipush ?_
    refine q_iconst ?_
    refine q_iconst ?_
    obtain ⟨q4, e4, h⟩ := mbind h
    refine q_vI4 mcap_0 rfl rfl ob_93 rfl (by decide) (ok_X12_isSo  e4) ?_
    refine q_if_eq (fun c5 => ?_) (fun c5 => ?_)
    · rw [if_pos c5] at h
      refine mAt.blk bk_X12_agrees_40 ck_X12_agrees_40 ?_
      refine q_iconst ?_
      refine mAt.blk bk_X12_agrees_41 ck_X12_agrees_41 ?_
      have h := Option.some.inj h
      subst h
      exact q_iretI mcap_0 rfl rfl
    · rw [if_neg c5] at h
      refine q_iconst ?_
      refine q_goto ?_
      refine mAt.blk bk_X12_agrees_41 ck_X12_agrees_41 ?_
      have h := Option.some.inj h
      subst h
      exact q_iretI mcap_0 rfl rfl
def bk_X12_areSo_0 : List mI := [(.iconst 0, 1, 0, 0, 0, [(0, 0)]), (.istore 4, 2, 0, 0, 0, [])]
theorem ck_X12_areSo_0 : mChk 205 0 bk_X12_areSo_0 = true := by decide +kernel
def bk_X12_areSo_3 : List mI := [(.iload 4, 2, 0, 0, 0, []), (.aload_n 0, 1, 0, 0, 0, []), (.getfield 7, 3, 12, 0, 937, []), (.iconst 3, 1, 0, 0, 0, [(3, 0)]), (.iaload, 1, 0, 0, 0, []), (.if_icmp .ge 23, 3, 34, 0, 0, []), (.aload_n 0, 1, 0, 0, 0, []), (.iload 4, 2, 0, 0, 0, []), (.iload_n 1, 1, 0, 0, 0, []), (.iload_n 2, 1, 0, 0, 0, []), (.iload_n 3, 1, 0, 0, 0, []), (.invokevirtual 246, 3, 203, 0, 1289, []), (.ifCond .ne 5, 3, 28, 0, 0, []), (.iconst 0, 1, 0, 0, 0, [(0, 0)]), (.ireturn, 1, 0, 0, 0, [])]
theorem ck_X12_areSo_3 : mChk 205 3 bk_X12_areSo_3 = true := by decide +kernel
def bk_X12_areSo_28 : List mI := [(.iinc 4 1, 3, 0, 0, 0, [(1, 0)]), (.goto (-28), 3, 3, 0, 0, [])]
theorem ck_X12_areSo_28 : mChk 205 28 bk_X12_areSo_28 = true := by decide +kernel
def bk_X12_areSo_34 : List mI := [(.iconst 1, 1, 0, 0, 0, [(1, 0)]), (.ireturn, 1, 0, 0, 0, [])]
theorem ck_X12_areSo_34 : mChk 205 34 bk_X12_areSo_34 = true := by decide +kernel
def c_X12_areSo_3 (σ : Sg) : Nat → Int32 → Int32 → Int32 → Int32 → Option (Int32)
  | 0, _, _, _, _ => none
  | n + 1, x1, x2, x3, x4 => (if (σ 94 3) ≤ x4 then (some (1 : Int32)) else ((f_X12_isSo x4 x1 x2 x3 σ).bind fun q3 => (if q3 = 0 then (some (0 : Int32)) else (c_X12_areSo_3 σ n x1 x2 x3 (x4 + (1 : Int32))))))
set_option maxHeartbeats 4000000 in
theorem okc_X12_areSo_3 {L : Nat} {σ : Sg} {R : Int32} {n : Nat} {x1 : Int32} {x2 : Int32} {x3 : Int32} {x4 : Int32} {pl : mLoc} (h : c_X12_areSo_3 σ n x1 x2 x3 x4 = some R) (hl : mlf [some (.ref 93), some (.int x1), some (.int x2), some (.int x3), some (.int x4)] pl) : mAt 3 205 (some (.int R), (mSh, L, σ)) 3 pl [] (mSh, L, σ) 0 0 := by
  induction n generalizing x1 x2 x3 x4 pl with
  | zero =>
    rw [c_X12_areSo_3.eq_1] at h
    cases h
  | succ n ih =>
    refine mAt.less hl ?_
    rw [c_X12_areSo_3.eq_2] at h
    refine mAt.blk bk_X12_areSo_3 ck_X12_areSo_3 ?_
    refine q_iload rfl ?_
    refine q_aload_n rfl ?_
    refine q_getR ob_93 rfl rfl ?_
    refine q_iconst ?_
    refine q_iald (j := 3) (mrd ar_94 _ _) (by decide) (by decide) ?_
    refine q_ic_ge (fun c2 => ?_) (fun c2 => ?_)
    · rw [if_pos c2] at h
      refine mAt.blk bk_X12_areSo_34 ck_X12_areSo_34 ?_
      refine q_iconst ?_
      have h := Option.some.inj h
      subst h
      exact q_iretZ mcap_0 rfl (by decide) rfl
    · rw [if_neg c2] at h
      refine q_aload_n rfl ?_
      refine q_iload rfl ?_
      refine q_iload_n rfl ?_
      refine q_iload_n rfl ?_
      refine q_iload_n rfl ?_
      obtain ⟨q3, e3, h⟩ := mbind h
      refine q_vI4 mcap_0 rfl rfl ob_93 rfl (by decide) (ok_X12_isSo  e3) ?_
      refine q_if_ne (fun c4 => ?_) (fun c4 => ?_)
      · rw [if_pos c4] at h
        refine q_iconst ?_
        have h := Option.some.inj h
        subst h
        exact q_iretZ mcap_0 rfl (by decide) rfl
      · rw [if_neg c4] at h
        refine mAt.blk bk_X12_areSo_28 ck_X12_areSo_28 ?_
        refine q_iinc rfl rfl ?_
        refine q_goto ?_
        exact ih  h ⟨rfl, rfl, rfl, rfl, rfl, trivial⟩
def f_X12_areSo (p0 : Int32) (p1 : Int32) (p2 : Int32) (σ : Sg) : Option (Int32) := (c_X12_areSo_3  σ 1000 p0 p1 p2 (0 : Int32))
set_option maxHeartbeats 4000000 in
theorem ok_X12_areSo {L : Nat} {p0 : Int32} {p1 : Int32} {p2 : Int32} {σ : Sg} {R : Int32} (h : f_X12_areSo p0 p1 p2 σ = some R) : mEv 3 205 [.ref 93, .int p0, .int p1, .int p2] (mSh, L, σ) (some (.int R)) (mSh, L, σ) := by
  refine mEv.of (by decide) rfl rfl ?_
  unfold f_X12_areSo at h
  refine mAt.blk bk_X12_areSo_0 ck_X12_areSo_0 ?_
  refine q_iconst ?_
  refine q_istore rfl rfl ?_
  exact okc_X12_areSo_3  h ⟨rfl, rfl, rfl, rfl, rfl, trivial⟩
def bk_X12_belows_0 : List mI := [(.aload_n 0, 1, 0, 0, 0, []), (.iload_n 1, 1, 0, 0, 0, []), (.invokevirtual 131, 3, 138, 0, 1085, []), (.ifCond .eq 27, 3, 32, 0, 0, []), (.iload_n 2, 1, 0, 0, 0, []), (.i2l, 1, 0, 0, 0, []), (.lconst 1, 1, 0, 0, 0, [(1, 0)]), (.ldc2_w 152, 3, 0, 0, 1112, [(5, 0)]), (.invokestatic 48, 3, 135, 0, 1007, []), (.ifCond .eq 15, 3, 32, 0, 0, []), (.iload_n 3, 1, 0, 0, 0, []), (.i2l, 1, 0, 0, 0, []), (.lconst 0, 1, 0, 0, 0, [(0, 0)]), (.ldc2_w 250, 3, 0, 0, 1297, [(2, 0)]), (.invokestatic 48, 3, 135, 0, 1007, []), (.ifCond .ne 9, 3, 38, 0, 0, [])]
theorem ck_X12_belows_0 : mChk 206 0 bk_X12_belows_0 = true := by decide +kernel
def bk_X12_belows_32 : List mI := [(.aload_n 0, 1, 0, 0, 0, []), (.iconst 1, 1, 0, 0, 0, [(1, 0)]), (.invokevirtual 111, 3, 134, 0, 1010, []), (.ireturn, 1, 0, 0, 0, [])]
theorem ck_X12_belows_32 : mChk 206 32 bk_X12_belows_32 = true := by decide +kernel
def bk_X12_belows_38 : List mI := [(.iconst 0, 1, 0, 0, 0, [(0, 0)]), (.istore 4, 2, 0, 0, 0, []), (.iconst (-1), 1, 0, 0, 0, [((-1), 0)]), (.istore 5, 2, 0, 0, 0, []), (.iconst 1, 1, 0, 0, 0, [(1, 0)]), (.istore 6, 2, 0, 0, 0, []), (.iconst 0, 1, 0, 0, 0, [(0, 0)]), (.istore 7, 2, 0, 0, 0, [])]
theorem ck_X12_belows_38 : mChk 206 38 bk_X12_belows_38 = true := by decide +kernel
def bk_X12_belows_50 : List mI := [(.iload 7, 2, 0, 0, 0, []), (.aload_n 0, 1, 0, 0, 0, []), (.getfield 7, 3, 12, 0, 937, []), (.iconst 1, 1, 0, 0, 0, [(1, 0)]), (.iaload, 1, 0, 0, 0, []), (.if_icmp .ge 82, 3, 140, 0, 0, []), (.iconst 1, 1, 0, 0, 0, [(1, 0)]), (.istore 8, 2, 0, 0, 0, [])]
theorem ck_X12_belows_50 : mChk 206 50 bk_X12_belows_50 = true := by decide +kernel
def bk_X12_belows_64 : List mI := [(.iload 8, 2, 0, 0, 0, []), (.iload_n 2, 1, 0, 0, 0, []), (.if_icmp .gt 67, 3, 134, 0, 0, []), (.aload_n 0, 1, 0, 0, 0, []), (.iload_n 1, 1, 0, 0, 0, []), (.iload 7, 2, 0, 0, 0, []), (.iload 8, 2, 0, 0, 0, []), (.invokevirtual 252, 3, 205, 0, 1298, []), (.ifCond .eq 49, 3, 128, 0, 0, []), (.iinc 4 1, 3, 0, 0, 0, [(1, 0)]), (.iload 5, 2, 0, 0, 0, []), (.ifCond .lt 17, 3, 104, 0, 0, []), (.iload 5, 2, 0, 0, 0, []), (.bipush 10, 2, 0, 0, 0, [(10, 0)]), (.idiv, 1, 0, 0, 0, []), (.iload 7, 2, 0, 0, 0, []), (.if_icmp .eq 7, 3, 104, 0, 0, []), (.iconst 0, 1, 0, 0, 0, [(0, 0)]), (.goto 5, 3, 106, 0, 0, [])]
theorem ck_X12_belows_64 : mChk 206 64 bk_X12_belows_64 = true := by decide +kernel
def bk_X12_belows_104 : List mI := [(.iload 6, 2, 0, 0, 0, [])]
theorem ck_X12_belows_104 : mChk 206 104 bk_X12_belows_104 = true := by decide +kernel
def bk_X12_belows_106 : List mI := [(.istore 6, 2, 0, 0, 0, []), (.iload 5, 2, 0, 0, 0, []), (.ifCond .ge 14, 3, 124, 0, 0, []), (.bipush 10, 2, 0, 0, 0, [(10, 0)]), (.iload 7, 2, 0, 0, 0, []), (.imul, 1, 0, 0, 0, []), (.iload 8, 2, 0, 0, 0, []), (.iadd, 1, 0, 0, 0, []), (.goto 5, 3, 126, 0, 0, [])]
theorem ck_X12_belows_106 : mChk 206 106 bk_X12_belows_106 = true := by decide +kernel
def bk_X12_belows_124 : List mI := [(.iload 5, 2, 0, 0, 0, [])]
theorem ck_X12_belows_124 : mChk 206 124 bk_X12_belows_124 = true := by decide +kernel
def bk_X12_belows_126 : List mI := [(.istore 5, 2, 0, 0, 0, [])]
theorem ck_X12_belows_126 : mChk 206 126 bk_X12_belows_126 = true := by decide +kernel
def bk_X12_belows_128 : List mI := [(.iinc 8 1, 3, 0, 0, 0, [(1, 0)]), (.goto (-67), 3, 64, 0, 0, [])]
theorem ck_X12_belows_128 : mChk 206 128 bk_X12_belows_128 = true := by decide +kernel
def bk_X12_belows_134 : List mI := [(.iinc 7 1, 3, 0, 0, 0, [(1, 0)]), (.goto (-87), 3, 50, 0, 0, [])]
theorem ck_X12_belows_134 : mChk 206 134 bk_X12_belows_134 = true := by decide +kernel
def bk_X12_belows_140 : List mI := [(.iload_n 3, 1, 0, 0, 0, []), (.ifCond .ne 8, 3, 149, 0, 0, []), (.iload 4, 2, 0, 0, 0, []), (.goto 15, 3, 161, 0, 0, [])]
theorem ck_X12_belows_140 : mChk 206 140 bk_X12_belows_140 = true := by decide +kernel
def bk_X12_belows_149 : List mI := [(.iload_n 3, 1, 0, 0, 0, []), (.iconst 1, 1, 0, 0, 0, [(1, 0)]), (.if_icmp .ne 8, 3, 159, 0, 0, []), (.iload 5, 2, 0, 0, 0, []), (.goto 5, 3, 161, 0, 0, [])]
theorem ck_X12_belows_149 : mChk 206 149 bk_X12_belows_149 = true := by decide +kernel
def bk_X12_belows_159 : List mI := [(.iload 6, 2, 0, 0, 0, [])]
theorem ck_X12_belows_159 : mChk 206 159 bk_X12_belows_159 = true := by decide +kernel
def bk_X12_belows_161 : List mI := [(.ireturn, 1, 0, 0, 0, [])]
theorem ck_X12_belows_161 : mChk 206 161 bk_X12_belows_161 = true := by decide +kernel
def c_X12_belows_128 (k50 : Int32 → Int32 → Int32 → Int32 → Int32 → Int32 → Int32 → Sg → Option (Int32 × Sg)) (k64 : Int32 → Int32 → Int32 → Int32 → Int32 → Int32 → Int32 → Int32 → Sg → Option (Int32 × Sg)) (x1 : Int32) (x2 : Int32) (x3 : Int32) (x4 : Int32) (x5 : Int32) (x6 : Int32) (x7 : Int32) (x8 : Int32) (σ : Sg) : Option (Int32 × Sg) := (k64 x1 x2 x3 x4 x5 x6 x7 (x8 + (1 : Int32)) σ)
set_option maxHeartbeats 4000000 in
theorem okc_X12_belows_128 {L : Nat} {k50 : Int32 → Int32 → Int32 → Int32 → Int32 → Int32 → Int32 → Sg → Option (Int32 × Sg)} {k64 : Int32 → Int32 → Int32 → Int32 → Int32 → Int32 → Int32 → Int32 → Sg → Option (Int32 × Sg)} {R : Int32 × Sg} (Hk50 : ∀ (x1 : Int32) (x2 : Int32) (x3 : Int32) (x4 : Int32) (x5 : Int32) (x6 : Int32) (x7 : Int32) (σ : Sg) (pl : mLoc), k50 x1 x2 x3 x4 x5 x6 x7 σ = some R → mlf [some (.ref 93), some (.int x1), some (.int x2), some (.int x3), some (.int x4), some (.int x5), some (.int x6), some (.int x7), none] pl → mAt 4 206 (some (.int R.1), (mSh, L, R.2)) 50 pl [] (mSh, L, σ) 0 0) (Hk64 : ∀ (x1 : Int32) (x2 : Int32) (x3 : Int32) (x4 : Int32) (x5 : Int32) (x6 : Int32) (x7 : Int32) (x8 : Int32) (σ : Sg) (pl : mLoc), k64 x1 x2 x3 x4 x5 x6 x7 x8 σ = some R → mlf [some (.ref 93), some (.int x1), some (.int x2), some (.int x3), some (.int x4), some (.int x5), some (.int x6), some (.int x7), some (.int x8)] pl → mAt 4 206 (some (.int R.1), (mSh, L, R.2)) 64 pl [] (mSh, L, σ) 0 0) {x1 : Int32} {x2 : Int32} {x3 : Int32} {x4 : Int32} {x5 : Int32} {x6 : Int32} {x7 : Int32} {x8 : Int32} {σ : Sg} {pl : mLoc} (h : c_X12_belows_128 k50 k64 x1 x2 x3 x4 x5 x6 x7 x8 σ = some R) (hl : mlf [some (.ref 93), some (.int x1), some (.int x2), some (.int x3), some (.int x4), some (.int x5), some (.int x6), some (.int x7), some (.int x8)] pl) : mAt 4 206 (some (.int R.1), (mSh, L, R.2)) 128 pl [] (mSh, L, σ) 0 0 := by
  refine mAt.less hl ?_
  unfold c_X12_belows_128 at h
  refine mAt.blk bk_X12_belows_128 ck_X12_belows_128 ?_
  refine q_iinc rfl rfl ?_
  refine q_goto ?_
  exact Hk64 _ _ _ _ _ _ _ _ _ _  h ⟨rfl, rfl, rfl, rfl, rfl, rfl, rfl, rfl, rfl, trivial⟩
def c_X12_belows_134 (k50 : Int32 → Int32 → Int32 → Int32 → Int32 → Int32 → Int32 → Sg → Option (Int32 × Sg)) (x1 : Int32) (x2 : Int32) (x3 : Int32) (x4 : Int32) (x5 : Int32) (x6 : Int32) (x7 : Int32) (σ : Sg) : Option (Int32 × Sg) := (k50 x1 x2 x3 x4 x5 x6 (x7 + (1 : Int32)) σ)
set_option maxHeartbeats 4000000 in
theorem okc_X12_belows_134 {L : Nat} {k50 : Int32 → Int32 → Int32 → Int32 → Int32 → Int32 → Int32 → Sg → Option (Int32 × Sg)} {R : Int32 × Sg} (Hk50 : ∀ (x1 : Int32) (x2 : Int32) (x3 : Int32) (x4 : Int32) (x5 : Int32) (x6 : Int32) (x7 : Int32) (σ : Sg) (pl : mLoc), k50 x1 x2 x3 x4 x5 x6 x7 σ = some R → mlf [some (.ref 93), some (.int x1), some (.int x2), some (.int x3), some (.int x4), some (.int x5), some (.int x6), some (.int x7), none] pl → mAt 4 206 (some (.int R.1), (mSh, L, R.2)) 50 pl [] (mSh, L, σ) 0 0) {x1 : Int32} {x2 : Int32} {x3 : Int32} {x4 : Int32} {x5 : Int32} {x6 : Int32} {x7 : Int32} {σ : Sg} {pl : mLoc} (h : c_X12_belows_134 k50 x1 x2 x3 x4 x5 x6 x7 σ = some R) (hl : mlf [some (.ref 93), some (.int x1), some (.int x2), some (.int x3), some (.int x4), some (.int x5), some (.int x6), some (.int x7), none] pl) : mAt 4 206 (some (.int R.1), (mSh, L, R.2)) 134 pl [] (mSh, L, σ) 0 0 := by
  refine mAt.less hl ?_
  unfold c_X12_belows_134 at h
  refine mAt.blk bk_X12_belows_134 ck_X12_belows_134 ?_
  refine q_iinc rfl rfl ?_
  refine q_goto ?_
  exact Hk50 _ _ _ _ _ _ _ _ _  h ⟨rfl, rfl, rfl, rfl, rfl, rfl, rfl, rfl, trivial⟩
def c_X12_belows_140 (x3 : Int32) (x4 : Int32) (x5 : Int32) (x6 : Int32) (σ : Sg) : Option (Int32 × Sg) := (if x3 = 0 then (some (x4, σ)) else (if x3 = (1 : Int32) then (some (x5, σ)) else (some (x6, σ))))
set_option maxHeartbeats 4000000 in
theorem okc_X12_belows_140 {L : Nat} {R : Int32 × Sg} {x3 : Int32} {x4 : Int32} {x5 : Int32} {x6 : Int32} {σ : Sg} {pl : mLoc} (h : c_X12_belows_140 x3 x4 x5 x6 σ = some R) (hl : mlf [none, none, none, some (.int x3), some (.int x4), some (.int x5), some (.int x6), none, none] pl) : mAt 4 206 (some (.int R.1), (mSh, L, R.2)) 140 pl [] (mSh, L, σ) 0 0 := by
  refine mAt.less hl ?_
  unfold c_X12_belows_140 at h
  refine mAt.blk bk_X12_belows_140 ck_X12_belows_140 ?_
  refine q_iload_n rfl ?_
  refine q_if_ne (fun c9 => ?_) (fun c9 => ?_)
  · rw [if_pos c9] at h
    refine q_iload rfl ?_
    refine q_goto ?_
    refine mAt.blk bk_X12_belows_161 ck_X12_belows_161 ?_
    have h := Option.some.inj h
    subst h
    exact q_iretI mcap_0 rfl rfl
  · rw [if_neg c9] at h
    refine mAt.blk bk_X12_belows_149 ck_X12_belows_149 ?_
    refine q_iload_n rfl ?_
    refine q_iconst ?_
    refine q_ic_ne (fun c10 => ?_) (fun c10 => ?_)
    · rw [if_pos c10] at h
      refine q_iload rfl ?_
      refine q_goto ?_
      refine mAt.blk bk_X12_belows_161 ck_X12_belows_161 ?_
      have h := Option.some.inj h
      subst h
      exact q_iretI mcap_0 rfl rfl
    · rw [if_neg c10] at h
      refine mAt.blk bk_X12_belows_159 ck_X12_belows_159 ?_
      refine q_iload rfl ?_
      refine mAt.blk bk_X12_belows_161 ck_X12_belows_161 ?_
      have h := Option.some.inj h
      subst h
      exact q_iretI mcap_0 rfl rfl
def c_X12_belows_126 (k50 : Int32 → Int32 → Int32 → Int32 → Int32 → Int32 → Int32 → Sg → Option (Int32 × Sg)) (k64 : Int32 → Int32 → Int32 → Int32 → Int32 → Int32 → Int32 → Int32 → Sg → Option (Int32 × Sg)) (x1 : Int32) (x2 : Int32) (x3 : Int32) (x4 : Int32) (x6 : Int32) (x7 : Int32) (x8 : Int32) (s0 : Int32) (σ : Sg) : Option (Int32 × Sg) := (c_X12_belows_128 k50 k64  x1 x2 x3 x4 s0 x6 x7 x8 σ)
set_option maxHeartbeats 4000000 in
theorem okc_X12_belows_126 {L : Nat} {k50 : Int32 → Int32 → Int32 → Int32 → Int32 → Int32 → Int32 → Sg → Option (Int32 × Sg)} {k64 : Int32 → Int32 → Int32 → Int32 → Int32 → Int32 → Int32 → Int32 → Sg → Option (Int32 × Sg)} {R : Int32 × Sg} (Hk50 : ∀ (x1 : Int32) (x2 : Int32) (x3 : Int32) (x4 : Int32) (x5 : Int32) (x6 : Int32) (x7 : Int32) (σ : Sg) (pl : mLoc), k50 x1 x2 x3 x4 x5 x6 x7 σ = some R → mlf [some (.ref 93), some (.int x1), some (.int x2), some (.int x3), some (.int x4), some (.int x5), some (.int x6), some (.int x7), none] pl → mAt 4 206 (some (.int R.1), (mSh, L, R.2)) 50 pl [] (mSh, L, σ) 0 0) (Hk64 : ∀ (x1 : Int32) (x2 : Int32) (x3 : Int32) (x4 : Int32) (x5 : Int32) (x6 : Int32) (x7 : Int32) (x8 : Int32) (σ : Sg) (pl : mLoc), k64 x1 x2 x3 x4 x5 x6 x7 x8 σ = some R → mlf [some (.ref 93), some (.int x1), some (.int x2), some (.int x3), some (.int x4), some (.int x5), some (.int x6), some (.int x7), some (.int x8)] pl → mAt 4 206 (some (.int R.1), (mSh, L, R.2)) 64 pl [] (mSh, L, σ) 0 0) {x1 : Int32} {x2 : Int32} {x3 : Int32} {x4 : Int32} {x6 : Int32} {x7 : Int32} {x8 : Int32} {s0 : Int32} {σ : Sg} {pl : mLoc} (h : c_X12_belows_126 k50 k64 x1 x2 x3 x4 x6 x7 x8 s0 σ = some R) (hl : mlf [some (.ref 93), some (.int x1), some (.int x2), some (.int x3), some (.int x4), none, some (.int x6), some (.int x7), some (.int x8)] pl) : mAt 4 206 (some (.int R.1), (mSh, L, R.2)) 126 pl [.int s0] (mSh, L, σ) 0 0 := by
  refine mAt.less hl ?_
  unfold c_X12_belows_126 at h
  refine mAt.blk bk_X12_belows_126 ck_X12_belows_126 ?_
  refine q_istore rfl rfl ?_
  exact okc_X12_belows_128 Hk50 Hk64 h ⟨rfl, rfl, rfl, rfl, rfl, rfl, rfl, rfl, rfl, trivial⟩
def c_X12_belows_106 (k50 : Int32 → Int32 → Int32 → Int32 → Int32 → Int32 → Int32 → Sg → Option (Int32 × Sg)) (k64 : Int32 → Int32 → Int32 → Int32 → Int32 → Int32 → Int32 → Int32 → Sg → Option (Int32 × Sg)) (x1 : Int32) (x2 : Int32) (x3 : Int32) (x4 : Int32) (x5 : Int32) (x7 : Int32) (x8 : Int32) (s0 : Int32) (σ : Sg) : Option (Int32 × Sg) := (if 0 ≤ x5 then (c_X12_belows_126 k50 k64  x1 x2 x3 x4 s0 x7 x8 x5 σ) else (c_X12_belows_126 k50 k64  x1 x2 x3 x4 s0 x7 x8 (((10 : Int32) * x7) + x8) σ))
set_option maxHeartbeats 4000000 in
theorem okc_X12_belows_106 {L : Nat} {k50 : Int32 → Int32 → Int32 → Int32 → Int32 → Int32 → Int32 → Sg → Option (Int32 × Sg)} {k64 : Int32 → Int32 → Int32 → Int32 → Int32 → Int32 → Int32 → Int32 → Sg → Option (Int32 × Sg)} {R : Int32 × Sg} (Hk50 : ∀ (x1 : Int32) (x2 : Int32) (x3 : Int32) (x4 : Int32) (x5 : Int32) (x6 : Int32) (x7 : Int32) (σ : Sg) (pl : mLoc), k50 x1 x2 x3 x4 x5 x6 x7 σ = some R → mlf [some (.ref 93), some (.int x1), some (.int x2), some (.int x3), some (.int x4), some (.int x5), some (.int x6), some (.int x7), none] pl → mAt 4 206 (some (.int R.1), (mSh, L, R.2)) 50 pl [] (mSh, L, σ) 0 0) (Hk64 : ∀ (x1 : Int32) (x2 : Int32) (x3 : Int32) (x4 : Int32) (x5 : Int32) (x6 : Int32) (x7 : Int32) (x8 : Int32) (σ : Sg) (pl : mLoc), k64 x1 x2 x3 x4 x5 x6 x7 x8 σ = some R → mlf [some (.ref 93), some (.int x1), some (.int x2), some (.int x3), some (.int x4), some (.int x5), some (.int x6), some (.int x7), some (.int x8)] pl → mAt 4 206 (some (.int R.1), (mSh, L, R.2)) 64 pl [] (mSh, L, σ) 0 0) {x1 : Int32} {x2 : Int32} {x3 : Int32} {x4 : Int32} {x5 : Int32} {x7 : Int32} {x8 : Int32} {s0 : Int32} {σ : Sg} {pl : mLoc} (h : c_X12_belows_106 k50 k64 x1 x2 x3 x4 x5 x7 x8 s0 σ = some R) (hl : mlf [some (.ref 93), some (.int x1), some (.int x2), some (.int x3), some (.int x4), some (.int x5), none, some (.int x7), some (.int x8)] pl) : mAt 4 206 (some (.int R.1), (mSh, L, R.2)) 106 pl [.int s0] (mSh, L, σ) 0 0 := by
  refine mAt.less hl ?_
  unfold c_X12_belows_106 at h
  refine mAt.blk bk_X12_belows_106 ck_X12_belows_106 ?_
  refine q_istore rfl rfl ?_
  refine q_iload rfl ?_
  refine q_if_ge (fun c8 => ?_) (fun c8 => ?_)
  · rw [if_pos c8] at h
    refine mAt.blk bk_X12_belows_124 ck_X12_belows_124 ?_
    refine q_iload rfl ?_
    exact okc_X12_belows_126 Hk50 Hk64 h ⟨rfl, rfl, rfl, rfl, rfl, rfl, rfl, rfl, trivial⟩
  · rw [if_neg c8] at h
    refine q_bipush ?_
    refine q_iload rfl ?_
    refine q_imul ?_
    refine q_iload rfl ?_
    refine q_iadd ?_
    refine q_goto ?_
    exact okc_X12_belows_126 Hk50 Hk64 h ⟨rfl, rfl, rfl, rfl, rfl, rfl, rfl, rfl, trivial⟩
def c_X12_belows_104 (k50 : Int32 → Int32 → Int32 → Int32 → Int32 → Int32 → Int32 → Sg → Option (Int32 × Sg)) (k64 : Int32 → Int32 → Int32 → Int32 → Int32 → Int32 → Int32 → Int32 → Sg → Option (Int32 × Sg)) (x1 : Int32) (x2 : Int32) (x3 : Int32) (x4 : Int32) (x5 : Int32) (x6 : Int32) (x7 : Int32) (x8 : Int32) (σ : Sg) : Option (Int32 × Sg) := (c_X12_belows_106 k50 k64  x1 x2 x3 x4 x5 x7 x8 x6 σ)
set_option maxHeartbeats 4000000 in
theorem okc_X12_belows_104 {L : Nat} {k50 : Int32 → Int32 → Int32 → Int32 → Int32 → Int32 → Int32 → Sg → Option (Int32 × Sg)} {k64 : Int32 → Int32 → Int32 → Int32 → Int32 → Int32 → Int32 → Int32 → Sg → Option (Int32 × Sg)} {R : Int32 × Sg} (Hk50 : ∀ (x1 : Int32) (x2 : Int32) (x3 : Int32) (x4 : Int32) (x5 : Int32) (x6 : Int32) (x7 : Int32) (σ : Sg) (pl : mLoc), k50 x1 x2 x3 x4 x5 x6 x7 σ = some R → mlf [some (.ref 93), some (.int x1), some (.int x2), some (.int x3), some (.int x4), some (.int x5), some (.int x6), some (.int x7), none] pl → mAt 4 206 (some (.int R.1), (mSh, L, R.2)) 50 pl [] (mSh, L, σ) 0 0) (Hk64 : ∀ (x1 : Int32) (x2 : Int32) (x3 : Int32) (x4 : Int32) (x5 : Int32) (x6 : Int32) (x7 : Int32) (x8 : Int32) (σ : Sg) (pl : mLoc), k64 x1 x2 x3 x4 x5 x6 x7 x8 σ = some R → mlf [some (.ref 93), some (.int x1), some (.int x2), some (.int x3), some (.int x4), some (.int x5), some (.int x6), some (.int x7), some (.int x8)] pl → mAt 4 206 (some (.int R.1), (mSh, L, R.2)) 64 pl [] (mSh, L, σ) 0 0) {x1 : Int32} {x2 : Int32} {x3 : Int32} {x4 : Int32} {x5 : Int32} {x6 : Int32} {x7 : Int32} {x8 : Int32} {σ : Sg} {pl : mLoc} (h : c_X12_belows_104 k50 k64 x1 x2 x3 x4 x5 x6 x7 x8 σ = some R) (hl : mlf [some (.ref 93), some (.int x1), some (.int x2), some (.int x3), some (.int x4), some (.int x5), some (.int x6), some (.int x7), some (.int x8)] pl) : mAt 4 206 (some (.int R.1), (mSh, L, R.2)) 104 pl [] (mSh, L, σ) 0 0 := by
  refine mAt.less hl ?_
  unfold c_X12_belows_104 at h
  refine mAt.blk bk_X12_belows_104 ck_X12_belows_104 ?_
  refine q_iload rfl ?_
  exact okc_X12_belows_106 Hk50 Hk64 h ⟨rfl, rfl, rfl, rfl, rfl, rfl, rfl, rfl, trivial⟩
def c_X12_belows_64 (k50 : Int32 → Int32 → Int32 → Int32 → Int32 → Int32 → Int32 → Sg → Option (Int32 × Sg)) : Nat → Int32 → Int32 → Int32 → Int32 → Int32 → Int32 → Int32 → Int32 → Sg → Option (Int32 × Sg)
  | 0, _, _, _, _, _, _, _, _, _ => none
  | n + 1, x1, x2, x3, x4, x5, x6, x7, x8, σ => (if x2 < x8 then (c_X12_belows_134 k50  x1 x2 x3 x4 x5 x6 x7 σ) else ((f_X12_areSo x1 x7 x8 σ).bind fun q4 => (if q4 = 0 then (c_X12_belows_128 k50 (c_X12_belows_64 k50 n)  x1 x2 x3 x4 x5 x6 x7 x8 σ) else (if x5 < 0 then (c_X12_belows_104 k50 (c_X12_belows_64 k50 n)  x1 x2 x3 (x4 + (1 : Int32)) x5 x6 x7 x8 σ) else (if (x5 / (10 : Int32)) = x7 then (c_X12_belows_104 k50 (c_X12_belows_64 k50 n)  x1 x2 x3 (x4 + (1 : Int32)) x5 x6 x7 x8 σ) else (c_X12_belows_106 k50 (c_X12_belows_64 k50 n)  x1 x2 x3 (x4 + (1 : Int32)) x5 x7 x8 (0 : Int32) σ))))))
set_option maxHeartbeats 4000000 in
theorem okc_X12_belows_64 {L : Nat} {k50 : Int32 → Int32 → Int32 → Int32 → Int32 → Int32 → Int32 → Sg → Option (Int32 × Sg)} {R : Int32 × Sg} (Hk50 : ∀ (x1 : Int32) (x2 : Int32) (x3 : Int32) (x4 : Int32) (x5 : Int32) (x6 : Int32) (x7 : Int32) (σ : Sg) (pl : mLoc), k50 x1 x2 x3 x4 x5 x6 x7 σ = some R → mlf [some (.ref 93), some (.int x1), some (.int x2), some (.int x3), some (.int x4), some (.int x5), some (.int x6), some (.int x7), none] pl → mAt 4 206 (some (.int R.1), (mSh, L, R.2)) 50 pl [] (mSh, L, σ) 0 0) {n : Nat} {x1 : Int32} {x2 : Int32} {x3 : Int32} {x4 : Int32} {x5 : Int32} {x6 : Int32} {x7 : Int32} {x8 : Int32} {σ : Sg} {pl : mLoc} (h : c_X12_belows_64 k50 n x1 x2 x3 x4 x5 x6 x7 x8 σ = some R) (hl : mlf [some (.ref 93), some (.int x1), some (.int x2), some (.int x3), some (.int x4), some (.int x5), some (.int x6), some (.int x7), some (.int x8)] pl) : mAt 4 206 (some (.int R.1), (mSh, L, R.2)) 64 pl [] (mSh, L, σ) 0 0 := by
  induction n generalizing x1 x2 x3 x4 x5 x6 x7 x8 σ pl with
  | zero =>
    rw [c_X12_belows_64.eq_1] at h
    cases h
  | succ n ih =>
    refine mAt.less hl ?_
    rw [c_X12_belows_64.eq_2] at h
    refine mAt.blk bk_X12_belows_64 ck_X12_belows_64 ?_
    refine q_iload rfl ?_
    refine q_iload_n rfl ?_
    refine q_ic_gt (fun c3 => ?_) (fun c3 => ?_)
    · rw [if_pos c3] at h
      exact okc_X12_belows_134 Hk50 h ⟨rfl, rfl, rfl, rfl, rfl, rfl, rfl, rfl, trivial⟩
    · rw [if_neg c3] at h
      refine q_aload_n rfl ?_
      refine q_iload_n rfl ?_
      refine q_iload rfl ?_
      refine q_iload rfl ?_
      obtain ⟨q4, e4, h⟩ := mbind h
      refine q_vI3 mcap_0 rfl rfl ob_93 rfl (by decide) (ok_X12_areSo  e4) ?_
      refine q_if_eq (fun c5 => ?_) (fun c5 => ?_)
      · rw [if_pos c5] at h
        exact okc_X12_belows_128 Hk50 (fun _ _ _ _ _ _ _ _ _ _ e hl => ih  e hl) h ⟨rfl, rfl, rfl, rfl, rfl, rfl, rfl, rfl, rfl, trivial⟩
      · rw [if_neg c5] at h
        refine q_iinc rfl rfl ?_
        refine q_iload rfl ?_
        refine q_if_lt (fun c6 => ?_) (fun c6 => ?_)
        · rw [if_pos c6] at h
          exact okc_X12_belows_104 Hk50 (fun _ _ _ _ _ _ _ _ _ _ e hl => ih  e hl) h ⟨rfl, rfl, rfl, rfl, rfl, rfl, rfl, rfl, rfl, trivial⟩
        · rw [if_neg c6] at h
          refine q_iload rfl ?_
          refine q_bipush ?_
          refine q_idiv (by decide) ?_
          refine q_iload rfl ?_
          refine q_ic_eq (fun c7 => ?_) (fun c7 => ?_)
          · rw [if_pos c7] at h
            exact okc_X12_belows_104 Hk50 (fun _ _ _ _ _ _ _ _ _ _ e hl => ih  e hl) h ⟨rfl, rfl, rfl, rfl, rfl, rfl, rfl, rfl, rfl, trivial⟩
          · rw [if_neg c7] at h
            refine q_iconst ?_
            refine q_goto ?_
            exact okc_X12_belows_106 Hk50 (fun _ _ _ _ _ _ _ _ _ _ e hl => ih  e hl) h ⟨rfl, rfl, rfl, rfl, rfl, rfl, rfl, rfl, trivial⟩
def c_X12_belows_50 : Nat → Int32 → Int32 → Int32 → Int32 → Int32 → Int32 → Int32 → Sg → Option (Int32 × Sg)
  | 0, _, _, _, _, _, _, _, _ => none
  | n + 1, x1, x2, x3, x4, x5, x6, x7, σ => (if (σ 94 1) ≤ x7 then (c_X12_belows_140   x3 x4 x5 x6 σ) else (c_X12_belows_64 (c_X12_belows_50  n)  1000 x1 x2 x3 x4 x5 x6 x7 (1 : Int32) σ))
set_option maxHeartbeats 4000000 in
theorem okc_X12_belows_50 {L : Nat} {R : Int32 × Sg} {n : Nat} {x1 : Int32} {x2 : Int32} {x3 : Int32} {x4 : Int32} {x5 : Int32} {x6 : Int32} {x7 : Int32} {σ : Sg} {pl : mLoc} (h : c_X12_belows_50 n x1 x2 x3 x4 x5 x6 x7 σ = some R) (hl : mlf [some (.ref 93), some (.int x1), some (.int x2), some (.int x3), some (.int x4), some (.int x5), some (.int x6), some (.int x7), none] pl) : mAt 4 206 (some (.int R.1), (mSh, L, R.2)) 50 pl [] (mSh, L, σ) 0 0 := by
  induction n generalizing x1 x2 x3 x4 x5 x6 x7 σ pl with
  | zero =>
    rw [c_X12_belows_50.eq_1] at h
    cases h
  | succ n ih =>
    refine mAt.less hl ?_
    rw [c_X12_belows_50.eq_2] at h
    refine mAt.blk bk_X12_belows_50 ck_X12_belows_50 ?_
    refine q_iload rfl ?_
    refine q_aload_n rfl ?_
    refine q_getR ob_93 rfl rfl ?_
    refine q_iconst ?_
    refine q_iald (j := 1) (mrd ar_94 _ _) (by decide) (by decide) ?_
    refine q_ic_ge (fun c2 => ?_) (fun c2 => ?_)
    · rw [if_pos c2] at h
      exact okc_X12_belows_140  h ⟨rfl, rfl, rfl, rfl, trivial⟩
    · rw [if_neg c2] at h
      refine q_iconst ?_
      refine q_istore rfl rfl ?_
      exact okc_X12_belows_64 (fun _ _ _ _ _ _ _ _ _ e hl => ih  e hl) h ⟨rfl, rfl, rfl, rfl, rfl, rfl, rfl, rfl, rfl, trivial⟩
def f_X12_belows (p0 : Int32) (p1 : Int32) (p2 : Int32) (σ : Sg) : Option (Int32 × Sg) := ((f_X12_isWell p0 σ).bind fun q11 => (if q11 = 0 then ((f_X12_finds (1 : Int32) σ).bind fun q13 => (some (q13.1, q13.2))) else ((f_X12_isIn (p1).toInt64 (1 : Int32).toInt64 (5 : Int32).toInt64 σ).bind fun q14 => (if q14 = 0 then ((f_X12_finds (1 : Int32) σ).bind fun q16 => (some (q16.1, q16.2))) else ((f_X12_isIn (p2).toInt64 (0 : Int32).toInt64 (2 : Int32).toInt64 σ).bind fun q17 => (if q17 = 0 then ((f_X12_finds (1 : Int32) σ).bind fun q19 => (some (q19.1, q19.2))) else (c_X12_belows_50   1000 p0 p1 p2 (0 : Int32) (-1 : Int32) (1 : Int32) (0 : Int32) σ)))))))
set_option maxHeartbeats 4000000 in
theorem ok_X12_belows {L : Nat} {p0 : Int32} {p1 : Int32} {p2 : Int32} {σ : Sg} {R : Int32 × Sg} (h : f_X12_belows p0 p1 p2 σ = some R) : mEv 4 206 [.ref 93, .int p0, .int p1, .int p2] (mSh, L, σ) (some (.int R.1)) (mSh, L, R.2) := by
  refine mEv.of (by decide) rfl rfl ?_
  unfold f_X12_belows at h
  refine mAt.blk bk_X12_belows_0 ck_X12_belows_0 ?_
  refine q_aload_n rfl ?_
  refine q_iload_n rfl ?_
  obtain ⟨q11, e11, h⟩ := mbind h
  refine q_vI1 mcap_0 rfl rfl ob_93 rfl (by decide) (ok_X12_isWell  e11) ?_
  refine q_if_eq (fun c12 => ?_) (fun c12 => ?_)
  · rw [if_pos c12] at h
    refine mAt.blk bk_X12_belows_32 ck_X12_belows_32 ?_
    refine q_aload_n rfl ?_
    refine q_iconst ?_
    obtain ⟨q13, e13, h⟩ := mbind h
    refine q_vI1 mcap_0 rfl rfl ob_93 rfl (by decide) (ok_X12_finds  e13) ?_
    have h := Option.some.inj h
    subst h
    exact q_iretI mcap_0 rfl rfl
  · rw [if_neg c12] at h
    refine q_iload_n rfl ?_
    refine q_i2l ?_
    refine q_lconst ?_
    refine q_ldc2_w ?_
    obtain ⟨q14, e14, h⟩ := mbind h
    refine q_sI3 mcap_0 rfl rfl rfl rfl (by decide) (ok_X12_isIn  e14) ?_
    refine q_if_eq (fun c15 => ?_) (fun c15 => ?_)
    · rw [if_pos c15] at h
      refine mAt.blk bk_X12_belows_32 ck_X12_belows_32 ?_
      refine q_aload_n rfl ?_
      refine q_iconst ?_
      obtain ⟨q16, e16, h⟩ := mbind h
      refine q_vI1 mcap_0 rfl rfl ob_93 rfl (by decide) (ok_X12_finds  e16) ?_
      have h := Option.some.inj h
      subst h
      exact q_iretI mcap_0 rfl rfl
    · rw [if_neg c15] at h
      refine q_iload_n rfl ?_
      refine q_i2l ?_
      refine q_lconst ?_
      refine q_ldc2_w ?_
      obtain ⟨q17, e17, h⟩ := mbind h
      refine q_sI3 mcap_0 rfl rfl rfl rfl (by decide) (ok_X12_isIn  e17) ?_
      refine q_if_ne (fun c18 => ?_) (fun c18 => ?_)
      · rw [if_pos c18] at h
        refine mAt.blk bk_X12_belows_32 ck_X12_belows_32 ?_
        refine q_aload_n rfl ?_
        refine q_iconst ?_
        obtain ⟨q19, e19, h⟩ := mbind h
        refine q_vI1 mcap_0 rfl rfl ob_93 rfl (by decide) (ok_X12_finds  e19) ?_
        have h := Option.some.inj h
        subst h
        exact q_iretI mcap_0 rfl rfl
      · rw [if_neg c18] at h
        refine mAt.blk bk_X12_belows_38 ck_X12_belows_38 ?_
        refine q_iconst ?_
        refine q_istore rfl rfl ?_
        refine q_iconst ?_
        refine q_istore rfl rfl ?_
        refine q_iconst ?_
        refine q_istore rfl rfl ?_
        refine q_iconst ?_
        refine q_istore rfl rfl ?_
        exact okc_X12_belows_50  h ⟨rfl, rfl, rfl, rfl, rfl, rfl, rfl, rfl, trivial⟩
def bk_X12_cork_0 : List mI := [(.aload_n 0, 1, 0, 0, 0, []), (.iload_n 1, 1, 0, 0, 0, []), (.invokevirtual 131, 3, 138, 0, 1085, []), (.ifCond .eq 38, 3, 43, 0, 0, []), (.iload_n 2, 1, 0, 0, 0, []), (.i2l, 1, 0, 0, 0, []), (.lconst 1, 1, 0, 0, 0, [(1, 0)]), (.ldc2_w 152, 3, 0, 0, 1112, [(5, 0)]), (.invokestatic 48, 3, 135, 0, 1007, []), (.ifCond .eq 26, 3, 43, 0, 0, []), (.iload_n 3, 1, 0, 0, 0, []), (.i2l, 1, 0, 0, 0, []), (.lconst 1, 1, 0, 0, 0, [(1, 0)]), (.ldc2_w 146, 3, 0, 0, 1107, [(99, 0)]), (.invokestatic 48, 3, 135, 0, 1007, []), (.ifCond .eq 14, 3, 43, 0, 0, []), (.iload 4, 2, 0, 0, 0, []), (.i2l, 1, 0, 0, 0, []), (.lconst 0, 1, 0, 0, 0, [(0, 0)]), (.lconst 1, 1, 0, 0, 0, [(1, 0)]), (.invokestatic 48, 3, 135, 0, 1007, []), (.ifCond .ne 9, 3, 49, 0, 0, [])]
theorem ck_X12_cork_0 : mChk 207 0 bk_X12_cork_0 = true := by decide +kernel
def bk_X12_cork_43 : List mI := [(.aload_n 0, 1, 0, 0, 0, []), (.iconst 1, 1, 0, 0, 0, [(1, 0)]), (.invokevirtual 111, 3, 134, 0, 1010, []), (.ireturn, 1, 0, 0, 0, [])]
theorem ck_X12_cork_43 : mChk 207 43 bk_X12_cork_43 = true := by decide +kernel
def bk_X12_cork_49 : List mI := [(.iconst 0, 1, 0, 0, 0, [(0, 0)]), (.istore 5, 2, 0, 0, 0, []), (.iconst (-1), 1, 0, 0, 0, [((-1), 0)]), (.istore 6, 2, 0, 0, 0, []), (.iconst 0, 1, 0, 0, 0, [(0, 0)]), (.istore 7, 2, 0, 0, 0, [])]
theorem ck_X12_cork_49 : mChk 207 49 bk_X12_cork_49 = true := by decide +kernel
def bk_X12_cork_58 : List mI := [(.iload 7, 2, 0, 0, 0, []), (.aload_n 0, 1, 0, 0, 0, []), (.getfield 7, 3, 12, 0, 937, []), (.iconst 1, 1, 0, 0, 0, [(1, 0)]), (.iaload, 1, 0, 0, 0, []), (.if_icmp .ge 125, 3, 191, 0, 0, []), (.iconst 0, 1, 0, 0, 0, [(0, 0)]), (.istore 8, 2, 0, 0, 0, []), (.iconst 0, 1, 0, 0, 0, [(0, 0)]), (.istore 9, 2, 0, 0, 0, [])]
theorem ck_X12_cork_58 : mChk 207 58 bk_X12_cork_58 = true := by decide +kernel
def bk_X12_cork_75 : List mI := [(.iload 9, 2, 0, 0, 0, []), (.aload_n 0, 1, 0, 0, 0, []), (.getfield 7, 3, 12, 0, 937, []), (.iconst 1, 1, 0, 0, 0, [(1, 0)]), (.iaload, 1, 0, 0, 0, []), (.if_icmp .ge 61, 3, 144, 0, 0, []), (.iconst 1, 1, 0, 0, 0, [(1, 0)]), (.istore 10, 2, 0, 0, 0, [])]
theorem ck_X12_cork_75 : mChk 207 75 bk_X12_cork_75 = true := by decide +kernel
def bk_X12_cork_89 : List mI := [(.iload 10, 2, 0, 0, 0, []), (.iload_n 2, 1, 0, 0, 0, []), (.if_icmp .gt 46, 3, 138, 0, 0, []), (.iload 8, 2, 0, 0, 0, []), (.aload_n 0, 1, 0, 0, 0, []), (.iload_n 1, 1, 0, 0, 0, []), (.iload 9, 2, 0, 0, 0, []), (.iload 10, 2, 0, 0, 0, []), (.invokevirtual 252, 3, 205, 0, 1298, []), (.ifCond .eq 22, 3, 128, 0, 0, []), (.iconst 1, 1, 0, 0, 0, [(1, 0)]), (.iconst 1, 1, 0, 0, 0, [(1, 0)]), (.aload_n 0, 1, 0, 0, 0, []), (.iload 7, 2, 0, 0, 0, []), (.iload_n 3, 1, 0, 0, 0, []), (.iload_n 1, 1, 0, 0, 0, []), (.iload 9, 2, 0, 0, 0, []), (.iload 10, 2, 0, 0, 0, []), (.invokevirtual 243, 3, 198, 0, 1269, []), (.iadd, 1, 0, 0, 0, []), (.ishl, 1, 0, 0, 0, []), (.goto 4, 3, 129, 0, 0, [])]
theorem ck_X12_cork_89 : mChk 207 89 bk_X12_cork_89 = true := by decide +kernel
def bk_X12_cork_128 : List mI := [(.iconst 0, 1, 0, 0, 0, [(0, 0)])]
theorem ck_X12_cork_128 : mChk 207 128 bk_X12_cork_128 = true := by decide +kernel
def bk_X12_cork_129 : List mI := [(.ior, 1, 0, 0, 0, []), (.istore 8, 2, 0, 0, 0, []), (.iinc 10 1, 3, 0, 0, 0, [(1, 0)]), (.goto (-46), 3, 89, 0, 0, [])]
theorem ck_X12_cork_129 : mChk 207 129 bk_X12_cork_129 = true := by decide +kernel
def bk_X12_cork_138 : List mI := [(.iinc 9 1, 3, 0, 0, 0, [(1, 0)]), (.goto (-66), 3, 75, 0, 0, [])]
theorem ck_X12_cork_138 : mChk 207 138 bk_X12_cork_138 = true := by decide +kernel
def bk_X12_cork_144 : List mI := [(.iload 8, 2, 0, 0, 0, []), (.invokestatic 165, 3, 166, 0, 1152, []), (.iload 6, 2, 0, 0, 0, []), (.if_icmp .le 8, 3, 159, 0, 0, []), (.iload 7, 2, 0, 0, 0, []), (.goto 5, 3, 161, 0, 0, [])]
theorem ck_X12_cork_144 : mChk 207 144 bk_X12_cork_144 = true := by decide +kernel
def bk_X12_cork_159 : List mI := [(.iload 5, 2, 0, 0, 0, [])]
theorem ck_X12_cork_159 : mChk 207 159 bk_X12_cork_159 = true := by decide +kernel
def bk_X12_cork_161 : List mI := [(.istore 5, 2, 0, 0, 0, []), (.iload 8, 2, 0, 0, 0, []), (.invokestatic 165, 3, 166, 0, 1152, []), (.iload 6, 2, 0, 0, 0, []), (.if_icmp .le 11, 3, 181, 0, 0, []), (.iload 8, 2, 0, 0, 0, []), (.invokestatic 165, 3, 166, 0, 1152, []), (.goto 5, 3, 183, 0, 0, [])]
theorem ck_X12_cork_161 : mChk 207 161 bk_X12_cork_161 = true := by decide +kernel
def bk_X12_cork_181 : List mI := [(.iload 6, 2, 0, 0, 0, [])]
theorem ck_X12_cork_181 : mChk 207 181 bk_X12_cork_181 = true := by decide +kernel
def bk_X12_cork_183 : List mI := [(.istore 6, 2, 0, 0, 0, []), (.iinc 7 1, 3, 0, 0, 0, [(1, 0)]), (.goto (-130), 3, 58, 0, 0, [])]
theorem ck_X12_cork_183 : mChk 207 183 bk_X12_cork_183 = true := by decide +kernel
def bk_X12_cork_191 : List mI := [(.iload 4, 2, 0, 0, 0, []), (.ifCond .ne 8, 3, 201, 0, 0, []), (.iload 5, 2, 0, 0, 0, []), (.goto 5, 3, 203, 0, 0, [])]
theorem ck_X12_cork_191 : mChk 207 191 bk_X12_cork_191 = true := by decide +kernel
def bk_X12_cork_201 : List mI := [(.iload 6, 2, 0, 0, 0, [])]
theorem ck_X12_cork_201 : mChk 207 201 bk_X12_cork_201 = true := by decide +kernel
def bk_X12_cork_203 : List mI := [(.ireturn, 1, 0, 0, 0, [])]
theorem ck_X12_cork_203 : mChk 207 203 bk_X12_cork_203 = true := by decide +kernel
def c_X12_cork_129 (k58 : Int32 → Int32 → Int32 → Int32 → Int32 → Int32 → Int32 → Sg → Option (Int32 × Sg)) (k75 : Int32 → Int32 → Int32 → Int32 → Int32 → Int32 → Int32 → Int32 → Int32 → Sg → Option (Int32 × Sg)) (k89 : Int32 → Int32 → Int32 → Int32 → Int32 → Int32 → Int32 → Int32 → Int32 → Int32 → Sg → Option (Int32 × Sg)) (x1 : Int32) (x2 : Int32) (x3 : Int32) (x4 : Int32) (x5 : Int32) (x6 : Int32) (x7 : Int32) (x9 : Int32) (x10 : Int32) (s0 : Int32) (s1 : Int32) (σ : Sg) : Option (Int32 × Sg) := (k89 x1 x2 x3 x4 x5 x6 x7 (s0 ||| s1) x9 (x10 + (1 : Int32)) σ)
set_option maxHeartbeats 4000000 in
theorem okc_X12_cork_129 {L : Nat} {k58 : Int32 → Int32 → Int32 → Int32 → Int32 → Int32 → Int32 → Sg → Option (Int32 × Sg)} {k75 : Int32 → Int32 → Int32 → Int32 → Int32 → Int32 → Int32 → Int32 → Int32 → Sg → Option (Int32 × Sg)} {k89 : Int32 → Int32 → Int32 → Int32 → Int32 → Int32 → Int32 → Int32 → Int32 → Int32 → Sg → Option (Int32 × Sg)} {R : Int32 × Sg} (Hk58 : ∀ (x1 : Int32) (x2 : Int32) (x3 : Int32) (x4 : Int32) (x5 : Int32) (x6 : Int32) (x7 : Int32) (σ : Sg) (pl : mLoc), k58 x1 x2 x3 x4 x5 x6 x7 σ = some R → mlf [some (.ref 93), some (.int x1), some (.int x2), some (.int x3), some (.int x4), some (.int x5), some (.int x6), some (.int x7), none, none, none] pl → mAt 4 207 (some (.int R.1), (mSh, L, R.2)) 58 pl [] (mSh, L, σ) 0 0) (Hk75 : ∀ (x1 : Int32) (x2 : Int32) (x3 : Int32) (x4 : Int32) (x5 : Int32) (x6 : Int32) (x7 : Int32) (x8 : Int32) (x9 : Int32) (σ : Sg) (pl : mLoc), k75 x1 x2 x3 x4 x5 x6 x7 x8 x9 σ = some R → mlf [some (.ref 93), some (.int x1), some (.int x2), some (.int x3), some (.int x4), some (.int x5), some (.int x6), some (.int x7), some (.int x8), some (.int x9), none] pl → mAt 4 207 (some (.int R.1), (mSh, L, R.2)) 75 pl [] (mSh, L, σ) 0 0) (Hk89 : ∀ (x1 : Int32) (x2 : Int32) (x3 : Int32) (x4 : Int32) (x5 : Int32) (x6 : Int32) (x7 : Int32) (x8 : Int32) (x9 : Int32) (x10 : Int32) (σ : Sg) (pl : mLoc), k89 x1 x2 x3 x4 x5 x6 x7 x8 x9 x10 σ = some R → mlf [some (.ref 93), some (.int x1), some (.int x2), some (.int x3), some (.int x4), some (.int x5), some (.int x6), some (.int x7), some (.int x8), some (.int x9), some (.int x10)] pl → mAt 4 207 (some (.int R.1), (mSh, L, R.2)) 89 pl [] (mSh, L, σ) 0 0) {x1 : Int32} {x2 : Int32} {x3 : Int32} {x4 : Int32} {x5 : Int32} {x6 : Int32} {x7 : Int32} {x9 : Int32} {x10 : Int32} {s0 : Int32} {s1 : Int32} {σ : Sg} {pl : mLoc} (h : c_X12_cork_129 k58 k75 k89 x1 x2 x3 x4 x5 x6 x7 x9 x10 s0 s1 σ = some R) (hl : mlf [some (.ref 93), some (.int x1), some (.int x2), some (.int x3), some (.int x4), some (.int x5), some (.int x6), some (.int x7), none, some (.int x9), some (.int x10)] pl) : mAt 4 207 (some (.int R.1), (mSh, L, R.2)) 129 pl [.int s1, .int s0] (mSh, L, σ) 0 0 := by
  refine mAt.less hl ?_
  unfold c_X12_cork_129 at h
  refine mAt.blk bk_X12_cork_129 ck_X12_cork_129 ?_
  refine q_ior ?_
  refine q_istore rfl rfl ?_
  refine q_iinc rfl rfl ?_
  refine q_goto ?_
  exact Hk89 _ _ _ _ _ _ _ _ _ _ _ _  h ⟨rfl, rfl, rfl, rfl, rfl, rfl, rfl, rfl, rfl, rfl, rfl, trivial⟩
def c_X12_cork_138 (k58 : Int32 → Int32 → Int32 → Int32 → Int32 → Int32 → Int32 → Sg → Option (Int32 × Sg)) (k75 : Int32 → Int32 → Int32 → Int32 → Int32 → Int32 → Int32 → Int32 → Int32 → Sg → Option (Int32 × Sg)) (x1 : Int32) (x2 : Int32) (x3 : Int32) (x4 : Int32) (x5 : Int32) (x6 : Int32) (x7 : Int32) (x8 : Int32) (x9 : Int32) (σ : Sg) : Option (Int32 × Sg) := (k75 x1 x2 x3 x4 x5 x6 x7 x8 (x9 + (1 : Int32)) σ)
set_option maxHeartbeats 4000000 in
theorem okc_X12_cork_138 {L : Nat} {k58 : Int32 → Int32 → Int32 → Int32 → Int32 → Int32 → Int32 → Sg → Option (Int32 × Sg)} {k75 : Int32 → Int32 → Int32 → Int32 → Int32 → Int32 → Int32 → Int32 → Int32 → Sg → Option (Int32 × Sg)} {R : Int32 × Sg} (Hk58 : ∀ (x1 : Int32) (x2 : Int32) (x3 : Int32) (x4 : Int32) (x5 : Int32) (x6 : Int32) (x7 : Int32) (σ : Sg) (pl : mLoc), k58 x1 x2 x3 x4 x5 x6 x7 σ = some R → mlf [some (.ref 93), some (.int x1), some (.int x2), some (.int x3), some (.int x4), some (.int x5), some (.int x6), some (.int x7), none, none, none] pl → mAt 4 207 (some (.int R.1), (mSh, L, R.2)) 58 pl [] (mSh, L, σ) 0 0) (Hk75 : ∀ (x1 : Int32) (x2 : Int32) (x3 : Int32) (x4 : Int32) (x5 : Int32) (x6 : Int32) (x7 : Int32) (x8 : Int32) (x9 : Int32) (σ : Sg) (pl : mLoc), k75 x1 x2 x3 x4 x5 x6 x7 x8 x9 σ = some R → mlf [some (.ref 93), some (.int x1), some (.int x2), some (.int x3), some (.int x4), some (.int x5), some (.int x6), some (.int x7), some (.int x8), some (.int x9), none] pl → mAt 4 207 (some (.int R.1), (mSh, L, R.2)) 75 pl [] (mSh, L, σ) 0 0) {x1 : Int32} {x2 : Int32} {x3 : Int32} {x4 : Int32} {x5 : Int32} {x6 : Int32} {x7 : Int32} {x8 : Int32} {x9 : Int32} {σ : Sg} {pl : mLoc} (h : c_X12_cork_138 k58 k75 x1 x2 x3 x4 x5 x6 x7 x8 x9 σ = some R) (hl : mlf [some (.ref 93), some (.int x1), some (.int x2), some (.int x3), some (.int x4), some (.int x5), some (.int x6), some (.int x7), some (.int x8), some (.int x9), none] pl) : mAt 4 207 (some (.int R.1), (mSh, L, R.2)) 138 pl [] (mSh, L, σ) 0 0 := by
  refine mAt.less hl ?_
  unfold c_X12_cork_138 at h
  refine mAt.blk bk_X12_cork_138 ck_X12_cork_138 ?_
  refine q_iinc rfl rfl ?_
  refine q_goto ?_
  exact Hk75 _ _ _ _ _ _ _ _ _ _ _  h ⟨rfl, rfl, rfl, rfl, rfl, rfl, rfl, rfl, rfl, rfl, trivial⟩
def c_X12_cork_183 (k58 : Int32 → Int32 → Int32 → Int32 → Int32 → Int32 → Int32 → Sg → Option (Int32 × Sg)) (x1 : Int32) (x2 : Int32) (x3 : Int32) (x4 : Int32) (x5 : Int32) (x7 : Int32) (s0 : Int32) (σ : Sg) : Option (Int32 × Sg) := (k58 x1 x2 x3 x4 x5 s0 (x7 + (1 : Int32)) σ)
set_option maxHeartbeats 4000000 in
theorem okc_X12_cork_183 {L : Nat} {k58 : Int32 → Int32 → Int32 → Int32 → Int32 → Int32 → Int32 → Sg → Option (Int32 × Sg)} {R : Int32 × Sg} (Hk58 : ∀ (x1 : Int32) (x2 : Int32) (x3 : Int32) (x4 : Int32) (x5 : Int32) (x6 : Int32) (x7 : Int32) (σ : Sg) (pl : mLoc), k58 x1 x2 x3 x4 x5 x6 x7 σ = some R → mlf [some (.ref 93), some (.int x1), some (.int x2), some (.int x3), some (.int x4), some (.int x5), some (.int x6), some (.int x7), none, none, none] pl → mAt 4 207 (some (.int R.1), (mSh, L, R.2)) 58 pl [] (mSh, L, σ) 0 0) {x1 : Int32} {x2 : Int32} {x3 : Int32} {x4 : Int32} {x5 : Int32} {x7 : Int32} {s0 : Int32} {σ : Sg} {pl : mLoc} (h : c_X12_cork_183 k58 x1 x2 x3 x4 x5 x7 s0 σ = some R) (hl : mlf [some (.ref 93), some (.int x1), some (.int x2), some (.int x3), some (.int x4), some (.int x5), none, some (.int x7), none, none, none] pl) : mAt 4 207 (some (.int R.1), (mSh, L, R.2)) 183 pl [.int s0] (mSh, L, σ) 0 0 := by
  refine mAt.less hl ?_
  unfold c_X12_cork_183 at h
  refine mAt.blk bk_X12_cork_183 ck_X12_cork_183 ?_
  refine q_istore rfl rfl ?_
  refine q_iinc rfl rfl ?_
  refine q_goto ?_
  exact Hk58 _ _ _ _ _ _ _ _ _  h ⟨rfl, rfl, rfl, rfl, rfl, rfl, rfl, rfl, trivial⟩
def c_X12_cork_191 (x4 : Int32) (x5 : Int32) (x6 : Int32) (σ : Sg) : Option (Int32 × Sg) := (if x4 = 0 then (some (x5, σ)) else (some (x6, σ)))
set_option maxHeartbeats 4000000 in
theorem okc_X12_cork_191 {L : Nat} {R : Int32 × Sg} {x4 : Int32} {x5 : Int32} {x6 : Int32} {σ : Sg} {pl : mLoc} (h : c_X12_cork_191 x4 x5 x6 σ = some R) (hl : mlf [none, none, none, none, some (.int x4), some (.int x5), some (.int x6), none, none, none, none] pl) : mAt 4 207 (some (.int R.1), (mSh, L, R.2)) 191 pl [] (mSh, L, σ) 0 0 := by
  refine mAt.less hl ?_
  unfold c_X12_cork_191 at h
  refine mAt.blk bk_X12_cork_191 ck_X12_cork_191 ?_
  refine q_iload rfl ?_
  refine q_if_ne (fun c14 => ?_) (fun c14 => ?_)
  · rw [if_pos c14] at h
    refine q_iload rfl ?_
    refine q_goto ?_
    refine mAt.blk bk_X12_cork_203 ck_X12_cork_203 ?_
    have h := Option.some.inj h
    subst h
    exact q_iretI mcap_0 rfl rfl
  · rw [if_neg c14] at h
    refine mAt.blk bk_X12_cork_201 ck_X12_cork_201 ?_
    refine q_iload rfl ?_
    refine mAt.blk bk_X12_cork_203 ck_X12_cork_203 ?_
    have h := Option.some.inj h
    subst h
    exact q_iretI mcap_0 rfl rfl
def c_X12_cork_89 (k58 : Int32 → Int32 → Int32 → Int32 → Int32 → Int32 → Int32 → Sg → Option (Int32 × Sg)) (k75 : Int32 → Int32 → Int32 → Int32 → Int32 → Int32 → Int32 → Int32 → Int32 → Sg → Option (Int32 × Sg)) : Nat → Int32 → Int32 → Int32 → Int32 → Int32 → Int32 → Int32 → Int32 → Int32 → Int32 → Sg → Option (Int32 × Sg)
  | 0, _, _, _, _, _, _, _, _, _, _, _ => none
  | n + 1, x1, x2, x3, x4, x5, x6, x7, x8, x9, x10, σ => (if x2 < x10 then (c_X12_cork_138 k58 k75  x1 x2 x3 x4 x5 x6 x7 x8 x9 σ) else ((f_X12_areSo x1 x9 x10 σ).bind fun q6 => (if q6 = 0 then (c_X12_cork_129 k58 k75 (c_X12_cork_89 k58 k75 n)  x1 x2 x3 x4 x5 x6 x7 x9 x10 x8 (0 : Int32) σ) else ((f_X12_walk x7 x3 x1 x9 x10 σ).bind fun q8 => (c_X12_cork_129 k58 k75 (c_X12_cork_89 k58 k75 n)  x1 x2 x3 x4 x5 x6 x7 x9 x10 x8 ((1 : Int32) <<< (((1 : Int32) + q8) &&& 31)) σ)))))
set_option maxHeartbeats 4000000 in
theorem okc_X12_cork_89 {L : Nat} {k58 : Int32 → Int32 → Int32 → Int32 → Int32 → Int32 → Int32 → Sg → Option (Int32 × Sg)} {k75 : Int32 → Int32 → Int32 → Int32 → Int32 → Int32 → Int32 → Int32 → Int32 → Sg → Option (Int32 × Sg)} {R : Int32 × Sg} (Hk58 : ∀ (x1 : Int32) (x2 : Int32) (x3 : Int32) (x4 : Int32) (x5 : Int32) (x6 : Int32) (x7 : Int32) (σ : Sg) (pl : mLoc), k58 x1 x2 x3 x4 x5 x6 x7 σ = some R → mlf [some (.ref 93), some (.int x1), some (.int x2), some (.int x3), some (.int x4), some (.int x5), some (.int x6), some (.int x7), none, none, none] pl → mAt 4 207 (some (.int R.1), (mSh, L, R.2)) 58 pl [] (mSh, L, σ) 0 0) (Hk75 : ∀ (x1 : Int32) (x2 : Int32) (x3 : Int32) (x4 : Int32) (x5 : Int32) (x6 : Int32) (x7 : Int32) (x8 : Int32) (x9 : Int32) (σ : Sg) (pl : mLoc), k75 x1 x2 x3 x4 x5 x6 x7 x8 x9 σ = some R → mlf [some (.ref 93), some (.int x1), some (.int x2), some (.int x3), some (.int x4), some (.int x5), some (.int x6), some (.int x7), some (.int x8), some (.int x9), none] pl → mAt 4 207 (some (.int R.1), (mSh, L, R.2)) 75 pl [] (mSh, L, σ) 0 0) {n : Nat} {x1 : Int32} {x2 : Int32} {x3 : Int32} {x4 : Int32} {x5 : Int32} {x6 : Int32} {x7 : Int32} {x8 : Int32} {x9 : Int32} {x10 : Int32} {σ : Sg} {pl : mLoc} (h : c_X12_cork_89 k58 k75 n x1 x2 x3 x4 x5 x6 x7 x8 x9 x10 σ = some R) (hl : mlf [some (.ref 93), some (.int x1), some (.int x2), some (.int x3), some (.int x4), some (.int x5), some (.int x6), some (.int x7), some (.int x8), some (.int x9), some (.int x10)] pl) : mAt 4 207 (some (.int R.1), (mSh, L, R.2)) 89 pl [] (mSh, L, σ) 0 0 := by
  induction n generalizing x1 x2 x3 x4 x5 x6 x7 x8 x9 x10 σ pl with
  | zero =>
    rw [c_X12_cork_89.eq_1] at h
    cases h
  | succ n ih =>
    refine mAt.less hl ?_
    rw [c_X12_cork_89.eq_2] at h
    refine mAt.blk bk_X12_cork_89 ck_X12_cork_89 ?_
    refine q_iload rfl ?_
    refine q_iload_n rfl ?_
    refine q_ic_gt (fun c5 => ?_) (fun c5 => ?_)
    · rw [if_pos c5] at h
      exact okc_X12_cork_138 Hk58 Hk75 h ⟨rfl, rfl, rfl, rfl, rfl, rfl, rfl, rfl, rfl, rfl, trivial⟩
    · rw [if_neg c5] at h
      refine q_iload rfl ?_
      refine q_aload_n rfl ?_
      refine q_iload_n rfl ?_
      refine q_iload rfl ?_
      refine q_iload rfl ?_
      obtain ⟨q6, e6, h⟩ := mbind h
      refine q_vI3 mcap_0 rfl rfl ob_93 rfl (by decide) (ok_X12_areSo  e6) ?_
      refine q_if_eq (fun c7 => ?_) (fun c7 => ?_)
      · rw [if_pos c7] at h
        refine mAt.blk bk_X12_cork_128 ck_X12_cork_128 ?_
        refine q_iconst ?_
        exact okc_X12_cork_129 Hk58 Hk75 (fun _ _ _ _ _ _ _ _ _ _ _ _ e hl => ih  e hl) h ⟨rfl, rfl, rfl, rfl, rfl, rfl, rfl, rfl, rfl, rfl, trivial⟩
      · rw [if_neg c7] at h
        refine q_iconst ?_
        refine q_iconst ?_
        refine q_aload_n rfl ?_
        refine q_iload rfl ?_
        refine q_iload_n rfl ?_
        refine q_iload_n rfl ?_
        refine q_iload rfl ?_
        refine q_iload rfl ?_
        obtain ⟨q8, e8, h⟩ := mbind h
        refine q_vI5 mcap_0 rfl rfl ob_93 rfl (by decide) (ok_X12_walk  e8) ?_
        refine q_iadd ?_
        refine q_ishl ?_
        refine q_goto ?_
        exact okc_X12_cork_129 Hk58 Hk75 (fun _ _ _ _ _ _ _ _ _ _ _ _ e hl => ih  e hl) h ⟨rfl, rfl, rfl, rfl, rfl, rfl, rfl, rfl, rfl, rfl, trivial⟩
def c_X12_cork_161 (k58 : Int32 → Int32 → Int32 → Int32 → Int32 → Int32 → Int32 → Sg → Option (Int32 × Sg)) (x1 : Int32) (x2 : Int32) (x3 : Int32) (x4 : Int32) (x6 : Int32) (x7 : Int32) (x8 : Int32) (s0 : Int32) (σ : Sg) : Option (Int32 × Sg) := ((f_X12_many x8 σ).bind fun q11 => (if q11 ≤ x6 then (c_X12_cork_183 k58  x1 x2 x3 x4 s0 x7 x6 σ) else ((f_X12_many x8 σ).bind fun q13 => (c_X12_cork_183 k58  x1 x2 x3 x4 s0 x7 q13 σ))))
set_option maxHeartbeats 4000000 in
theorem okc_X12_cork_161 {L : Nat} {k58 : Int32 → Int32 → Int32 → Int32 → Int32 → Int32 → Int32 → Sg → Option (Int32 × Sg)} {R : Int32 × Sg} (Hk58 : ∀ (x1 : Int32) (x2 : Int32) (x3 : Int32) (x4 : Int32) (x5 : Int32) (x6 : Int32) (x7 : Int32) (σ : Sg) (pl : mLoc), k58 x1 x2 x3 x4 x5 x6 x7 σ = some R → mlf [some (.ref 93), some (.int x1), some (.int x2), some (.int x3), some (.int x4), some (.int x5), some (.int x6), some (.int x7), none, none, none] pl → mAt 4 207 (some (.int R.1), (mSh, L, R.2)) 58 pl [] (mSh, L, σ) 0 0) {x1 : Int32} {x2 : Int32} {x3 : Int32} {x4 : Int32} {x6 : Int32} {x7 : Int32} {x8 : Int32} {s0 : Int32} {σ : Sg} {pl : mLoc} (h : c_X12_cork_161 k58 x1 x2 x3 x4 x6 x7 x8 s0 σ = some R) (hl : mlf [some (.ref 93), some (.int x1), some (.int x2), some (.int x3), some (.int x4), none, some (.int x6), some (.int x7), some (.int x8), none, none] pl) : mAt 4 207 (some (.int R.1), (mSh, L, R.2)) 161 pl [.int s0] (mSh, L, σ) 0 0 := by
  refine mAt.less hl ?_
  unfold c_X12_cork_161 at h
  refine mAt.blk bk_X12_cork_161 ck_X12_cork_161 ?_
  refine q_istore rfl rfl ?_
  refine q_iload rfl ?_
  obtain ⟨q11, e11, h⟩ := mbind h
  refine q_sI1 mcap_0 rfl rfl rfl rfl (by decide) (ok_X12_many  e11) ?_
  refine q_iload rfl ?_
  refine q_ic_le (fun c12 => ?_) (fun c12 => ?_)
  · rw [if_pos c12] at h
    refine mAt.blk bk_X12_cork_181 ck_X12_cork_181 ?_
    refine q_iload rfl ?_
    exact okc_X12_cork_183 Hk58 h ⟨rfl, rfl, rfl, rfl, rfl, rfl, rfl, trivial⟩
  · rw [if_neg c12] at h
    refine q_iload rfl ?_
    obtain ⟨q13, e13, h⟩ := mbind h
    refine q_sI1 mcap_0 rfl rfl rfl rfl (by decide) (ok_X12_many  e13) ?_
    refine q_goto ?_
    exact okc_X12_cork_183 Hk58 h ⟨rfl, rfl, rfl, rfl, rfl, rfl, rfl, trivial⟩
def c_X12_cork_144 (k58 : Int32 → Int32 → Int32 → Int32 → Int32 → Int32 → Int32 → Sg → Option (Int32 × Sg)) (x1 : Int32) (x2 : Int32) (x3 : Int32) (x4 : Int32) (x5 : Int32) (x6 : Int32) (x7 : Int32) (x8 : Int32) (σ : Sg) : Option (Int32 × Sg) := ((f_X12_many x8 σ).bind fun q9 => (if q9 ≤ x6 then (c_X12_cork_161 k58  x1 x2 x3 x4 x6 x7 x8 x5 σ) else (c_X12_cork_161 k58  x1 x2 x3 x4 x6 x7 x8 x7 σ)))
set_option maxHeartbeats 4000000 in
theorem okc_X12_cork_144 {L : Nat} {k58 : Int32 → Int32 → Int32 → Int32 → Int32 → Int32 → Int32 → Sg → Option (Int32 × Sg)} {R : Int32 × Sg} (Hk58 : ∀ (x1 : Int32) (x2 : Int32) (x3 : Int32) (x4 : Int32) (x5 : Int32) (x6 : Int32) (x7 : Int32) (σ : Sg) (pl : mLoc), k58 x1 x2 x3 x4 x5 x6 x7 σ = some R → mlf [some (.ref 93), some (.int x1), some (.int x2), some (.int x3), some (.int x4), some (.int x5), some (.int x6), some (.int x7), none, none, none] pl → mAt 4 207 (some (.int R.1), (mSh, L, R.2)) 58 pl [] (mSh, L, σ) 0 0) {x1 : Int32} {x2 : Int32} {x3 : Int32} {x4 : Int32} {x5 : Int32} {x6 : Int32} {x7 : Int32} {x8 : Int32} {σ : Sg} {pl : mLoc} (h : c_X12_cork_144 k58 x1 x2 x3 x4 x5 x6 x7 x8 σ = some R) (hl : mlf [some (.ref 93), some (.int x1), some (.int x2), some (.int x3), some (.int x4), some (.int x5), some (.int x6), some (.int x7), some (.int x8), none, none] pl) : mAt 4 207 (some (.int R.1), (mSh, L, R.2)) 144 pl [] (mSh, L, σ) 0 0 := by
  refine mAt.less hl ?_
  unfold c_X12_cork_144 at h
  refine mAt.blk bk_X12_cork_144 ck_X12_cork_144 ?_
  refine q_iload rfl ?_
  obtain ⟨q9, e9, h⟩ := mbind h
  refine q_sI1 mcap_0 rfl rfl rfl rfl (by decide) (ok_X12_many  e9) ?_
  refine q_iload rfl ?_
  refine q_ic_le (fun c10 => ?_) (fun c10 => ?_)
  · rw [if_pos c10] at h
    refine mAt.blk bk_X12_cork_159 ck_X12_cork_159 ?_
    refine q_iload rfl ?_
    exact okc_X12_cork_161 Hk58 h ⟨rfl, rfl, rfl, rfl, rfl, rfl, rfl, rfl, trivial⟩
  · rw [if_neg c10] at h
    refine q_iload rfl ?_
    refine q_goto ?_
    exact okc_X12_cork_161 Hk58 h ⟨rfl, rfl, rfl, rfl, rfl, rfl, rfl, rfl, trivial⟩
def c_X12_cork_75 (k58 : Int32 → Int32 → Int32 → Int32 → Int32 → Int32 → Int32 → Sg → Option (Int32 × Sg)) : Nat → Int32 → Int32 → Int32 → Int32 → Int32 → Int32 → Int32 → Int32 → Int32 → Sg → Option (Int32 × Sg)
  | 0, _, _, _, _, _, _, _, _, _, _ => none
  | n + 1, x1, x2, x3, x4, x5, x6, x7, x8, x9, σ => (if (σ 94 1) ≤ x9 then (c_X12_cork_144 k58  x1 x2 x3 x4 x5 x6 x7 x8 σ) else (c_X12_cork_89 k58 (c_X12_cork_75 k58 n)  1000 x1 x2 x3 x4 x5 x6 x7 x8 x9 (1 : Int32) σ))
set_option maxHeartbeats 4000000 in
theorem okc_X12_cork_75 {L : Nat} {k58 : Int32 → Int32 → Int32 → Int32 → Int32 → Int32 → Int32 → Sg → Option (Int32 × Sg)} {R : Int32 × Sg} (Hk58 : ∀ (x1 : Int32) (x2 : Int32) (x3 : Int32) (x4 : Int32) (x5 : Int32) (x6 : Int32) (x7 : Int32) (σ : Sg) (pl : mLoc), k58 x1 x2 x3 x4 x5 x6 x7 σ = some R → mlf [some (.ref 93), some (.int x1), some (.int x2), some (.int x3), some (.int x4), some (.int x5), some (.int x6), some (.int x7), none, none, none] pl → mAt 4 207 (some (.int R.1), (mSh, L, R.2)) 58 pl [] (mSh, L, σ) 0 0) {n : Nat} {x1 : Int32} {x2 : Int32} {x3 : Int32} {x4 : Int32} {x5 : Int32} {x6 : Int32} {x7 : Int32} {x8 : Int32} {x9 : Int32} {σ : Sg} {pl : mLoc} (h : c_X12_cork_75 k58 n x1 x2 x3 x4 x5 x6 x7 x8 x9 σ = some R) (hl : mlf [some (.ref 93), some (.int x1), some (.int x2), some (.int x3), some (.int x4), some (.int x5), some (.int x6), some (.int x7), some (.int x8), some (.int x9), none] pl) : mAt 4 207 (some (.int R.1), (mSh, L, R.2)) 75 pl [] (mSh, L, σ) 0 0 := by
  induction n generalizing x1 x2 x3 x4 x5 x6 x7 x8 x9 σ pl with
  | zero =>
    rw [c_X12_cork_75.eq_1] at h
    cases h
  | succ n ih =>
    refine mAt.less hl ?_
    rw [c_X12_cork_75.eq_2] at h
    refine mAt.blk bk_X12_cork_75 ck_X12_cork_75 ?_
    refine q_iload rfl ?_
    refine q_aload_n rfl ?_
    refine q_getR ob_93 rfl rfl ?_
    refine q_iconst ?_
    refine q_iald (j := 1) (mrd ar_94 _ _) (by decide) (by decide) ?_
    refine q_ic_ge (fun c4 => ?_) (fun c4 => ?_)
    · rw [if_pos c4] at h
      exact okc_X12_cork_144 Hk58 h ⟨rfl, rfl, rfl, rfl, rfl, rfl, rfl, rfl, rfl, trivial⟩
    · rw [if_neg c4] at h
      refine q_iconst ?_
      refine q_istore rfl rfl ?_
      exact okc_X12_cork_89 Hk58 (fun _ _ _ _ _ _ _ _ _ _ _ e hl => ih  e hl) h ⟨rfl, rfl, rfl, rfl, rfl, rfl, rfl, rfl, rfl, rfl, rfl, trivial⟩
def c_X12_cork_58 : Nat → Int32 → Int32 → Int32 → Int32 → Int32 → Int32 → Int32 → Sg → Option (Int32 × Sg)
  | 0, _, _, _, _, _, _, _, _ => none
  | n + 1, x1, x2, x3, x4, x5, x6, x7, σ => (if (σ 94 1) ≤ x7 then (c_X12_cork_191   x4 x5 x6 σ) else (c_X12_cork_75 (c_X12_cork_58  n)  1000 x1 x2 x3 x4 x5 x6 x7 (0 : Int32) (0 : Int32) σ))
set_option maxHeartbeats 4000000 in
theorem okc_X12_cork_58 {L : Nat} {R : Int32 × Sg} {n : Nat} {x1 : Int32} {x2 : Int32} {x3 : Int32} {x4 : Int32} {x5 : Int32} {x6 : Int32} {x7 : Int32} {σ : Sg} {pl : mLoc} (h : c_X12_cork_58 n x1 x2 x3 x4 x5 x6 x7 σ = some R) (hl : mlf [some (.ref 93), some (.int x1), some (.int x2), some (.int x3), some (.int x4), some (.int x5), some (.int x6), some (.int x7), none, none, none] pl) : mAt 4 207 (some (.int R.1), (mSh, L, R.2)) 58 pl [] (mSh, L, σ) 0 0 := by
  induction n generalizing x1 x2 x3 x4 x5 x6 x7 σ pl with
  | zero =>
    rw [c_X12_cork_58.eq_1] at h
    cases h
  | succ n ih =>
    refine mAt.less hl ?_
    rw [c_X12_cork_58.eq_2] at h
    refine mAt.blk bk_X12_cork_58 ck_X12_cork_58 ?_
    refine q_iload rfl ?_
    refine q_aload_n rfl ?_
    refine q_getR ob_93 rfl rfl ?_
    refine q_iconst ?_
    refine q_iald (j := 1) (mrd ar_94 _ _) (by decide) (by decide) ?_
    refine q_ic_ge (fun c2 => ?_) (fun c2 => ?_)
    · rw [if_pos c2] at h
      exact okc_X12_cork_191  h ⟨rfl, rfl, rfl, trivial⟩
    · rw [if_neg c2] at h
      refine q_iconst ?_
      refine q_istore rfl rfl ?_
      refine q_iconst ?_
      refine q_istore rfl rfl ?_
      exact okc_X12_cork_75 (fun _ _ _ _ _ _ _ _ _ e hl => ih  e hl) h ⟨rfl, rfl, rfl, rfl, rfl, rfl, rfl, rfl, rfl, rfl, trivial⟩
def f_X12_cork (p0 : Int32) (p1 : Int32) (p2 : Int32) (p3 : Int32) (σ : Sg) : Option (Int32 × Sg) := ((f_X12_isWell p0 σ).bind fun q15 => (if q15 = 0 then ((f_X12_finds (1 : Int32) σ).bind fun q17 => (some (q17.1, q17.2))) else ((f_X12_isIn (p1).toInt64 (1 : Int32).toInt64 (5 : Int32).toInt64 σ).bind fun q18 => (if q18 = 0 then ((f_X12_finds (1 : Int32) σ).bind fun q20 => (some (q20.1, q20.2))) else ((f_X12_isIn (p2).toInt64 (1 : Int32).toInt64 (99 : Int32).toInt64 σ).bind fun q21 => (if q21 = 0 then ((f_X12_finds (1 : Int32) σ).bind fun q23 => (some (q23.1, q23.2))) else ((f_X12_isIn (p3).toInt64 (0 : Int32).toInt64 (1 : Int32).toInt64 σ).bind fun q24 => (if q24 = 0 then ((f_X12_finds (1 : Int32) σ).bind fun q26 => (some (q26.1, q26.2))) else (c_X12_cork_58   1000 p0 p1 p2 p3 (0 : Int32) (-1 : Int32) (0 : Int32) σ)))))))))
set_option maxHeartbeats 4000000 in
theorem ok_X12_cork {L : Nat} {p0 : Int32} {p1 : Int32} {p2 : Int32} {p3 : Int32} {σ : Sg} {R : Int32 × Sg} (h : f_X12_cork p0 p1 p2 p3 σ = some R) : mEv 4 207 [.ref 93, .int p0, .int p1, .int p2, .int p3] (mSh, L, σ) (some (.int R.1)) (mSh, L, R.2) := by
  refine mEv.of (by decide) rfl rfl ?_
  unfold f_X12_cork at h
  refine mAt.blk bk_X12_cork_0 ck_X12_cork_0 ?_
  refine q_aload_n rfl ?_
  refine q_iload_n rfl ?_
  obtain ⟨q15, e15, h⟩ := mbind h
  refine q_vI1 mcap_0 rfl rfl ob_93 rfl (by decide) (ok_X12_isWell  e15) ?_
  refine q_if_eq (fun c16 => ?_) (fun c16 => ?_)
  · rw [if_pos c16] at h
    refine mAt.blk bk_X12_cork_43 ck_X12_cork_43 ?_
    refine q_aload_n rfl ?_
    refine q_iconst ?_
    obtain ⟨q17, e17, h⟩ := mbind h
    refine q_vI1 mcap_0 rfl rfl ob_93 rfl (by decide) (ok_X12_finds  e17) ?_
    have h := Option.some.inj h
    subst h
    exact q_iretI mcap_0 rfl rfl
  · rw [if_neg c16] at h
    refine q_iload_n rfl ?_
    refine q_i2l ?_
    refine q_lconst ?_
    refine q_ldc2_w ?_
    obtain ⟨q18, e18, h⟩ := mbind h
    refine q_sI3 mcap_0 rfl rfl rfl rfl (by decide) (ok_X12_isIn  e18) ?_
    refine q_if_eq (fun c19 => ?_) (fun c19 => ?_)
    · rw [if_pos c19] at h
      refine mAt.blk bk_X12_cork_43 ck_X12_cork_43 ?_
      refine q_aload_n rfl ?_
      refine q_iconst ?_
      obtain ⟨q20, e20, h⟩ := mbind h
      refine q_vI1 mcap_0 rfl rfl ob_93 rfl (by decide) (ok_X12_finds  e20) ?_
      have h := Option.some.inj h
      subst h
      exact q_iretI mcap_0 rfl rfl
    · rw [if_neg c19] at h
      refine q_iload_n rfl ?_
      refine q_i2l ?_
      refine q_lconst ?_
      refine q_ldc2_w ?_
      obtain ⟨q21, e21, h⟩ := mbind h
      refine q_sI3 mcap_0 rfl rfl rfl rfl (by decide) (ok_X12_isIn  e21) ?_
      refine q_if_eq (fun c22 => ?_) (fun c22 => ?_)
      · rw [if_pos c22] at h
        refine mAt.blk bk_X12_cork_43 ck_X12_cork_43 ?_
        refine q_aload_n rfl ?_
        refine q_iconst ?_
        obtain ⟨q23, e23, h⟩ := mbind h
        refine q_vI1 mcap_0 rfl rfl ob_93 rfl (by decide) (ok_X12_finds  e23) ?_
        have h := Option.some.inj h
        subst h
        exact q_iretI mcap_0 rfl rfl
      · rw [if_neg c22] at h
        refine q_iload rfl ?_
        refine q_i2l ?_
        refine q_lconst ?_
        refine q_lconst ?_
        obtain ⟨q24, e24, h⟩ := mbind h
        refine q_sI3 mcap_0 rfl rfl rfl rfl (by decide) (ok_X12_isIn  e24) ?_
        refine q_if_ne (fun c25 => ?_) (fun c25 => ?_)
        · rw [if_pos c25] at h
          refine mAt.blk bk_X12_cork_43 ck_X12_cork_43 ?_
          refine q_aload_n rfl ?_
          refine q_iconst ?_
          obtain ⟨q26, e26, h⟩ := mbind h
          refine q_vI1 mcap_0 rfl rfl ob_93 rfl (by decide) (ok_X12_finds  e26) ?_
          have h := Option.some.inj h
          subst h
          exact q_iretI mcap_0 rfl rfl
        · rw [if_neg c25] at h
          refine mAt.blk bk_X12_cork_49 ck_X12_cork_49 ?_
          refine q_iconst ?_
          refine q_istore rfl rfl ?_
          refine q_iconst ?_
          refine q_istore rfl rfl ?_
          refine q_iconst ?_
          refine q_istore rfl rfl ?_
          exact okc_X12_cork_58  h ⟨rfl, rfl, rfl, rfl, rfl, rfl, rfl, rfl, trivial⟩
def bk_X12_seed_0 : List mI := [(.aload_n 0, 1, 0, 0, 0, []), (.getfield 7, 3, 12, 0, 937, []), (.iconst 4, 1, 0, 0, 0, [(4, 0)]), (.iaload, 1, 0, 0, 0, []), (.istore_n 2, 1, 0, 0, 0, []), (.aload_n 0, 1, 0, 0, 0, []), (.getfield 7, 3, 12, 0, 937, []), (.iconst 4, 1, 0, 0, 0, [(4, 0)]), (.iload_n 1, 1, 0, 0, 0, []), (.iastore, 1, 0, 0, 0, []), (.iload_n 2, 1, 0, 0, 0, []), (.ireturn, 1, 0, 0, 0, [])]
theorem ck_X12_seed_0 : mChk 208 0 bk_X12_seed_0 = true := by decide +kernel
def f_X12_seed (p0 : Int32) (σ : Sg) : Option (Int32 × Sg) := (some ((σ 94 4), (mup σ 94 4 p0)))
set_option maxHeartbeats 4000000 in
theorem ok_X12_seed {L : Nat} {p0 : Int32} {σ : Sg} {R : Int32 × Sg} (h : f_X12_seed p0 σ = some R) : mEv 0 208 [.ref 93, .int p0] (mSh, L, σ) (some (.int R.1)) (mSh, L, R.2) := by
  refine mEv.of (by decide) rfl rfl ?_
  unfold f_X12_seed at h
  refine mAt.blk bk_X12_seed_0 ck_X12_seed_0 ?_
  refine q_aload_n rfl ?_
  refine q_getR ob_93 rfl rfl ?_
  refine q_iconst ?_
  refine q_iald (j := 4) (mrd ar_94 _ _) (by decide) (by decide) ?_
  refine q_istore_n rfl rfl ?_
  refine q_aload_n rfl ?_
  refine q_getR ob_93 rfl rfl ?_
  refine q_iconst ?_
  refine q_iload_n rfl ?_
  refine q_iast (j := 4) (by decide) ar_94 (by decide) ?_
  refine q_iload_n rfl ?_
  have h := Option.some.inj h
  subst h
  exact q_iretI mcap_0 rfl rfl
def bk_X12_ran_0 : List mI := [(.aload_n 0, 1, 0, 0, 0, []), (.getfield 256, 3, 12, 15, 952, []), (.bipush 40, 2, 0, 0, 0, [(40, 0)]), (.if_icmp .ge 23, 3, 29, 0, 0, []), (.aload_n 0, 1, 0, 0, 0, []), (.getfield 32, 3, 12, 14, 951, []), (.aload_n 0, 1, 0, 0, 0, []), (.getfield 256, 3, 12, 15, 952, []), (.iload_n 1, 1, 0, 0, 0, []), (.iastore, 1, 0, 0, 0, []), (.aload_n 0, 1, 0, 0, 0, []), (.dup, 1, 0, 0, 0, []), (.getfield 256, 3, 12, 15, 952, []), (.iconst 1, 1, 0, 0, 0, [(1, 0)]), (.iadd, 1, 0, 0, 0, []), (.putfield 256, 3, 12, 15, 952, [])]
theorem ck_X12_ran_0 : mChk 209 0 bk_X12_ran_0 = true := by decide +kernel
def bk_X12_ran_29 : List mI := [(.return_, 1, 0, 0, 0, [])]
theorem ck_X12_ran_29 : mChk 209 29 bk_X12_ran_29 = true := by decide +kernel
def f_X12_ran (p0 : Int32) (σ : Sg) : Option (Sg) := (if (40 : Int32) ≤ (σ 93 15) then (some σ) else (if (σ 93 15) < 0 ∨ 40 ≤ ((σ 93 15)).toNatClampNeg then none else (some (mup (mup σ 101 ((σ 93 15)).toNatClampNeg p0) 93 15 (((mup σ 101 ((σ 93 15)).toNatClampNeg p0) 93 15) + (1 : Int32))))))
set_option maxHeartbeats 4000000 in
theorem ok_X12_ran {L : Nat} {p0 : Int32} {σ : Sg} {R : Sg} (h : f_X12_ran p0 σ = some R) : mEv 0 209 [.ref 93, .int p0] (mSh, L, σ) none (mSh, L, R) := by
  refine mEv.of (by decide) rfl rfl ?_
  unfold f_X12_ran at h
  refine mAt.blk bk_X12_ran_0 ck_X12_ran_0 ?_
  refine q_aload_n rfl ?_
  refine q_getI ob_93 rfl ?_
  refine q_bipush ?_
  refine q_ic_ge (fun c1 => ?_) (fun c1 => ?_)
  · rw [if_pos c1] at h
    refine mAt.blk bk_X12_ran_29 ck_X12_ran_29 ?_
    have h := Option.some.inj h
    subst h
    exact q_vret mcap_0 rfl rfl
  · rw [if_neg c1] at h
    refine q_aload_n rfl ?_
    refine q_getR ob_93 rfl rfl ?_
    refine q_aload_n rfl ?_
    refine q_getI ob_93 rfl ?_
    refine q_iload_n rfl ?_
    obtain ⟨c2, h⟩ := mnone h
    refine q_iast rfl ar_101 c2 ?_
    refine q_aload_n rfl ?_
    refine q_dupR ?_
    refine q_getI ob_93 rfl ?_
    refine q_iconst ?_
    refine q_iadd ?_
    refine q_putI ob_93 rfl ?_
    refine mAt.blk bk_X12_ran_29 ck_X12_ran_29 ?_
    have h := Option.some.inj h
    subst h
    exact q_vret mcap_0 rfl rfl
def bk_X12_above_0 : List mI := [(.iload_n 0, 1, 0, 0, 0, []), (.iconst 4, 1, 0, 0, 0, [(4, 0)]), (.if_icmp .ne 7, 3, 9, 0, 0, []), (.iconst 1, 1, 0, 0, 0, [(1, 0)]), (.goto 14, 3, 20, 0, 0, [])]
theorem ck_X12_above_0 : mChk 210 0 bk_X12_above_0 = true := by decide +kernel
def bk_X12_above_9 : List mI := [(.iload_n 0, 1, 0, 0, 0, []), (.bipush 6, 2, 0, 0, 0, [(6, 0)]), (.if_icmp .ne 7, 3, 19, 0, 0, []), (.iconst 2, 1, 0, 0, 0, [(2, 0)]), (.goto 4, 3, 20, 0, 0, [])]
theorem ck_X12_above_9 : mChk 210 9 bk_X12_above_9 = true := by decide +kernel
def bk_X12_above_19 : List mI := [(.iconst 0, 1, 0, 0, 0, [(0, 0)])]
theorem ck_X12_above_19 : mChk 210 19 bk_X12_above_19 = true := by decide +kernel
def bk_X12_above_20 : List mI := [(.ireturn, 1, 0, 0, 0, [])]
theorem ck_X12_above_20 : mChk 210 20 bk_X12_above_20 = true := by decide +kernel
def f_X12_above (p0 : Int32) (σ : Sg) : Option (Int32) := (if p0 = (4 : Int32) then (some (1 : Int32)) else (if p0 = (6 : Int32) then (some (2 : Int32)) else (some (0 : Int32))))
set_option maxHeartbeats 4000000 in
theorem ok_X12_above {L : Nat} {p0 : Int32} {σ : Sg} {R : Int32} (h : f_X12_above p0 σ = some R) : mEv 0 210 [.int p0] (mSh, L, σ) (some (.int R)) (mSh, L, σ) := by
  refine mEv.of (by decide) rfl rfl ?_
  unfold f_X12_above at h
  refine mAt.blk bk_X12_above_0 ck_X12_above_0 ?_
  refine q_iload_n rfl ?_
  refine q_iconst ?_
  refine q_ic_ne (fun c1 => ?_) (fun c1 => ?_)
  · rw [if_pos c1] at h
    refine q_iconst ?_
    refine q_goto ?_
    refine mAt.blk bk_X12_above_20 ck_X12_above_20 ?_
    have h := Option.some.inj h
    subst h
    exact q_iretI mcap_0 rfl rfl
  · rw [if_neg c1] at h
    refine mAt.blk bk_X12_above_9 ck_X12_above_9 ?_
    refine q_iload_n rfl ?_
    refine q_bipush ?_
    refine q_ic_ne (fun c2 => ?_) (fun c2 => ?_)
    · rw [if_pos c2] at h
      refine q_iconst ?_
      refine q_goto ?_
      refine mAt.blk bk_X12_above_20 ck_X12_above_20 ?_
      have h := Option.some.inj h
      subst h
      exact q_iretI mcap_0 rfl rfl
    · rw [if_neg c2] at h
      refine mAt.blk bk_X12_above_19 ck_X12_above_19 ?_
      refine q_iconst ?_
      refine mAt.blk bk_X12_above_20 ck_X12_above_20 ?_
      have h := Option.some.inj h
      subst h
      exact q_iretI mcap_0 rfl rfl
def bk_X12_sinks_0 : List mI := [(.iload_n 1, 1, 0, 0, 0, []), (.lookupswitch 88 #[(0, 35), (2, 48), (6, 66)], 35, 89, 0, 0, [(0, 36), (2, 49), (6, 67)])]
theorem ck_X12_sinks_0 : mChk 211 0 bk_X12_sinks_0 = true := by decide +kernel
def bk_X12_sinks_36 : List mI := [(.aload_n 0, 1, 0, 0, 0, []), (.bipush 10, 2, 0, 0, 0, [(10, 0)]), (.invokevirtual 259, 3, 209, 0, 1318, []), (.iload_n 2, 1, 0, 0, 0, []), (.aload_n 0, 1, 0, 0, 0, []), (.getfield 262, 3, 12, 16, 953, []), (.iadd, 1, 0, 0, 0, []), (.ireturn, 1, 0, 0, 0, [])]
theorem ck_X12_sinks_36 : mChk 211 36 bk_X12_sinks_36 = true := by decide +kernel
def bk_X12_sinks_49 : List mI := [(.aload_n 0, 1, 0, 0, 0, []), (.bipush 30, 2, 0, 0, 0, [(30, 0)]), (.invokevirtual 259, 3, 209, 0, 1318, []), (.aload_n 0, 1, 0, 0, 0, []), (.iconst 2, 1, 0, 0, 0, [(2, 0)]), (.invokestatic 265, 3, 210, 0, 1322, []), (.iload_n 2, 1, 0, 0, 0, []), (.invokevirtual 268, 3, 211, 0, 1314, []), (.iconst 3, 1, 0, 0, 0, [(3, 0)]), (.imul, 1, 0, 0, 0, []), (.ireturn, 1, 0, 0, 0, [])]
theorem ck_X12_sinks_49 : mChk 211 49 bk_X12_sinks_49 = true := by decide +kernel
def bk_X12_sinks_67 : List mI := [(.aload_n 0, 1, 0, 0, 0, []), (.bipush 70, 2, 0, 0, 0, [(70, 0)]), (.invokevirtual 259, 3, 209, 0, 1318, []), (.aload_n 0, 1, 0, 0, 0, []), (.bipush 6, 2, 0, 0, 0, [(6, 0)]), (.invokestatic 265, 3, 210, 0, 1322, []), (.iload_n 2, 1, 0, 0, 0, []), (.invokevirtual 268, 3, 211, 0, 1314, []), (.aload_n 0, 1, 0, 0, 0, []), (.getfield 262, 3, 12, 16, 953, []), (.ixor, 1, 0, 0, 0, []), (.ireturn, 1, 0, 0, 0, [])]
theorem ck_X12_sinks_67 : mChk 211 67 bk_X12_sinks_67 = true := by decide +kernel
def bk_X12_sinks_89 : List mI := [(.aload_n 0, 1, 0, 0, 0, []), (.iload_n 1, 1, 0, 0, 0, []), (.invokestatic 265, 3, 210, 0, 1322, []), (.iload_n 2, 1, 0, 0, 0, []), (.invokevirtual 268, 3, 211, 0, 1314, []), (.ireturn, 1, 0, 0, 0, [])]
theorem ck_X12_sinks_89 : mChk 211 89 bk_X12_sinks_89 = true := by decide +kernel
def b_X12_sinks (g_X12_sinks : Int32 → Int32 → Sg → Option (Int32 × Sg)) (p0 : Int32) (p1 : Int32) (σ : Sg) : Option (Int32 × Sg) := (if p0 = (0 : Int32) then ((f_X12_ran (10 : Int32) σ).bind fun q1 => (some ((p1 + (q1 93 16)), q1))) else (if p0 = (2 : Int32) then ((f_X12_ran (30 : Int32) σ).bind fun q2 => ((f_X12_above (2 : Int32) q2).bind fun q3 => ((g_X12_sinks q3 p1 q2).bind fun q4 => (some ((q4.1 * (3 : Int32)), q4.2))))) else (if p0 = (6 : Int32) then ((f_X12_ran (70 : Int32) σ).bind fun q5 => ((f_X12_above (6 : Int32) q5).bind fun q6 => ((g_X12_sinks q6 p1 q5).bind fun q7 => (some ((q7.1 ^^^ (q7.2 93 16)), q7.2))))) else ((f_X12_above p0 σ).bind fun q8 => ((g_X12_sinks q8 p1 σ).bind fun q9 => (some (q9.1, q9.2)))))))
set_option maxHeartbeats 4000000 in
theorem okb_X12_sinks {L : Nat} {g_X12_sinks : Int32 → Int32 → Sg → Option (Int32 × Sg)} {dd : Nat} {p0 : Int32} {p1 : Int32} {σ : Sg} {R : Int32 × Sg} (G_X12_sinks : ∀ (p0 : Int32) (p1 : Int32) (σ : Sg) (R : Int32 × Sg), g_X12_sinks p0 p1 σ = some R → mEv dd 211 [.ref 93, .int p0, .int p1] (mSh, L, σ) (some (.int R.1)) (mSh, L, R.2)) (hdd : 1 ≤ dd) (h : b_X12_sinks g_X12_sinks p0 p1 σ = some R) : mEv (dd + 1) 211 [.ref 93, .int p0, .int p1] (mSh, L, σ) (some (.int R.1)) (mSh, L, R.2) := by
  refine mEv.of (by decide) rfl rfl ?_
  unfold b_X12_sinks at h
  refine mAt.blk bk_X12_sinks_0 ck_X12_sinks_0 ?_
  refine q_iload_n rfl ?_
  refine q_lsw ?_
  refine ⟨fun c12 => ?_, fun c12 => ?_⟩
  · rw [if_pos c12] at h
    refine mAt.blk bk_X12_sinks_36 ck_X12_sinks_36 ?_
    refine q_aload_n rfl ?_
    refine q_bipush ?_
    obtain ⟨q1, e1, h⟩ := mbind h
    refine q_vV1 mcap_0 rfl rfl ob_93 rfl (by omega) (ok_X12_ran  e1) ?_
    refine q_iload_n rfl ?_
    refine q_aload_n rfl ?_
    refine q_getI ob_93 rfl ?_
    refine q_iadd ?_
    have h := Option.some.inj h
    subst h
    exact q_iretI mcap_0 rfl rfl
  · rw [if_neg c12] at h
    refine ⟨fun c11 => ?_, fun c11 => ?_⟩
    · rw [if_pos c11] at h
      refine mAt.blk bk_X12_sinks_49 ck_X12_sinks_49 ?_
      refine q_aload_n rfl ?_
      refine q_bipush ?_
      obtain ⟨q2, e2, h⟩ := mbind h
      refine q_vV1 mcap_0 rfl rfl ob_93 rfl (by omega) (ok_X12_ran  e2) ?_
      refine q_aload_n rfl ?_
      refine q_iconst ?_
      obtain ⟨q3, e3, h⟩ := mbind h
      refine q_sI1 mcap_0 rfl rfl rfl rfl (by omega) (ok_X12_above  e3) ?_
      refine q_iload_n rfl ?_
      obtain ⟨q4, e4, h⟩ := mbind h
      refine q_vI2 mcap_0 rfl rfl ob_93 rfl (by omega) (G_X12_sinks _ _ _ _ e4) ?_
      refine q_iconst ?_
      refine q_imul ?_
      have h := Option.some.inj h
      subst h
      exact q_iretI mcap_0 rfl rfl
    · rw [if_neg c11] at h
      refine ⟨fun c10 => ?_, fun c10 => ?_⟩
      · rw [if_pos c10] at h
        refine mAt.blk bk_X12_sinks_67 ck_X12_sinks_67 ?_
        refine q_aload_n rfl ?_
        refine q_bipush ?_
        obtain ⟨q5, e5, h⟩ := mbind h
        refine q_vV1 mcap_0 rfl rfl ob_93 rfl (by omega) (ok_X12_ran  e5) ?_
        refine q_aload_n rfl ?_
        refine q_bipush ?_
        obtain ⟨q6, e6, h⟩ := mbind h
        refine q_sI1 mcap_0 rfl rfl rfl rfl (by omega) (ok_X12_above  e6) ?_
        refine q_iload_n rfl ?_
        obtain ⟨q7, e7, h⟩ := mbind h
        refine q_vI2 mcap_0 rfl rfl ob_93 rfl (by omega) (G_X12_sinks _ _ _ _ e7) ?_
        refine q_aload_n rfl ?_
        refine q_getI ob_93 rfl ?_
        refine q_ixor ?_
        have h := Option.some.inj h
        subst h
        exact q_iretI mcap_0 rfl rfl
      · rw [if_neg c10] at h
        refine mAt.blk bk_X12_sinks_89 ck_X12_sinks_89 ?_
        refine q_aload_n rfl ?_
        refine q_iload_n rfl ?_
        obtain ⟨q8, e8, h⟩ := mbind h
        refine q_sI1 mcap_0 rfl rfl rfl rfl (by omega) (ok_X12_above  e8) ?_
        refine q_iload_n rfl ?_
        obtain ⟨q9, e9, h⟩ := mbind h
        refine q_vI2 mcap_0 rfl rfl ob_93 rfl (by omega) (G_X12_sinks _ _ _ _ e9) ?_
        have h := Option.some.inj h
        subst h
        exact q_iretI mcap_0 rfl rfl
def F_X12_sinks : Nat → (Int32 → Int32 → Sg → Option (Int32 × Sg))
  | 0 => ((fun _ _ _ => none))
  | n + 1 => ((fun p0 p1 σ => b_X12_sinks ((F_X12_sinks n)) p0 p1 σ))
def f_X12_sinks (n : Nat) (p0 : Int32) (p1 : Int32) (σ : Sg) : Option (Int32 × Sg) := ((F_X12_sinks n)) p0 p1 σ
theorem f_X12_sinks_0 (p0 : Int32) (p1 : Int32) (σ : Sg) : f_X12_sinks 0 p0 p1 σ = none := rfl
theorem f_X12_sinks_s (n : Nat) (p0 : Int32) (p1 : Int32) (σ : Sg) : f_X12_sinks (n + 1) p0 p1 σ = b_X12_sinks (f_X12_sinks n) p0 p1 σ := rfl
set_option maxHeartbeats 4000000 in
theorem okg_X12_sinks {L : Nat} : ∀ n : Nat, (∀ (p0 : Int32) (p1 : Int32) (σ : Sg) (R : Int32 × Sg), f_X12_sinks n p0 p1 σ = some R → mEv (n + 1) 211 [.ref 93, .int p0, .int p1] (mSh, L, σ) (some (.int R.1)) (mSh, L, R.2))
  | 0 => (fun _ _ _ _ h => by rw [f_X12_sinks_0] at h; cases h)
  | n + 1 => by
    have ih := okg_X12_sinks (L := L) n
    exact (fun _ _ _ _ h => by rw [f_X12_sinks_s] at h; exact (by have := okb_X12_sinks (L := L) (dd := n + 1) (ih) (by omega) h; rw [show n + 1 + 1 = n + 1 + 1 by omega]; exact this))
theorem ok_X12_sinks {L : Nat} {p0 : Int32} {p1 : Int32} {σ : Sg} {R : Int32 × Sg} (h : f_X12_sinks 64 p0 p1 σ = some R) : mEv 65 211 [.ref 93, .int p0, .int p1] (mSh, L, σ) (some (.int R.1)) (mSh, L, R.2) := (okg_X12_sinks (L := L) 64) _ _ _ _ h
