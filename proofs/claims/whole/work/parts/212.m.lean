def bk_X12_isSheet_0 : List mI := [(.iload_n 0, 1, 0, 0, 0, []), (.i2l, 1, 0, 0, 0, []), (.lconst 0, 1, 0, 0, 0, [(0, 0)]), (.ldc2_w 280, 3, 0, 0, 1126, [(3, 0)]), (.invokestatic 48, 3, 135, 0, 1007, []), (.ireturn, 1, 0, 0, 0, [])]
theorem ck_X12_isSheet_0 : mChk 217 0 bk_X12_isSheet_0 = true := by decide +kernel
def f_X12_isSheet (p0 : Int32) (σ : Sg) : Option (Int32) := ((f_X12_isIn (p0).toInt64 (0 : Int32).toInt64 (3 : Int32).toInt64 σ).bind fun q1 => (if q1 = 0 ∨ q1 = 1 then some q1 else none))
set_option maxHeartbeats 4000000 in
theorem ok_X12_isSheet {L : Nat} {p0 : Int32} {σ : Sg} {R : Int32} (h : f_X12_isSheet p0 σ = some R) : mEv 1 217 [.int p0] (mSh, L, σ) (some (.int R)) (mSh, L, σ) := by
  refine mEv.of (by decide) rfl rfl ?_
  unfold f_X12_isSheet at h
  refine mAt.blk bk_X12_isSheet_0 ck_X12_isSheet_0 ?_
  refine q_iload_n rfl ?_
  refine q_i2l ?_
  refine q_lconst ?_
  refine q_ldc2_w ?_
  obtain ⟨q1, e1, h⟩ := mbind h
  refine q_sI3 mcap_0 rfl rfl rfl rfl (by decide) (ok_X12_isIn  e1) ?_
  obtain ⟨c2, h⟩ := msome h
  have h := Option.some.inj h
  subst h
  exact q_iretZ mcap_0 rfl c2 rfl
def bk_X12_goings_0 : List mI := [(.iload_n 1, 1, 0, 0, 0, []), (.invokestatic 157, 3, 217, 0, 1123, []), (.ifCond .ne 9, 3, 13, 0, 0, []), (.aload_n 0, 1, 0, 0, 0, []), (.iconst 1, 1, 0, 0, 0, [(1, 0)]), (.invokevirtual 111, 3, 134, 0, 1010, []), (.ireturn, 1, 0, 0, 0, [])]
theorem ck_X12_goings_0 : mChk 164 0 bk_X12_goings_0 = true := by decide +kernel
def bk_X12_goings_13 : List mI := [(.aload_n 0, 1, 0, 0, 0, []), (.getfield 35, 3, 12, 17, 954, []), (.iload_n 1, 1, 0, 0, 0, []), (.iaload, 1, 0, 0, 0, []), (.ifCond .ne 9, 3, 28, 0, 0, []), (.aload_n 0, 1, 0, 0, 0, []), (.iconst 2, 1, 0, 0, 0, [(2, 0)]), (.invokevirtual 111, 3, 134, 0, 1010, []), (.ireturn, 1, 0, 0, 0, [])]
theorem ck_X12_goings_13 : mChk 164 13 bk_X12_goings_13 = true := by decide +kernel
def bk_X12_goings_28 : List mI := [(.iconst 0, 1, 0, 0, 0, [(0, 0)]), (.istore_n 2, 1, 0, 0, 0, [])]
theorem ck_X12_goings_28 : mChk 164 28 bk_X12_goings_28 = true := by decide +kernel
def bk_X12_goings_30 : List mI := [(.iconst 2, 1, 0, 0, 0, [(2, 0)]), (.iload_n 2, 1, 0, 0, 0, []), (.imul, 1, 0, 0, 0, []), (.iconst 2, 1, 0, 0, 0, [(2, 0)]), (.iadd, 1, 0, 0, 0, []), (.aload_n 0, 1, 0, 0, 0, []), (.getfield 38, 3, 12, 18, 955, []), (.iload_n 1, 1, 0, 0, 0, []), (.iaload, 1, 0, 0, 0, []), (.if_icmp .gt 87, 3, 128, 0, 0, []), (.iload_n 2, 1, 0, 0, 0, []), (.aload_n 0, 1, 0, 0, 0, []), (.getfield 7, 3, 12, 0, 937, []), (.iconst 1, 1, 0, 0, 0, [(1, 0)]), (.iaload, 1, 0, 0, 0, []), (.if_icmp .ge 77, 3, 128, 0, 0, []), (.aload_n 0, 1, 0, 0, 0, []), (.aload_n 0, 1, 0, 0, 0, []), (.getfield 41, 3, 12, 19, 956, []), (.bipush 40, 2, 0, 0, 0, [(40, 0)]), (.iload_n 1, 1, 0, 0, 0, []), (.imul, 1, 0, 0, 0, []), (.iconst 2, 1, 0, 0, 0, [(2, 0)]), (.iload_n 2, 1, 0, 0, 0, []), (.imul, 1, 0, 0, 0, []), (.iadd, 1, 0, 0, 0, []), (.iaload, 1, 0, 0, 0, []), (.aload_n 0, 1, 0, 0, 0, []), (.getfield 41, 3, 12, 19, 956, []), (.bipush 40, 2, 0, 0, 0, [(40, 0)]), (.iload_n 1, 1, 0, 0, 0, []), (.imul, 1, 0, 0, 0, []), (.iconst 2, 1, 0, 0, 0, [(2, 0)]), (.iload_n 2, 1, 0, 0, 0, []), (.imul, 1, 0, 0, 0, []), (.iadd, 1, 0, 0, 0, []), (.iconst 1, 1, 0, 0, 0, [(1, 0)]), (.iadd, 1, 0, 0, 0, []), (.iaload, 1, 0, 0, 0, []), (.invokevirtual 134, 3, 158, 0, 1089, []), (.ifCond .eq 42, 3, 128, 0, 0, []), (.aload_n 0, 1, 0, 0, 0, []), (.iload_n 2, 1, 0, 0, 0, []), (.aload_n 0, 1, 0, 0, 0, []), (.getfield 41, 3, 12, 19, 956, []), (.bipush 40, 2, 0, 0, 0, [(40, 0)]), (.iload_n 1, 1, 0, 0, 0, []), (.imul, 1, 0, 0, 0, []), (.iconst 2, 1, 0, 0, 0, [(2, 0)]), (.iload_n 2, 1, 0, 0, 0, []), (.imul, 1, 0, 0, 0, []), (.iadd, 1, 0, 0, 0, []), (.iaload, 1, 0, 0, 0, []), (.aload_n 0, 1, 0, 0, 0, []), (.getfield 41, 3, 12, 19, 956, []), (.bipush 40, 2, 0, 0, 0, [(40, 0)]), (.iload_n 1, 1, 0, 0, 0, []), (.imul, 1, 0, 0, 0, []), (.iconst 2, 1, 0, 0, 0, [(2, 0)]), (.iload_n 2, 1, 0, 0, 0, []), (.imul, 1, 0, 0, 0, []), (.iadd, 1, 0, 0, 0, []), (.iconst 1, 1, 0, 0, 0, [(1, 0)]), (.iadd, 1, 0, 0, 0, []), (.iaload, 1, 0, 0, 0, []), (.invokevirtual 142, 3, 159, 0, 1099, []), (.iinc 2 1, 3, 0, 0, 0, [(1, 0)]), (.goto (-95), 3, 30, 0, 0, [])]
theorem ck_X12_goings_30 : mChk 164 30 bk_X12_goings_30 = true := by decide +kernel
def bk_X12_goings_128 : List mI := [(.iload_n 2, 1, 0, 0, 0, []), (.ireturn, 1, 0, 0, 0, [])]
theorem ck_X12_goings_128 : mChk 164 128 bk_X12_goings_128 = true := by decide +kernel
def c_X12_goings_30 : Nat → Int32 → Int32 → Sg → Option (Int32 × Sg)
  | 0, _, _, _ => none
  | n + 1, x1, x2, σ => (if x1 < 0 ∨ 4 ≤ (x1).toNatClampNeg then none else (if (σ 103 (x1).toNatClampNeg) < (((2 : Int32) * x2) + (2 : Int32)) then (some (x2, σ)) else (if (σ 94 1) ≤ x2 then (some (x2, σ)) else (if (((40 : Int32) * x1) + ((2 : Int32) * x2)) < 0 ∨ 160 ≤ ((((40 : Int32) * x1) + ((2 : Int32) * x2))).toNatClampNeg then none else (if ((((40 : Int32) * x1) + ((2 : Int32) * x2)) + (1 : Int32)) < 0 ∨ 160 ≤ (((((40 : Int32) * x1) + ((2 : Int32) * x2)) + (1 : Int32))).toNatClampNeg then none else ((f_X12_mayGo (σ 104 ((((40 : Int32) * x1) + ((2 : Int32) * x2))).toNatClampNeg) (σ 104 (((((40 : Int32) * x1) + ((2 : Int32) * x2)) + (1 : Int32))).toNatClampNeg) σ).bind fun q7 => (if q7 = 0 then (some (x2, σ)) else (if (((40 : Int32) * x1) + ((2 : Int32) * x2)) < 0 ∨ 160 ≤ ((((40 : Int32) * x1) + ((2 : Int32) * x2))).toNatClampNeg then none else (if ((((40 : Int32) * x1) + ((2 : Int32) * x2)) + (1 : Int32)) < 0 ∨ 160 ≤ (((((40 : Int32) * x1) + ((2 : Int32) * x2)) + (1 : Int32))).toNatClampNeg then none else ((f_X12_leads x2 (σ 104 ((((40 : Int32) * x1) + ((2 : Int32) * x2))).toNatClampNeg) (σ 104 (((((40 : Int32) * x1) + ((2 : Int32) * x2)) + (1 : Int32))).toNatClampNeg) σ).bind fun q11 => (c_X12_goings_30  n x1 (x2 + (1 : Int32)) q11)))))))))))
set_option maxHeartbeats 4000000 in
theorem okc_X12_goings_30 {L : Nat} {R : Int32 × Sg} {n : Nat} {x1 : Int32} {x2 : Int32} {σ : Sg} {pl : mLoc} (h : c_X12_goings_30 n x1 x2 σ = some R) (hl : mlf [some (.ref 93), some (.int x1), some (.int x2)] pl) : mAt 2 164 (some (.int R.1), (mSh, L, R.2)) 30 pl [] (mSh, L, σ) 0 0 := by
  induction n generalizing x1 x2 σ pl with
  | zero =>
    rw [c_X12_goings_30.eq_1] at h
    cases h
  | succ n ih =>
    refine mAt.less hl ?_
    rw [c_X12_goings_30.eq_2] at h
    refine mAt.blk bk_X12_goings_30 ck_X12_goings_30 ?_
    refine q_iconst ?_
    refine q_iload_n rfl ?_
    refine q_imul ?_
    refine q_iconst ?_
    refine q_iadd ?_
    refine q_aload_n rfl ?_
    refine q_getR ob_93 rfl rfl ?_
    refine q_iload_n rfl ?_
    obtain ⟨c1, h⟩ := mnone h
    refine q_iald (mrd ar_103 _ _) rfl c1 ?_
    refine q_ic_gt (fun c2 => ?_) (fun c2 => ?_)
    · rw [if_pos c2] at h
      refine mAt.blk bk_X12_goings_128 ck_X12_goings_128 ?_
      refine q_iload_n rfl ?_
      have h := Option.some.inj h
      subst h
      exact q_iretI mcap_0 rfl rfl
    · rw [if_neg c2] at h
      refine q_iload_n rfl ?_
      refine q_aload_n rfl ?_
      refine q_getR ob_93 rfl rfl ?_
      refine q_iconst ?_
      refine q_iald (j := 1) (mrd ar_94 _ _) (by decide) (by decide) ?_
      refine q_ic_ge (fun c4 => ?_) (fun c4 => ?_)
      · rw [if_pos c4] at h
        refine mAt.blk bk_X12_goings_128 ck_X12_goings_128 ?_
        refine q_iload_n rfl ?_
        have h := Option.some.inj h
        subst h
        exact q_iretI mcap_0 rfl rfl
      · rw [if_neg c4] at h
        refine q_aload_n rfl ?_
        refine q_aload_n rfl ?_
        refine q_getR ob_93 rfl rfl ?_
        refine q_bipush ?_
        refine q_iload_n rfl ?_
        refine q_imul ?_
        refine q_iconst ?_
        refine q_iload_n rfl ?_
        refine q_imul ?_
        refine q_iadd ?_
        obtain ⟨c5, h⟩ := mnone h
        refine q_iald (mrd ar_104 _ _) rfl c5 ?_
        refine q_aload_n rfl ?_
        refine q_getR ob_93 rfl rfl ?_
        refine q_bipush ?_
        refine q_iload_n rfl ?_
        refine q_imul ?_
        refine q_iconst ?_
        refine q_iload_n rfl ?_
        refine q_imul ?_
        refine q_iadd ?_
        refine q_iconst ?_
        refine q_iadd ?_
        obtain ⟨c6, h⟩ := mnone h
        refine q_iald (mrd ar_104 _ _) rfl c6 ?_
        obtain ⟨q7, e7, h⟩ := mbind h
        refine q_vI2 mcap_0 rfl rfl ob_93 rfl (by decide) (ok_X12_mayGo  e7) ?_
        refine q_if_eq (fun c8 => ?_) (fun c8 => ?_)
        · rw [if_pos c8] at h
          refine mAt.blk bk_X12_goings_128 ck_X12_goings_128 ?_
          refine q_iload_n rfl ?_
          have h := Option.some.inj h
          subst h
          exact q_iretI mcap_0 rfl rfl
        · rw [if_neg c8] at h
          refine q_aload_n rfl ?_
          refine q_iload_n rfl ?_
          refine q_aload_n rfl ?_
          refine q_getR ob_93 rfl rfl ?_
          refine q_bipush ?_
          refine q_iload_n rfl ?_
          refine q_imul ?_
          refine q_iconst ?_
          refine q_iload_n rfl ?_
          refine q_imul ?_
          refine q_iadd ?_
          obtain ⟨c9, h⟩ := mnone h
          refine q_iald (mrd ar_104 _ _) rfl c9 ?_
          refine q_aload_n rfl ?_
          refine q_getR ob_93 rfl rfl ?_
          refine q_bipush ?_
          refine q_iload_n rfl ?_
          refine q_imul ?_
          refine q_iconst ?_
          refine q_iload_n rfl ?_
          refine q_imul ?_
          refine q_iadd ?_
          refine q_iconst ?_
          refine q_iadd ?_
          obtain ⟨c10, h⟩ := mnone h
          refine q_iald (mrd ar_104 _ _) rfl c10 ?_
          obtain ⟨q11, e11, h⟩ := mbind h
          refine q_vV3 mcap_0 rfl rfl ob_93 rfl (by decide) (ok_X12_leads  e11) ?_
          refine q_iinc rfl rfl ?_
          refine q_goto ?_
          exact ih  h ⟨rfl, rfl, rfl, trivial⟩
def f_X12_goings (p0 : Int32) (σ : Sg) : Option (Int32 × Sg) := ((f_X12_isSheet p0 σ).bind fun q12 => (if q12 = 0 then ((f_X12_finds (1 : Int32) σ).bind fun q17 => (some (q17.1, q17.2))) else (if p0 < 0 ∨ 4 ≤ (p0).toNatClampNeg then none else (if (σ 102 (p0).toNatClampNeg) = 0 then ((f_X12_finds (2 : Int32) σ).bind fun q16 => (some (q16.1, q16.2))) else (c_X12_goings_30   1000 p0 (0 : Int32) σ)))))
set_option maxHeartbeats 4000000 in
theorem ok_X12_goings {L : Nat} {p0 : Int32} {σ : Sg} {R : Int32 × Sg} (h : f_X12_goings p0 σ = some R) : mEv 2 164 [.ref 93, .int p0] (mSh, L, σ) (some (.int R.1)) (mSh, L, R.2) := by
  refine mEv.of (by decide) rfl rfl ?_
  unfold f_X12_goings at h
  refine mAt.blk bk_X12_goings_0 ck_X12_goings_0 ?_
  refine q_iload_n rfl ?_
  obtain ⟨q12, e12, h⟩ := mbind h
  refine q_sI1 mcap_0 rfl rfl rfl rfl (by decide) (ok_X12_isSheet  e12) ?_
  refine q_if_ne (fun c13 => ?_) (fun c13 => ?_)
  · rw [if_pos c13] at h
    refine q_aload_n rfl ?_
    refine q_iconst ?_
    obtain ⟨q17, e17, h⟩ := mbind h
    refine q_vI1 mcap_0 rfl rfl ob_93 rfl (by decide) (ok_X12_finds  e17) ?_
    have h := Option.some.inj h
    subst h
    exact q_iretI mcap_0 rfl rfl
  · rw [if_neg c13] at h
    refine mAt.blk bk_X12_goings_13 ck_X12_goings_13 ?_
    refine q_aload_n rfl ?_
    refine q_getR ob_93 rfl rfl ?_
    refine q_iload_n rfl ?_
    obtain ⟨c14, h⟩ := mnone h
    refine q_iald (mrd ar_102 _ _) rfl c14 ?_
    refine q_if_ne (fun c15 => ?_) (fun c15 => ?_)
    · rw [if_pos c15] at h
      refine q_aload_n rfl ?_
      refine q_iconst ?_
      obtain ⟨q16, e16, h⟩ := mbind h
      refine q_vI1 mcap_0 rfl rfl ob_93 rfl (by decide) (ok_X12_finds  e16) ?_
      have h := Option.some.inj h
      subst h
      exact q_iretI mcap_0 rfl rfl
    · rw [if_neg c15] at h
      refine mAt.blk bk_X12_goings_28 ck_X12_goings_28 ?_
      refine q_iconst ?_
      refine q_istore_n rfl rfl ?_
      exact okc_X12_goings_30  h ⟨rfl, rfl, rfl, trivial⟩
def bk_X12_thing_0 : List mI := [(.iload_n 1, 1, 0, 0, 0, []), (.i2l, 1, 0, 0, 0, []), (.lconst 0, 1, 0, 0, 0, [(0, 0)]), (.ldc2_w 160, 3, 0, 0, 1131, [(6, 0)]), (.invokestatic 48, 3, 135, 0, 1007, []), (.ifCond .eq 15, 3, 24, 0, 0, []), (.iload_n 2, 1, 0, 0, 0, []), (.i2l, 1, 0, 0, 0, []), (.lconst 0, 1, 0, 0, 0, [(0, 0)]), (.ldc2_w 129, 3, 0, 0, 1094, [(30, 0)]), (.invokestatic 48, 3, 135, 0, 1007, []), (.ifCond .ne 9, 3, 30, 0, 0, [])]
theorem ck_X12_thing_0 : mChk 165 0 bk_X12_thing_0 = true := by decide +kernel
def bk_X12_thing_24 : List mI := [(.aload_n 0, 1, 0, 0, 0, []), (.iconst 1, 1, 0, 0, 0, [(1, 0)]), (.invokevirtual 111, 3, 134, 0, 1010, []), (.ireturn, 1, 0, 0, 0, [])]
theorem ck_X12_thing_24 : mChk 165 24 bk_X12_thing_24 = true := by decide +kernel
def bk_X12_thing_30 : List mI := [(.aload_n 0, 1, 0, 0, 0, []), (.getfield 7, 3, 12, 0, 937, []), (.iconst 2, 1, 0, 0, 0, [(2, 0)]), (.iaload, 1, 0, 0, 0, []), (.bipush 10, 2, 0, 0, 0, [(10, 0)]), (.if_icmp .ne 9, 3, 47, 0, 0, []), (.aload_n 0, 1, 0, 0, 0, []), (.iconst 4, 1, 0, 0, 0, [(4, 0)]), (.invokevirtual 111, 3, 134, 0, 1010, []), (.ireturn, 1, 0, 0, 0, [])]
theorem ck_X12_thing_30 : mChk 165 30 bk_X12_thing_30 = true := by decide +kernel
def bk_X12_thing_47 : List mI := [(.bipush 46, 2, 0, 0, 0, [(46, 0)]), (.bipush 6, 2, 0, 0, 0, [(6, 0)]), (.aload_n 0, 1, 0, 0, 0, []), (.getfield 7, 3, 12, 0, 937, []), (.iconst 2, 1, 0, 0, 0, [(2, 0)]), (.iaload, 1, 0, 0, 0, []), (.imul, 1, 0, 0, 0, []), (.iadd, 1, 0, 0, 0, []), (.istore_n 3, 1, 0, 0, 0, []), (.aload_n 0, 1, 0, 0, 0, []), (.getfield 7, 3, 12, 0, 937, []), (.iload_n 3, 1, 0, 0, 0, []), (.iconst 0, 1, 0, 0, 0, [(0, 0)]), (.iadd, 1, 0, 0, 0, []), (.iload_n 1, 1, 0, 0, 0, []), (.iastore, 1, 0, 0, 0, []), (.aload_n 0, 1, 0, 0, 0, []), (.getfield 7, 3, 12, 0, 937, []), (.iload_n 3, 1, 0, 0, 0, []), (.iconst 1, 1, 0, 0, 0, [(1, 0)]), (.iadd, 1, 0, 0, 0, []), (.iload_n 2, 1, 0, 0, 0, []), (.iastore, 1, 0, 0, 0, []), (.aload_n 0, 1, 0, 0, 0, []), (.getfield 7, 3, 12, 0, 937, []), (.iload_n 3, 1, 0, 0, 0, []), (.iconst 2, 1, 0, 0, 0, [(2, 0)]), (.iadd, 1, 0, 0, 0, []), (.iconst 2, 1, 0, 0, 0, [(2, 0)]), (.iastore, 1, 0, 0, 0, []), (.aload_n 0, 1, 0, 0, 0, []), (.getfield 7, 3, 12, 0, 937, []), (.iload_n 3, 1, 0, 0, 0, []), (.iconst 3, 1, 0, 0, 0, [(3, 0)]), (.iadd, 1, 0, 0, 0, []), (.iconst (-1), 1, 0, 0, 0, [((-1), 0)]), (.iastore, 1, 0, 0, 0, []), (.aload_n 0, 1, 0, 0, 0, []), (.getfield 7, 3, 12, 0, 937, []), (.iload_n 3, 1, 0, 0, 0, []), (.iconst 4, 1, 0, 0, 0, [(4, 0)]), (.iadd, 1, 0, 0, 0, []), (.iconst 0, 1, 0, 0, 0, [(0, 0)]), (.iastore, 1, 0, 0, 0, []), (.aload_n 0, 1, 0, 0, 0, []), (.getfield 7, 3, 12, 0, 937, []), (.iload_n 3, 1, 0, 0, 0, []), (.iconst 5, 1, 0, 0, 0, [(5, 0)]), (.iadd, 1, 0, 0, 0, []), (.iconst 0, 1, 0, 0, 0, [(0, 0)]), (.iastore, 1, 0, 0, 0, []), (.aload_n 0, 1, 0, 0, 0, []), (.getfield 7, 3, 12, 0, 937, []), (.iconst 2, 1, 0, 0, 0, [(2, 0)]), (.dup2, 1, 0, 0, 0, []), (.iaload, 1, 0, 0, 0, []), (.iconst 1, 1, 0, 0, 0, [(1, 0)]), (.iadd, 1, 0, 0, 0, []), (.iastore, 1, 0, 0, 0, []), (.aload_n 0, 1, 0, 0, 0, []), (.getfield 7, 3, 12, 0, 937, []), (.iconst 2, 1, 0, 0, 0, [(2, 0)]), (.iaload, 1, 0, 0, 0, []), (.iconst 1, 1, 0, 0, 0, [(1, 0)]), (.isub, 1, 0, 0, 0, []), (.ireturn, 1, 0, 0, 0, [])]
theorem ck_X12_thing_47 : mChk 165 47 bk_X12_thing_47 = true := by decide +kernel
def f_X12_thing (p0 : Int32) (p1 : Int32) (σ : Sg) : Option (Int32 × Sg) := ((f_X12_isIn (p0).toInt64 (0 : Int32).toInt64 (6 : Int32).toInt64 σ).bind fun q1 => (if q1 = 0 then ((f_X12_finds (1 : Int32) σ).bind fun q3 => (some (q3.1, q3.2))) else ((f_X12_isIn (p1).toInt64 (0 : Int32).toInt64 (30 : Int32).toInt64 σ).bind fun q4 => (if q4 = 0 then ((f_X12_finds (1 : Int32) σ).bind fun q19 => (some (q19.1, q19.2))) else (if (σ 94 2) = (10 : Int32) then ((f_X12_finds (4 : Int32) σ).bind fun q18 => (some (q18.1, q18.2))) else (if (((46 : Int32) + ((6 : Int32) * (σ 94 2))) + (0 : Int32)) < 0 ∨ 320 ≤ ((((46 : Int32) + ((6 : Int32) * (σ 94 2))) + (0 : Int32))).toNatClampNeg then none else (if (((46 : Int32) + ((6 : Int32) * (σ 94 2))) + (1 : Int32)) < 0 ∨ 320 ≤ ((((46 : Int32) + ((6 : Int32) * (σ 94 2))) + (1 : Int32))).toNatClampNeg then none else (if (((46 : Int32) + ((6 : Int32) * (σ 94 2))) + (2 : Int32)) < 0 ∨ 320 ≤ ((((46 : Int32) + ((6 : Int32) * (σ 94 2))) + (2 : Int32))).toNatClampNeg then none else (if (((46 : Int32) + ((6 : Int32) * (σ 94 2))) + (3 : Int32)) < 0 ∨ 320 ≤ ((((46 : Int32) + ((6 : Int32) * (σ 94 2))) + (3 : Int32))).toNatClampNeg then none else (if (((46 : Int32) + ((6 : Int32) * (σ 94 2))) + (4 : Int32)) < 0 ∨ 320 ≤ ((((46 : Int32) + ((6 : Int32) * (σ 94 2))) + (4 : Int32))).toNatClampNeg then none else (if (((46 : Int32) + ((6 : Int32) * (σ 94 2))) + (5 : Int32)) < 0 ∨ 320 ≤ ((((46 : Int32) + ((6 : Int32) * (σ 94 2))) + (5 : Int32))).toNatClampNeg then none else (some ((((mup (mup (mup (mup (mup (mup (mup σ 94 ((((46 : Int32) + ((6 : Int32) * (σ 94 2))) + (0 : Int32))).toNatClampNeg p0) 94 ((((46 : Int32) + ((6 : Int32) * (σ 94 2))) + (1 : Int32))).toNatClampNeg p1) 94 ((((46 : Int32) + ((6 : Int32) * (σ 94 2))) + (2 : Int32))).toNatClampNeg (2 : Int32)) 94 ((((46 : Int32) + ((6 : Int32) * (σ 94 2))) + (3 : Int32))).toNatClampNeg (-1 : Int32)) 94 ((((46 : Int32) + ((6 : Int32) * (σ 94 2))) + (4 : Int32))).toNatClampNeg (0 : Int32)) 94 ((((46 : Int32) + ((6 : Int32) * (σ 94 2))) + (5 : Int32))).toNatClampNeg (0 : Int32)) 94 2 (((mup (mup (mup (mup (mup (mup σ 94 ((((46 : Int32) + ((6 : Int32) * (σ 94 2))) + (0 : Int32))).toNatClampNeg p0) 94 ((((46 : Int32) + ((6 : Int32) * (σ 94 2))) + (1 : Int32))).toNatClampNeg p1) 94 ((((46 : Int32) + ((6 : Int32) * (σ 94 2))) + (2 : Int32))).toNatClampNeg (2 : Int32)) 94 ((((46 : Int32) + ((6 : Int32) * (σ 94 2))) + (3 : Int32))).toNatClampNeg (-1 : Int32)) 94 ((((46 : Int32) + ((6 : Int32) * (σ 94 2))) + (4 : Int32))).toNatClampNeg (0 : Int32)) 94 ((((46 : Int32) + ((6 : Int32) * (σ 94 2))) + (5 : Int32))).toNatClampNeg (0 : Int32)) 94 2) + (1 : Int32))) 94 2) - (1 : Int32)), (mup (mup (mup (mup (mup (mup (mup σ 94 ((((46 : Int32) + ((6 : Int32) * (σ 94 2))) + (0 : Int32))).toNatClampNeg p0) 94 ((((46 : Int32) + ((6 : Int32) * (σ 94 2))) + (1 : Int32))).toNatClampNeg p1) 94 ((((46 : Int32) + ((6 : Int32) * (σ 94 2))) + (2 : Int32))).toNatClampNeg (2 : Int32)) 94 ((((46 : Int32) + ((6 : Int32) * (σ 94 2))) + (3 : Int32))).toNatClampNeg (-1 : Int32)) 94 ((((46 : Int32) + ((6 : Int32) * (σ 94 2))) + (4 : Int32))).toNatClampNeg (0 : Int32)) 94 ((((46 : Int32) + ((6 : Int32) * (σ 94 2))) + (5 : Int32))).toNatClampNeg (0 : Int32)) 94 2 (((mup (mup (mup (mup (mup (mup σ 94 ((((46 : Int32) + ((6 : Int32) * (σ 94 2))) + (0 : Int32))).toNatClampNeg p0) 94 ((((46 : Int32) + ((6 : Int32) * (σ 94 2))) + (1 : Int32))).toNatClampNeg p1) 94 ((((46 : Int32) + ((6 : Int32) * (σ 94 2))) + (2 : Int32))).toNatClampNeg (2 : Int32)) 94 ((((46 : Int32) + ((6 : Int32) * (σ 94 2))) + (3 : Int32))).toNatClampNeg (-1 : Int32)) 94 ((((46 : Int32) + ((6 : Int32) * (σ 94 2))) + (4 : Int32))).toNatClampNeg (0 : Int32)) 94 ((((46 : Int32) + ((6 : Int32) * (σ 94 2))) + (5 : Int32))).toNatClampNeg (0 : Int32)) 94 2) + (1 : Int32))))))))))))))))
set_option maxHeartbeats 4000000 in
theorem ok_X12_thing {L : Nat} {p0 : Int32} {p1 : Int32} {σ : Sg} {R : Int32 × Sg} (h : f_X12_thing p0 p1 σ = some R) : mEv 1 165 [.ref 93, .int p0, .int p1] (mSh, L, σ) (some (.int R.1)) (mSh, L, R.2) := by
  refine mEv.of (by decide) rfl rfl ?_
  unfold f_X12_thing at h
  refine mAt.blk bk_X12_thing_0 ck_X12_thing_0 ?_
  refine q_iload_n rfl ?_
  refine q_i2l ?_
  refine q_lconst ?_
  refine q_ldc2_w ?_
  obtain ⟨q1, e1, h⟩ := mbind h
  refine q_sI3 mcap_0 rfl rfl rfl rfl (by decide) (ok_X12_isIn  e1) ?_
  refine q_if_eq (fun c2 => ?_) (fun c2 => ?_)
  · rw [if_pos c2] at h
    refine mAt.blk bk_X12_thing_24 ck_X12_thing_24 ?_
    refine q_aload_n rfl ?_
    refine q_iconst ?_
    obtain ⟨q3, e3, h⟩ := mbind h
    refine q_vI1 mcap_0 rfl rfl ob_93 rfl (by decide) (ok_X12_finds  e3) ?_
    have h := Option.some.inj h
    subst h
    exact q_iretI mcap_0 rfl rfl
  · rw [if_neg c2] at h
    refine q_iload_n rfl ?_
    refine q_i2l ?_
    refine q_lconst ?_
    refine q_ldc2_w ?_
    obtain ⟨q4, e4, h⟩ := mbind h
    refine q_sI3 mcap_0 rfl rfl rfl rfl (by decide) (ok_X12_isIn  e4) ?_
    refine q_if_ne (fun c5 => ?_) (fun c5 => ?_)
    · rw [if_pos c5] at h
      refine mAt.blk bk_X12_thing_24 ck_X12_thing_24 ?_
      refine q_aload_n rfl ?_
      refine q_iconst ?_
      obtain ⟨q19, e19, h⟩ := mbind h
      refine q_vI1 mcap_0 rfl rfl ob_93 rfl (by decide) (ok_X12_finds  e19) ?_
      have h := Option.some.inj h
      subst h
      exact q_iretI mcap_0 rfl rfl
    · rw [if_neg c5] at h
      refine mAt.blk bk_X12_thing_30 ck_X12_thing_30 ?_
      refine q_aload_n rfl ?_
      refine q_getR ob_93 rfl rfl ?_
      refine q_iconst ?_
      refine q_iald (j := 2) (mrd ar_94 _ _) (by decide) (by decide) ?_
      refine q_bipush ?_
      refine q_ic_ne (fun c7 => ?_) (fun c7 => ?_)
      · rw [if_pos c7] at h
        refine q_aload_n rfl ?_
        refine q_iconst ?_
        obtain ⟨q18, e18, h⟩ := mbind h
        refine q_vI1 mcap_0 rfl rfl ob_93 rfl (by decide) (ok_X12_finds  e18) ?_
        have h := Option.some.inj h
        subst h
        exact q_iretI mcap_0 rfl rfl
      · rw [if_neg c7] at h
        refine mAt.blk bk_X12_thing_47 ck_X12_thing_47 ?_
        refine q_bipush ?_
        refine q_bipush ?_
        refine q_aload_n rfl ?_
        refine q_getR ob_93 rfl rfl ?_
        refine q_iconst ?_
        refine q_iald (j := 2) (mrd ar_94 _ _) (by decide) (by decide) ?_
        refine q_imul ?_
        refine q_iadd ?_
        refine q_istore_n rfl rfl ?_
        refine q_aload_n rfl ?_
        refine q_getR ob_93 rfl rfl ?_
        refine q_iload_n rfl ?_
        refine q_iconst ?_
        refine q_iadd ?_
        refine q_iload_n rfl ?_
        obtain ⟨c9, h⟩ := mnone h
        refine q_iast rfl ar_94 c9 ?_
        refine q_aload_n rfl ?_
        refine q_getR ob_93 rfl rfl ?_
        refine q_iload_n rfl ?_
        refine q_iconst ?_
        refine q_iadd ?_
        refine q_iload_n rfl ?_
        obtain ⟨c10, h⟩ := mnone h
        refine q_iast rfl ar_94 c10 ?_
        refine q_aload_n rfl ?_
        refine q_getR ob_93 rfl rfl ?_
        refine q_iload_n rfl ?_
        refine q_iconst ?_
        refine q_iadd ?_
        refine q_iconst ?_
        obtain ⟨c11, h⟩ := mnone h
        refine q_iast rfl ar_94 c11 ?_
        refine q_aload_n rfl ?_
        refine q_getR ob_93 rfl rfl ?_
        refine q_iload_n rfl ?_
        refine q_iconst ?_
        refine q_iadd ?_
        refine q_iconst ?_
        obtain ⟨c12, h⟩ := mnone h
        refine q_iast rfl ar_94 c12 ?_
        refine q_aload_n rfl ?_
        refine q_getR ob_93 rfl rfl ?_
        refine q_iload_n rfl ?_
        refine q_iconst ?_
        refine q_iadd ?_
        refine q_iconst ?_
        obtain ⟨c13, h⟩ := mnone h
        refine q_iast rfl ar_94 c13 ?_
        refine q_aload_n rfl ?_
        refine q_getR ob_93 rfl rfl ?_
        refine q_iload_n rfl ?_
        refine q_iconst ?_
        refine q_iadd ?_
        refine q_iconst ?_
        obtain ⟨c14, h⟩ := mnone h
        refine q_iast rfl ar_94 c14 ?_
        refine q_aload_n rfl ?_
        refine q_getR ob_93 rfl rfl ?_
        refine q_iconst ?_
        refine q_dup2 ?_
        refine q_iald (j := 2) (mrd ar_94 _ _) (by decide) (by decide) ?_
        refine q_iconst ?_
        refine q_iadd ?_
        refine q_iast (j := 2) (by decide) ar_94 (by decide) ?_
        refine q_aload_n rfl ?_
        refine q_getR ob_93 rfl rfl ?_
        refine q_iconst ?_
        refine q_iald (j := 2) (mrd ar_94 _ _) (by decide) (by decide) ?_
        refine q_iconst ?_
        refine q_isub ?_
        have h := Option.some.inj h
        subst h
        exact q_iretI mcap_0 rfl rfl
def bk_X12_many_0 : List mI := [(.iconst 0, 1, 0, 0, 0, [(0, 0)]), (.istore_n 1, 1, 0, 0, 0, []), (.iconst 0, 1, 0, 0, 0, [(0, 0)]), (.istore_n 2, 1, 0, 0, 0, [])]
theorem ck_X12_many_0 : mChk 166 0 bk_X12_many_0 = true := by decide +kernel
def bk_X12_many_4 : List mI := [(.iload_n 2, 1, 0, 0, 0, []), (.bipush 12, 2, 0, 0, 0, [(12, 0)]), (.if_icmp .ge 17, 3, 24, 0, 0, []), (.iload_n 1, 1, 0, 0, 0, []), (.iload_n 0, 1, 0, 0, 0, []), (.iload_n 2, 1, 0, 0, 0, []), (.ishr, 1, 0, 0, 0, []), (.iconst 1, 1, 0, 0, 0, [(1, 0)]), (.iand, 1, 0, 0, 0, []), (.iadd, 1, 0, 0, 0, []), (.istore_n 1, 1, 0, 0, 0, []), (.iinc 2 1, 3, 0, 0, 0, [(1, 0)]), (.goto (-17), 3, 4, 0, 0, [])]
theorem ck_X12_many_4 : mChk 166 4 bk_X12_many_4 = true := by decide +kernel
def bk_X12_many_24 : List mI := [(.iload_n 1, 1, 0, 0, 0, []), (.ireturn, 1, 0, 0, 0, [])]
theorem ck_X12_many_24 : mChk 166 24 bk_X12_many_24 = true := by decide +kernel
def c_X12_many_4 (σ : Sg) : Nat → Int32 → Int32 → Int32 → Option (Int32)
  | 0, _, _, _ => none
  | n + 1, x0, x1, x2 => (if (12 : Int32) ≤ x2 then (some x1) else (c_X12_many_4 σ n x0 (x1 + ((x0 >>> (x2 &&& 31)) &&& (1 : Int32))) (x2 + (1 : Int32))))
set_option maxHeartbeats 4000000 in
theorem okc_X12_many_4 {L : Nat} {σ : Sg} {R : Int32} {n : Nat} {x0 : Int32} {x1 : Int32} {x2 : Int32} {pl : mLoc} (h : c_X12_many_4 σ n x0 x1 x2 = some R) (hl : mlf [some (.int x0), some (.int x1), some (.int x2)] pl) : mAt 0 166 (some (.int R), (mSh, L, σ)) 4 pl [] (mSh, L, σ) 0 0 := by
  induction n generalizing x0 x1 x2 pl with
  | zero =>
    rw [c_X12_many_4.eq_1] at h
    cases h
  | succ n ih =>
    refine mAt.less hl ?_
    rw [c_X12_many_4.eq_2] at h
    refine mAt.blk bk_X12_many_4 ck_X12_many_4 ?_
    refine q_iload_n rfl ?_
    refine q_bipush ?_
    refine q_ic_ge (fun c1 => ?_) (fun c1 => ?_)
    · rw [if_pos c1] at h
      refine mAt.blk bk_X12_many_24 ck_X12_many_24 ?_
      refine q_iload_n rfl ?_
      have h := Option.some.inj h
      subst h
      exact q_iretI mcap_0 rfl rfl
    · rw [if_neg c1] at h
      refine q_iload_n rfl ?_
      refine q_iload_n rfl ?_
      refine q_iload_n rfl ?_
      refine q_ishr ?_
      refine q_iconst ?_
      refine q_iand ?_
      refine q_iadd ?_
      refine q_istore_n rfl rfl ?_
      refine q_iinc rfl rfl ?_
      refine q_goto ?_
      exact ih  h ⟨rfl, rfl, rfl, trivial⟩
def f_X12_many (p0 : Int32) (σ : Sg) : Option (Int32) := (c_X12_many_4  σ 1000 p0 (0 : Int32) (0 : Int32))
set_option maxHeartbeats 4000000 in
theorem ok_X12_many {L : Nat} {p0 : Int32} {σ : Sg} {R : Int32} (h : f_X12_many p0 σ = some R) : mEv 0 166 [.int p0] (mSh, L, σ) (some (.int R)) (mSh, L, σ) := by
  refine mEv.of (by decide) rfl rfl ?_
  unfold f_X12_many at h
  refine mAt.blk bk_X12_many_0 ck_X12_many_0 ?_
  refine q_iconst ?_
  refine q_istore_n rfl rfl ?_
  refine q_iconst ?_
  refine q_istore_n rfl rfl ?_
  exact okc_X12_many_4  h ⟨rfl, rfl, rfl, trivial⟩
def bk_X12_month_0 : List mI := [(.aload_n 0, 1, 0, 0, 0, []), (.iconst 0, 1, 0, 0, 0, [(0, 0)]), (.iaload, 1, 0, 0, 0, []), (.bipush 30, 2, 0, 0, 0, [(30, 0)]), (.idiv, 1, 0, 0, 0, []), (.bipush 12, 2, 0, 0, 0, [(12, 0)]), (.irem, 1, 0, 0, 0, []), (.ireturn, 1, 0, 0, 0, [])]
theorem ck_X12_month_0 : mChk 167 0 bk_X12_month_0 = true := by decide +kernel
def f_X12_month (r0 : Nat) (σ : Sg) : Option (Int32) := (some (((σ r0 0) / (30 : Int32)) - ((σ r0 0) / (30 : Int32)) / (12 : Int32) * (12 : Int32)))
set_option maxHeartbeats 4000000 in
theorem ok_X12_month {L : Nat} {r0 : Nat} {σ : Sg} {R : Int32} (hr0 : mnth mSh r0 = some (1, 320, [])) (h : f_X12_month r0 σ = some R) : mEv 0 167 [.ref r0] (mSh, L, σ) (some (.int R)) (mSh, L, σ) := by
  refine mEv.of (by decide) rfl rfl ?_
  unfold f_X12_month at h
  refine mAt.blk bk_X12_month_0 ck_X12_month_0 ?_
  refine q_aload_n rfl ?_
  refine q_iconst ?_
  refine q_iald (j := 0) (mrd hr0 _ _) (by decide) (by decide) ?_
  refine q_bipush ?_
  refine q_idiv (by decide) ?_
  refine q_bipush ?_
  refine q_irem (by decide) ?_
  have h := Option.some.inj h
  subst h
  exact q_iretI mcap_0 rfl rfl
def bk_X12_lasts_0 : List mI := [(.aload_n 1, 1, 0, 0, 0, []), (.iload_n 2, 1, 0, 0, 0, []), (.iconst 3, 1, 0, 0, 0, [(3, 0)]), (.invokestatic 148, 3, 141, 0, 1116, []), (.istore_n 3, 1, 0, 0, 0, []), (.aload_n 1, 1, 0, 0, 0, []), (.iload_n 3, 1, 0, 0, 0, []), (.iconst 1, 1, 0, 0, 0, [(1, 0)]), (.invokestatic 162, 3, 140, 0, 1145, []), (.istore 4, 2, 0, 0, 0, []), (.aload_n 1, 1, 0, 0, 0, []), (.iload_n 2, 1, 0, 0, 0, []), (.iconst 1, 1, 0, 0, 0, [(1, 0)]), (.invokestatic 148, 3, 141, 0, 1116, []), (.istore 5, 2, 0, 0, 0, []), (.aload_n 1, 1, 0, 0, 0, []), (.iload_n 2, 1, 0, 0, 0, []), (.iconst 0, 1, 0, 0, 0, [(0, 0)]), (.invokestatic 148, 3, 141, 0, 1116, []), (.istore 6, 2, 0, 0, 0, []), (.iload 4, 2, 0, 0, 0, []), (.istore 7, 2, 0, 0, 0, []), (.iload 6, 2, 0, 0, 0, []), (.tableswitch 132 1 6 #[39, 58, 68, 39, 77, 99], 39, 169, 0, 0, [(1, 76), (2, 95), (3, 105), (4, 76), (5, 114), (6, 136)])]
theorem ck_X12_lasts_0 : mChk 168 0 bk_X12_lasts_0 = true := by decide +kernel
def bk_X12_lasts_76 : List mI := [(.iload 4, 2, 0, 0, 0, []), (.iconst 1, 1, 0, 0, 0, [(1, 0)]), (.if_icmp .le 10, 3, 89, 0, 0, []), (.iload 4, 2, 0, 0, 0, []), (.iconst 1, 1, 0, 0, 0, [(1, 0)]), (.isub, 1, 0, 0, 0, []), (.goto 4, 3, 90, 0, 0, [])]
theorem ck_X12_lasts_76 : mChk 168 76 bk_X12_lasts_76 = true := by decide +kernel
def bk_X12_lasts_89 : List mI := [(.iconst 1, 1, 0, 0, 0, [(1, 0)])]
theorem ck_X12_lasts_89 : mChk 168 89 bk_X12_lasts_89 = true := by decide +kernel
def bk_X12_lasts_90 : List mI := [(.istore 7, 2, 0, 0, 0, []), (.goto 77, 3, 169, 0, 0, [])]
theorem ck_X12_lasts_90 : mChk 168 90 bk_X12_lasts_90 = true := by decide +kernel
def bk_X12_lasts_95 : List mI := [(.iload 4, 2, 0, 0, 0, []), (.iload 5, 2, 0, 0, 0, []), (.iadd, 1, 0, 0, 0, []), (.istore 7, 2, 0, 0, 0, []), (.goto 67, 3, 169, 0, 0, [])]
theorem ck_X12_lasts_95 : mChk 168 95 bk_X12_lasts_95 = true := by decide +kernel
def bk_X12_lasts_105 : List mI := [(.iconst 2, 1, 0, 0, 0, [(2, 0)]), (.iload 4, 2, 0, 0, 0, []), (.imul, 1, 0, 0, 0, []), (.istore 7, 2, 0, 0, 0, []), (.goto 58, 3, 169, 0, 0, [])]
theorem ck_X12_lasts_105 : mChk 168 105 bk_X12_lasts_105 = true := by decide +kernel
def bk_X12_lasts_114 : List mI := [(.iload 4, 2, 0, 0, 0, []), (.aload_n 1, 1, 0, 0, 0, []), (.iconst 1, 1, 0, 0, 0, [(1, 0)]), (.aload_n 1, 1, 0, 0, 0, []), (.iload_n 3, 1, 0, 0, 0, []), (.iconst 0, 1, 0, 0, 0, [(0, 0)]), (.invokestatic 162, 3, 140, 0, 1145, []), (.invokestatic 154, 3, 162, 0, 1113, []), (.invokestatic 165, 3, 166, 0, 1152, []), (.iadd, 1, 0, 0, 0, []), (.istore 7, 2, 0, 0, 0, []), (.goto 36, 3, 169, 0, 0, [])]
theorem ck_X12_lasts_114 : mChk 168 114 bk_X12_lasts_114 = true := by decide +kernel
def bk_X12_lasts_136 : List mI := [(.iload 4, 2, 0, 0, 0, []), (.iload 5, 2, 0, 0, 0, []), (.iadd, 1, 0, 0, 0, []), (.aload_n 1, 1, 0, 0, 0, []), (.invokestatic 168, 3, 167, 0, 1155, []), (.i2l, 1, 0, 0, 0, []), (.ldc2_w 152, 3, 0, 0, 1112, [(5, 0)]), (.ldc2_w 172, 3, 0, 0, 1140, [(7, 0)]), (.invokestatic 48, 3, 135, 0, 1007, []), (.ifCond .eq 7, 3, 162, 0, 0, []), (.iconst 5, 1, 0, 0, 0, [(5, 0)]), (.goto 4, 3, 163, 0, 0, [])]
theorem ck_X12_lasts_136 : mChk 168 136 bk_X12_lasts_136 = true := by decide +kernel
def bk_X12_lasts_162 : List mI := [(.iconst 0, 1, 0, 0, 0, [(0, 0)])]
theorem ck_X12_lasts_162 : mChk 168 162 bk_X12_lasts_162 = true := by decide +kernel
def bk_X12_lasts_163 : List mI := [(.iadd, 1, 0, 0, 0, []), (.istore 7, 2, 0, 0, 0, []), (.goto 3, 3, 169, 0, 0, [])]
theorem ck_X12_lasts_163 : mChk 168 163 bk_X12_lasts_163 = true := by decide +kernel
def bk_X12_lasts_169 : List mI := [(.iload 7, 2, 0, 0, 0, []), (.aload_n 0, 1, 0, 0, 0, []), (.iconst 0, 1, 0, 0, 0, [(0, 0)]), (.iload_n 3, 1, 0, 0, 0, []), (.iload 6, 2, 0, 0, 0, []), (.aload_n 1, 1, 0, 0, 0, []), (.iconst 0, 1, 0, 0, 0, [(0, 0)]), (.iaload, 1, 0, 0, 0, []), (.iload 5, 2, 0, 0, 0, []), (.invokevirtual 123, 3, 155, 0, 1070, []), (.iadd, 1, 0, 0, 0, []), (.ireturn, 1, 0, 0, 0, [])]
theorem ck_X12_lasts_169 : mChk 168 169 bk_X12_lasts_169 = true := by decide +kernel
def c_X12_lasts_169 (r0 : Nat) (x3 : Int32) (x5 : Int32) (x6 : Int32) (x7 : Int32) (σ : Sg) : Option (Int32 × Sg) := ((f_X12_gives (0 : Int32) x3 x6 (σ r0 0) x5 σ).bind fun q3 => (some ((x7 + q3.1), q3.2)))
set_option maxHeartbeats 4000000 in
theorem okc_X12_lasts_169 {L : Nat} {r0 : Nat} {R : Int32 × Sg} (hr0 : mnth mSh r0 = some (1, 320, [])) {x3 : Int32} {x5 : Int32} {x6 : Int32} {x7 : Int32} {σ : Sg} {pl : mLoc} (h : c_X12_lasts_169 r0 x3 x5 x6 x7 σ = some R) (hl : mlf [some (.ref 93), some (.ref r0), none, some (.int x3), none, some (.int x5), some (.int x6), some (.int x7)] pl) : mAt 69 168 (some (.int R.1), (mSh, L, R.2)) 169 pl [] (mSh, L, σ) 0 0 := by
  refine mAt.less hl ?_
  unfold c_X12_lasts_169 at h
  refine mAt.blk bk_X12_lasts_169 ck_X12_lasts_169 ?_
  refine q_iload rfl ?_
  refine q_aload_n rfl ?_
  refine q_iconst ?_
  refine q_iload_n rfl ?_
  refine q_iload rfl ?_
  refine q_aload_n rfl ?_
  refine q_iconst ?_
  refine q_iald (j := 0) (mrd hr0 _ _) (by decide) (by decide) ?_
  refine q_iload rfl ?_
  obtain ⟨q3, e3, h⟩ := mbind h
  refine q_vI5 mcap_0 rfl rfl ob_93 rfl (by decide) (ok_X12_gives  e3) ?_
  refine q_iadd ?_
  have h := Option.some.inj h
  subst h
  exact q_iretI mcap_0 rfl rfl
def c_X12_lasts_90 (r0 : Nat) (x3 : Int32) (x5 : Int32) (x6 : Int32) (s0 : Int32) (σ : Sg) : Option (Int32 × Sg) := (c_X12_lasts_169  r0 x3 x5 x6 s0 σ)
set_option maxHeartbeats 4000000 in
theorem okc_X12_lasts_90 {L : Nat} {r0 : Nat} {R : Int32 × Sg} (hr0 : mnth mSh r0 = some (1, 320, [])) {x3 : Int32} {x5 : Int32} {x6 : Int32} {s0 : Int32} {σ : Sg} {pl : mLoc} (h : c_X12_lasts_90 r0 x3 x5 x6 s0 σ = some R) (hl : mlf [some (.ref 93), some (.ref r0), none, some (.int x3), none, some (.int x5), some (.int x6), none] pl) : mAt 69 168 (some (.int R.1), (mSh, L, R.2)) 90 pl [.int s0] (mSh, L, σ) 0 0 := by
  refine mAt.less hl ?_
  unfold c_X12_lasts_90 at h
  refine mAt.blk bk_X12_lasts_90 ck_X12_lasts_90 ?_
  refine q_istore rfl rfl ?_
  refine q_goto ?_
  exact okc_X12_lasts_169 hr0 h ⟨rfl, rfl, rfl, rfl, rfl, rfl, trivial⟩
def c_X12_lasts_163 (r0 : Nat) (x3 : Int32) (x5 : Int32) (x6 : Int32) (s0 : Int32) (s1 : Int32) (σ : Sg) : Option (Int32 × Sg) := (c_X12_lasts_169  r0 x3 x5 x6 (s0 + s1) σ)
set_option maxHeartbeats 4000000 in
theorem okc_X12_lasts_163 {L : Nat} {r0 : Nat} {R : Int32 × Sg} (hr0 : mnth mSh r0 = some (1, 320, [])) {x3 : Int32} {x5 : Int32} {x6 : Int32} {s0 : Int32} {s1 : Int32} {σ : Sg} {pl : mLoc} (h : c_X12_lasts_163 r0 x3 x5 x6 s0 s1 σ = some R) (hl : mlf [some (.ref 93), some (.ref r0), none, some (.int x3), none, some (.int x5), some (.int x6), none] pl) : mAt 69 168 (some (.int R.1), (mSh, L, R.2)) 163 pl [.int s1, .int s0] (mSh, L, σ) 0 0 := by
  refine mAt.less hl ?_
  unfold c_X12_lasts_163 at h
  refine mAt.blk bk_X12_lasts_163 ck_X12_lasts_163 ?_
  refine q_iadd ?_
  refine q_istore rfl rfl ?_
  refine q_goto ?_
  exact okc_X12_lasts_169 hr0 h ⟨rfl, rfl, rfl, rfl, rfl, rfl, trivial⟩
def c_X12_lasts_76 (r0 : Nat) (x3 : Int32) (x4 : Int32) (x5 : Int32) (x6 : Int32) (σ : Sg) : Option (Int32 × Sg) := (if x4 ≤ (1 : Int32) then (c_X12_lasts_90  r0 x3 x5 x6 (1 : Int32) σ) else (c_X12_lasts_90  r0 x3 x5 x6 (x4 - (1 : Int32)) σ))
set_option maxHeartbeats 4000000 in
theorem okc_X12_lasts_76 {L : Nat} {r0 : Nat} {R : Int32 × Sg} (hr0 : mnth mSh r0 = some (1, 320, [])) {x3 : Int32} {x4 : Int32} {x5 : Int32} {x6 : Int32} {σ : Sg} {pl : mLoc} (h : c_X12_lasts_76 r0 x3 x4 x5 x6 σ = some R) (hl : mlf [some (.ref 93), some (.ref r0), none, some (.int x3), some (.int x4), some (.int x5), some (.int x6), none] pl) : mAt 69 168 (some (.int R.1), (mSh, L, R.2)) 76 pl [] (mSh, L, σ) 0 0 := by
  refine mAt.less hl ?_
  unfold c_X12_lasts_76 at h
  refine mAt.blk bk_X12_lasts_76 ck_X12_lasts_76 ?_
  refine q_iload rfl ?_
  refine q_iconst ?_
  refine q_ic_le (fun c1 => ?_) (fun c1 => ?_)
  · rw [if_pos c1] at h
    refine mAt.blk bk_X12_lasts_89 ck_X12_lasts_89 ?_
    refine q_iconst ?_
    exact okc_X12_lasts_90 hr0 h ⟨rfl, rfl, rfl, rfl, rfl, trivial⟩
  · rw [if_neg c1] at h
    refine q_iload rfl ?_
    refine q_iconst ?_
    refine q_isub ?_
    refine q_goto ?_
    exact okc_X12_lasts_90 hr0 h ⟨rfl, rfl, rfl, rfl, rfl, trivial⟩
def f_X12_lasts (r0 : Nat) (p1 : Int32) (σ : Sg) : Option (Int32 × Sg) := ((f_X12_aThing r0 p1 (3 : Int32) σ).bind fun q4 => ((f_X12_aWell r0 q4 (1 : Int32) σ).bind fun q5 => ((f_X12_aThing r0 p1 (1 : Int32) σ).bind fun q6 => ((f_X12_aThing r0 p1 (0 : Int32) σ).bind fun q7 => (if q7 = (1 : Int32) then (c_X12_lasts_76  r0 q4 q5 q6 q7 σ) else (if q7 = (2 : Int32) then (c_X12_lasts_169  r0 q4 q6 q7 (q5 + q6) σ) else (if q7 = (3 : Int32) then (c_X12_lasts_169  r0 q4 q6 q7 ((2 : Int32) * q5) σ) else (if q7 = (4 : Int32) then (c_X12_lasts_76  r0 q4 q5 q6 q7 σ) else (if q7 = (5 : Int32) then ((f_X12_aWell r0 q4 (0 : Int32) σ).bind fun q8 => ((f_X12_thingsIn r0 (1 : Int32) q8 σ).bind fun q9 => ((f_X12_many q9 σ).bind fun q10 => (c_X12_lasts_169  r0 q4 q6 q7 (q5 + q10) σ)))) else (if q7 = (6 : Int32) then ((f_X12_month r0 σ).bind fun q11 => ((f_X12_isIn (q11).toInt64 (5 : Int32).toInt64 (7 : Int32).toInt64 σ).bind fun q12 => (if q12 = 0 then (c_X12_lasts_163  r0 q4 q6 q7 (q5 + q6) (0 : Int32) σ) else (c_X12_lasts_163  r0 q4 q6 q7 (q5 + q6) (5 : Int32) σ)))) else (c_X12_lasts_169  r0 q4 q6 q7 q5 σ)))))))))))
set_option maxHeartbeats 4000000 in
theorem ok_X12_lasts {L : Nat} {r0 : Nat} {p1 : Int32} {σ : Sg} {R : Int32 × Sg} (hr0 : mnth mSh r0 = some (1, 320, [])) (h : f_X12_lasts r0 p1 σ = some R) : mEv 69 168 [.ref 93, .ref r0, .int p1] (mSh, L, σ) (some (.int R.1)) (mSh, L, R.2) := by
  refine mEv.of (by decide) rfl rfl ?_
  unfold f_X12_lasts at h
  refine mAt.blk bk_X12_lasts_0 ck_X12_lasts_0 ?_
  refine q_aload_n rfl ?_
  refine q_iload_n rfl ?_
  refine q_iconst ?_
  obtain ⟨q4, e4, h⟩ := mbind h
  refine q_sI3 mcap_0 rfl rfl rfl rfl (by decide) (ok_X12_aThing hr0 e4) ?_
  refine q_istore_n rfl rfl ?_
  refine q_aload_n rfl ?_
  refine q_iload_n rfl ?_
  refine q_iconst ?_
  obtain ⟨q5, e5, h⟩ := mbind h
  refine q_sI3 mcap_0 rfl rfl rfl rfl (by decide) (ok_X12_aWell hr0 e5) ?_
  refine q_istore rfl rfl ?_
  refine q_aload_n rfl ?_
  refine q_iload_n rfl ?_
  refine q_iconst ?_
  obtain ⟨q6, e6, h⟩ := mbind h
  refine q_sI3 mcap_0 rfl rfl rfl rfl (by decide) (ok_X12_aThing hr0 e6) ?_
  refine q_istore rfl rfl ?_
  refine q_aload_n rfl ?_
  refine q_iload_n rfl ?_
  refine q_iconst ?_
  obtain ⟨q7, e7, h⟩ := mbind h
  refine q_sI3 mcap_0 rfl rfl rfl rfl (by decide) (ok_X12_aThing hr0 e7) ?_
  refine q_istore rfl rfl ?_
  refine q_iload rfl ?_
  refine q_istore rfl rfl ?_
  refine q_iload rfl ?_
  refine q_tsw ?_
  refine ⟨fun c19 => ?_, fun c19 => ?_⟩
  · rw [if_pos c19] at h
    exact okc_X12_lasts_76 hr0 h ⟨rfl, rfl, rfl, rfl, rfl, rfl, trivial⟩
  · rw [if_neg c19] at h
    refine ⟨fun c18 => ?_, fun c18 => ?_⟩
    · rw [if_pos c18] at h
      refine mAt.blk bk_X12_lasts_95 ck_X12_lasts_95 ?_
      refine q_iload rfl ?_
      refine q_iload rfl ?_
      refine q_iadd ?_
      refine q_istore rfl rfl ?_
      refine q_goto ?_
      exact okc_X12_lasts_169 hr0 h ⟨rfl, rfl, rfl, rfl, rfl, rfl, trivial⟩
    · rw [if_neg c18] at h
      refine ⟨fun c17 => ?_, fun c17 => ?_⟩
      · rw [if_pos c17] at h
        refine mAt.blk bk_X12_lasts_105 ck_X12_lasts_105 ?_
        refine q_iconst ?_
        refine q_iload rfl ?_
        refine q_imul ?_
        refine q_istore rfl rfl ?_
        refine q_goto ?_
        exact okc_X12_lasts_169 hr0 h ⟨rfl, rfl, rfl, rfl, rfl, rfl, trivial⟩
      · rw [if_neg c17] at h
        refine ⟨fun c16 => ?_, fun c16 => ?_⟩
        · rw [if_pos c16] at h
          exact okc_X12_lasts_76 hr0 h ⟨rfl, rfl, rfl, rfl, rfl, rfl, trivial⟩
        · rw [if_neg c16] at h
          refine ⟨fun c15 => ?_, fun c15 => ?_⟩
          · rw [if_pos c15] at h
            refine mAt.blk bk_X12_lasts_114 ck_X12_lasts_114 ?_
            refine q_iload rfl ?_
            refine q_aload_n rfl ?_
            refine q_iconst ?_
            refine q_aload_n rfl ?_
            refine q_iload_n rfl ?_
            refine q_iconst ?_
            obtain ⟨q8, e8, h⟩ := mbind h
            refine q_sI3 mcap_0 rfl rfl rfl rfl (by decide) (ok_X12_aWell hr0 e8) ?_
            obtain ⟨q9, e9, h⟩ := mbind h
            refine q_sI3 mcap_0 rfl rfl rfl rfl (by decide) (ok_X12_thingsIn hr0 e9) ?_
            obtain ⟨q10, e10, h⟩ := mbind h
            refine q_sI1 mcap_0 rfl rfl rfl rfl (by decide) (ok_X12_many  e10) ?_
            refine q_iadd ?_
            refine q_istore rfl rfl ?_
            refine q_goto ?_
            exact okc_X12_lasts_169 hr0 h ⟨rfl, rfl, rfl, rfl, rfl, rfl, trivial⟩
          · rw [if_neg c15] at h
            refine ⟨fun c14 => ?_, fun c14 => ?_⟩
            · rw [if_pos c14] at h
              refine mAt.blk bk_X12_lasts_136 ck_X12_lasts_136 ?_
              refine q_iload rfl ?_
              refine q_iload rfl ?_
              refine q_iadd ?_
              refine q_aload_n rfl ?_
              obtain ⟨q11, e11, h⟩ := mbind h
              refine q_sI1 mcap_0 rfl rfl rfl rfl (by decide) (ok_X12_month hr0 e11) ?_
              refine q_i2l ?_
              refine q_ldc2_w ?_
              refine q_ldc2_w ?_
              obtain ⟨q12, e12, h⟩ := mbind h
              refine q_sI3 mcap_0 rfl rfl rfl rfl (by decide) (ok_X12_isIn  e12) ?_
              refine q_if_eq (fun c13 => ?_) (fun c13 => ?_)
              · rw [if_pos c13] at h
                refine mAt.blk bk_X12_lasts_162 ck_X12_lasts_162 ?_
                refine q_iconst ?_
                exact okc_X12_lasts_163 hr0 h ⟨rfl, rfl, rfl, rfl, rfl, trivial⟩
              · rw [if_neg c13] at h
                refine q_iconst ?_
                refine q_goto ?_
                exact okc_X12_lasts_163 hr0 h ⟨rfl, rfl, rfl, rfl, rfl, trivial⟩
            · rw [if_neg c14] at h
              exact okc_X12_lasts_169 hr0 h ⟨rfl, rfl, rfl, rfl, rfl, rfl, trivial⟩
def bk_X12_stays_0 : List mI := [(.aload_n 0, 1, 0, 0, 0, []), (.iload_n 1, 1, 0, 0, 0, []), (.iconst 0, 1, 0, 0, 0, [(0, 0)]), (.invokestatic 148, 3, 141, 0, 1116, []), (.istore_n 2, 1, 0, 0, 0, []), (.aload_n 0, 1, 0, 0, 0, []), (.iload_n 1, 1, 0, 0, 0, []), (.iconst 1, 1, 0, 0, 0, [(1, 0)]), (.invokestatic 148, 3, 141, 0, 1116, []), (.istore_n 3, 1, 0, 0, 0, []), (.aload_n 0, 1, 0, 0, 0, []), (.iconst 0, 1, 0, 0, 0, [(0, 0)]), (.aload_n 0, 1, 0, 0, 0, []), (.iload_n 1, 1, 0, 0, 0, []), (.iconst 3, 1, 0, 0, 0, [(3, 0)]), (.invokestatic 148, 3, 141, 0, 1116, []), (.invokestatic 154, 3, 162, 0, 1113, []), (.invokestatic 165, 3, 166, 0, 1152, []), (.iconst 1, 1, 0, 0, 0, [(1, 0)]), (.isub, 1, 0, 0, 0, []), (.istore 4, 2, 0, 0, 0, []), (.iload_n 3, 1, 0, 0, 0, []), (.iconst 3, 1, 0, 0, 0, [(3, 0)]), (.if_icmp .gt 13, 3, 47, 0, 0, []), (.iload 4, 2, 0, 0, 0, []), (.iload_n 3, 1, 0, 0, 0, []), (.if_icmp .ge 7, 3, 47, 0, 0, []), (.iconst 1, 1, 0, 0, 0, [(1, 0)]), (.goto 4, 3, 48, 0, 0, [])]
theorem ck_X12_stays_0 : mChk 169 0 bk_X12_stays_0 = true := by decide +kernel
def bk_X12_stays_47 : List mI := [(.iconst 0, 1, 0, 0, 0, [(0, 0)])]
theorem ck_X12_stays_47 : mChk 169 47 bk_X12_stays_47 = true := by decide +kernel
def bk_X12_stays_48 : List mI := [(.istore 5, 2, 0, 0, 0, []), (.iload_n 2, 1, 0, 0, 0, []), (.tableswitch 79 2 6 #[33, 36, 79, 79, 59], 33, 130, 0, 0, [(2, 84), (3, 87), (4, 130), (5, 130), (6, 110)])]
theorem ck_X12_stays_48 : mChk 169 48 bk_X12_stays_48 = true := by decide +kernel
def bk_X12_stays_84 : List mI := [(.iload 5, 2, 0, 0, 0, []), (.ireturn, 1, 0, 0, 0, [])]
theorem ck_X12_stays_84 : mChk 169 84 bk_X12_stays_84 = true := by decide +kernel
def bk_X12_stays_87 : List mI := [(.aload_n 0, 1, 0, 0, 0, []), (.invokestatic 168, 3, 167, 0, 1155, []), (.iconst 2, 1, 0, 0, 0, [(2, 0)]), (.if_icmp .lt 12, 3, 104, 0, 0, []), (.aload_n 0, 1, 0, 0, 0, []), (.invokestatic 168, 3, 167, 0, 1155, []), (.bipush 11, 2, 0, 0, 0, [(11, 0)]), (.if_icmp .ne 7, 3, 108, 0, 0, [])]
theorem ck_X12_stays_87 : mChk 169 87 bk_X12_stays_87 = true := by decide +kernel
def bk_X12_stays_104 : List mI := [(.iconst 1, 1, 0, 0, 0, [(1, 0)]), (.goto 4, 3, 109, 0, 0, [])]
theorem ck_X12_stays_104 : mChk 169 104 bk_X12_stays_104 = true := by decide +kernel
def bk_X12_stays_108 : List mI := [(.iconst 0, 1, 0, 0, 0, [(0, 0)])]
theorem ck_X12_stays_108 : mChk 169 108 bk_X12_stays_108 = true := by decide +kernel
def bk_X12_stays_109 : List mI := [(.ireturn, 1, 0, 0, 0, [])]
theorem ck_X12_stays_109 : mChk 169 109 bk_X12_stays_109 = true := by decide +kernel
def bk_X12_stays_110 : List mI := [(.iload 5, 2, 0, 0, 0, []), (.ifCond .ne 12, 3, 124, 0, 0, []), (.aload_n 0, 1, 0, 0, 0, []), (.iconst 0, 1, 0, 0, 0, [(0, 0)]), (.iaload, 1, 0, 0, 0, []), (.bipush 7, 2, 0, 0, 0, [(7, 0)]), (.irem, 1, 0, 0, 0, []), (.ifCond .ne 7, 3, 128, 0, 0, [])]
theorem ck_X12_stays_110 : mChk 169 110 bk_X12_stays_110 = true := by decide +kernel
def bk_X12_stays_124 : List mI := [(.iconst 1, 1, 0, 0, 0, [(1, 0)]), (.goto 4, 3, 129, 0, 0, [])]
theorem ck_X12_stays_124 : mChk 169 124 bk_X12_stays_124 = true := by decide +kernel
def bk_X12_stays_128 : List mI := [(.iconst 0, 1, 0, 0, 0, [(0, 0)])]
theorem ck_X12_stays_128 : mChk 169 128 bk_X12_stays_128 = true := by decide +kernel
def bk_X12_stays_129 : List mI := [(.ireturn, 1, 0, 0, 0, [])]
theorem ck_X12_stays_129 : mChk 169 129 bk_X12_stays_129 = true := by decide +kernel
def bk_X12_stays_130 : List mI := [(.iconst 0, 1, 0, 0, 0, [(0, 0)]), (.ireturn, 1, 0, 0, 0, [])]
theorem ck_X12_stays_130 : mChk 169 130 bk_X12_stays_130 = true := by decide +kernel
def c_X12_stays_104 (r0 : Nat) (σ : Sg) : Option (Int32) := (some (1 : Int32))
set_option maxHeartbeats 4000000 in
theorem okc_X12_stays_104 {L : Nat} {r0 : Nat} {σ : Sg} {R : Int32} (hr0 : mnth mSh r0 = some (1, 320, [])) {pl : mLoc} (h : c_X12_stays_104 r0 σ = some R) (hl : mlf [none, none, none, none, none, none] pl) : mAt 2 169 (some (.int R), (mSh, L, σ)) 104 pl [] (mSh, L, σ) 0 0 := by
  refine mAt.less hl ?_
  unfold c_X12_stays_104 at h
  refine mAt.blk bk_X12_stays_104 ck_X12_stays_104 ?_
  refine q_iconst ?_
  refine q_goto ?_
  refine mAt.blk bk_X12_stays_109 ck_X12_stays_109 ?_
  have h := Option.some.inj h
  subst h
  exact q_iretZ mcap_0 rfl (by decide) rfl
def c_X12_stays_124 (r0 : Nat) (σ : Sg) : Option (Int32) := (some (1 : Int32))
set_option maxHeartbeats 4000000 in
theorem okc_X12_stays_124 {L : Nat} {r0 : Nat} {σ : Sg} {R : Int32} (hr0 : mnth mSh r0 = some (1, 320, [])) {pl : mLoc} (h : c_X12_stays_124 r0 σ = some R) (hl : mlf [none, none, none, none, none, none] pl) : mAt 2 169 (some (.int R), (mSh, L, σ)) 124 pl [] (mSh, L, σ) 0 0 := by
  refine mAt.less hl ?_
  unfold c_X12_stays_124 at h
  refine mAt.blk bk_X12_stays_124 ck_X12_stays_124 ?_
  refine q_iconst ?_
  refine q_goto ?_
  refine mAt.blk bk_X12_stays_129 ck_X12_stays_129 ?_
  have h := Option.some.inj h
  subst h
  exact q_iretZ mcap_0 rfl (by decide) rfl
def c_X12_stays_48 (r0 : Nat) (σ : Sg) (x2 : Int32) (s0 : Int32) : Option (Int32) := (if x2 = (2 : Int32) then (if s0 = 0 ∨ s0 = 1 then some s0 else none) else (if x2 = (3 : Int32) then ((f_X12_month r0 σ).bind fun q2 => (if q2 < (2 : Int32) then (c_X12_stays_104  r0 σ ) else ((f_X12_month r0 σ).bind fun q4 => (if q4 = (11 : Int32) then (c_X12_stays_104  r0 σ ) else (some (0 : Int32)))))) else (if x2 = (4 : Int32) then (some (0 : Int32)) else (if x2 = (5 : Int32) then (some (0 : Int32)) else (if x2 = (6 : Int32) then (if s0 = 0 then (if ((σ r0 0) - (σ r0 0) / (7 : Int32) * (7 : Int32)) = 0 then (c_X12_stays_124  r0 σ ) else (some (0 : Int32))) else (c_X12_stays_124  r0 σ )) else (some (0 : Int32)))))))
set_option maxHeartbeats 4000000 in
theorem okc_X12_stays_48 {L : Nat} {r0 : Nat} {σ : Sg} {R : Int32} (hr0 : mnth mSh r0 = some (1, 320, [])) {x2 : Int32} {s0 : Int32} {pl : mLoc} (h : c_X12_stays_48 r0 σ x2 s0 = some R) (hl : mlf [some (.ref r0), none, some (.int x2), none, none, none] pl) : mAt 2 169 (some (.int R), (mSh, L, σ)) 48 pl [.int s0] (mSh, L, σ) 0 0 := by
  refine mAt.less hl ?_
  unfold c_X12_stays_48 at h
  refine mAt.blk bk_X12_stays_48 ck_X12_stays_48 ?_
  refine q_istore rfl rfl ?_
  refine q_iload_n rfl ?_
  refine q_tsw ?_
  refine ⟨fun c13 => ?_, fun c13 => ?_⟩
  · rw [if_pos c13] at h
    refine mAt.blk bk_X12_stays_84 ck_X12_stays_84 ?_
    refine q_iload rfl ?_
    obtain ⟨c1, h⟩ := msome h
    have h := Option.some.inj h
    subst h
    exact q_iretZ mcap_0 rfl c1 rfl
  · rw [if_neg c13] at h
    refine ⟨fun c12 => ?_, fun c12 => ?_⟩
    · rw [if_pos c12] at h
      refine mAt.blk bk_X12_stays_87 ck_X12_stays_87 ?_
      refine q_aload_n rfl ?_
      obtain ⟨q2, e2, h⟩ := mbind h
      refine q_sI1 mcap_0 rfl rfl rfl rfl (by decide) (ok_X12_month hr0 e2) ?_
      refine q_iconst ?_
      refine q_ic_lt (fun c3 => ?_) (fun c3 => ?_)
      · rw [if_pos c3] at h
        exact okc_X12_stays_104 hr0 h trivial
      · rw [if_neg c3] at h
        refine q_aload_n rfl ?_
        obtain ⟨q4, e4, h⟩ := mbind h
        refine q_sI1 mcap_0 rfl rfl rfl rfl (by decide) (ok_X12_month hr0 e4) ?_
        refine q_bipush ?_
        refine q_ic_ne (fun c5 => ?_) (fun c5 => ?_)
        · rw [if_pos c5] at h
          exact okc_X12_stays_104 hr0 h trivial
        · rw [if_neg c5] at h
          refine mAt.blk bk_X12_stays_108 ck_X12_stays_108 ?_
          refine q_iconst ?_
          refine mAt.blk bk_X12_stays_109 ck_X12_stays_109 ?_
          have h := Option.some.inj h
          subst h
          exact q_iretZ mcap_0 rfl (by decide) rfl
    · rw [if_neg c12] at h
      refine ⟨fun c11 => ?_, fun c11 => ?_⟩
      · rw [if_pos c11] at h
        refine mAt.blk bk_X12_stays_130 ck_X12_stays_130 ?_
        refine q_iconst ?_
        have h := Option.some.inj h
        subst h
        exact q_iretZ mcap_0 rfl (by decide) rfl
      · rw [if_neg c11] at h
        refine ⟨fun c10 => ?_, fun c10 => ?_⟩
        · rw [if_pos c10] at h
          refine mAt.blk bk_X12_stays_130 ck_X12_stays_130 ?_
          refine q_iconst ?_
          have h := Option.some.inj h
          subst h
          exact q_iretZ mcap_0 rfl (by decide) rfl
        · rw [if_neg c10] at h
          refine ⟨fun c9 => ?_, fun c9 => ?_⟩
          · rw [if_pos c9] at h
            refine mAt.blk bk_X12_stays_110 ck_X12_stays_110 ?_
            refine q_iload rfl ?_
            refine q_if_ne (fun c6 => ?_) (fun c6 => ?_)
            · rw [if_pos c6] at h
              refine q_aload_n rfl ?_
              refine q_iconst ?_
              refine q_iald (j := 0) (mrd hr0 _ _) (by decide) (by decide) ?_
              refine q_bipush ?_
              refine q_irem (by decide) ?_
              refine q_if_ne (fun c8 => ?_) (fun c8 => ?_)
              · rw [if_pos c8] at h
                exact okc_X12_stays_124 hr0 h trivial
              · rw [if_neg c8] at h
                refine mAt.blk bk_X12_stays_128 ck_X12_stays_128 ?_
                refine q_iconst ?_
                refine mAt.blk bk_X12_stays_129 ck_X12_stays_129 ?_
                have h := Option.some.inj h
                subst h
                exact q_iretZ mcap_0 rfl (by decide) rfl
            · rw [if_neg c6] at h
              exact okc_X12_stays_124 hr0 h trivial
          · rw [if_neg c9] at h
            refine mAt.blk bk_X12_stays_130 ck_X12_stays_130 ?_
            refine q_iconst ?_
            have h := Option.some.inj h
            subst h
            exact q_iretZ mcap_0 rfl (by decide) rfl
def c_X12_stays_47 (r0 : Nat) (σ : Sg) (x2 : Int32) : Option (Int32) := (c_X12_stays_48  r0 σ x2 (0 : Int32))
set_option maxHeartbeats 4000000 in
theorem okc_X12_stays_47 {L : Nat} {r0 : Nat} {σ : Sg} {R : Int32} (hr0 : mnth mSh r0 = some (1, 320, [])) {x2 : Int32} {pl : mLoc} (h : c_X12_stays_47 r0 σ x2 = some R) (hl : mlf [some (.ref r0), none, some (.int x2), none, none, none] pl) : mAt 2 169 (some (.int R), (mSh, L, σ)) 47 pl [] (mSh, L, σ) 0 0 := by
  refine mAt.less hl ?_
  unfold c_X12_stays_47 at h
  refine mAt.blk bk_X12_stays_47 ck_X12_stays_47 ?_
  refine q_iconst ?_
  exact okc_X12_stays_48 hr0 h ⟨rfl, rfl, trivial⟩
def f_X12_stays (r0 : Nat) (p1 : Int32) (σ : Sg) : Option (Int32) := ((f_X12_aThing r0 p1 (0 : Int32) σ).bind fun q14 => ((f_X12_aThing r0 p1 (1 : Int32) σ).bind fun q15 => ((f_X12_aThing r0 p1 (3 : Int32) σ).bind fun q16 => ((f_X12_thingsIn r0 (0 : Int32) q16 σ).bind fun q17 => ((f_X12_many q17 σ).bind fun q18 => (if (3 : Int32) < q15 then (c_X12_stays_47  r0 σ q14) else (if q15 ≤ (q18 - (1 : Int32)) then (c_X12_stays_47  r0 σ q14) else (c_X12_stays_48  r0 σ q14 (1 : Int32)))))))))
set_option maxHeartbeats 4000000 in
theorem ok_X12_stays {L : Nat} {r0 : Nat} {p1 : Int32} {σ : Sg} {R : Int32} (hr0 : mnth mSh r0 = some (1, 320, [])) (h : f_X12_stays r0 p1 σ = some R) : mEv 2 169 [.ref r0, .int p1] (mSh, L, σ) (some (.int R)) (mSh, L, σ) := by
  refine mEv.of (by decide) rfl rfl ?_
  unfold f_X12_stays at h
  refine mAt.blk bk_X12_stays_0 ck_X12_stays_0 ?_
  refine q_aload_n rfl ?_
  refine q_iload_n rfl ?_
  refine q_iconst ?_
  obtain ⟨q14, e14, h⟩ := mbind h
  refine q_sI3 mcap_0 rfl rfl rfl rfl (by decide) (ok_X12_aThing hr0 e14) ?_
  refine q_istore_n rfl rfl ?_
  refine q_aload_n rfl ?_
  refine q_iload_n rfl ?_
  refine q_iconst ?_
  obtain ⟨q15, e15, h⟩ := mbind h
  refine q_sI3 mcap_0 rfl rfl rfl rfl (by decide) (ok_X12_aThing hr0 e15) ?_
  refine q_istore_n rfl rfl ?_
  refine q_aload_n rfl ?_
  refine q_iconst ?_
  refine q_aload_n rfl ?_
  refine q_iload_n rfl ?_
  refine q_iconst ?_
  obtain ⟨q16, e16, h⟩ := mbind h
  refine q_sI3 mcap_0 rfl rfl rfl rfl (by decide) (ok_X12_aThing hr0 e16) ?_
  obtain ⟨q17, e17, h⟩ := mbind h
  refine q_sI3 mcap_0 rfl rfl rfl rfl (by decide) (ok_X12_thingsIn hr0 e17) ?_
  obtain ⟨q18, e18, h⟩ := mbind h
  refine q_sI1 mcap_0 rfl rfl rfl rfl (by decide) (ok_X12_many  e18) ?_
  refine q_iconst ?_
  refine q_isub ?_
  refine q_istore rfl rfl ?_
  refine q_iload_n rfl ?_
  refine q_iconst ?_
  refine q_ic_gt (fun c19 => ?_) (fun c19 => ?_)
  · rw [if_pos c19] at h
    exact okc_X12_stays_47 hr0 h ⟨rfl, rfl, trivial⟩
  · rw [if_neg c19] at h
    refine q_iload rfl ?_
    refine q_iload_n rfl ?_
    refine q_ic_ge (fun c20 => ?_) (fun c20 => ?_)
    · rw [if_pos c20] at h
      exact okc_X12_stays_47 hr0 h ⟨rfl, rfl, trivial⟩
    · rw [if_neg c20] at h
      refine q_iconst ?_
      refine q_goto ?_
      exact okc_X12_stays_48 hr0 h ⟨rfl, rfl, trivial⟩
def bk_X12_ofIt_0 : List mI := [(.aload_n 1, 1, 0, 0, 0, []), (.iload_n 2, 1, 0, 0, 0, []), (.iconst 2, 1, 0, 0, 0, [(2, 0)]), (.invokestatic 148, 3, 141, 0, 1116, []), (.ifCond .ne 7, 3, 13, 0, 0, []), (.iconst 1, 1, 0, 0, 0, [(1, 0)]), (.goto 4, 3, 14, 0, 0, [])]
theorem ck_X12_ofIt_0 : mChk 170 0 bk_X12_ofIt_0 = true := by decide +kernel
def bk_X12_ofIt_13 : List mI := [(.iconst 0, 1, 0, 0, 0, [(0, 0)])]
theorem ck_X12_ofIt_13 : mChk 170 13 bk_X12_ofIt_13 = true := by decide +kernel
def bk_X12_ofIt_14 : List mI := [(.istore 4, 2, 0, 0, 0, []), (.iload_n 3, 1, 0, 0, 0, []), (.tableswitch 101 4 7 #[31, 101, 52, 82], 31, 118, 0, 0, [(4, 48), (5, 118), (6, 69), (7, 99)])]
theorem ck_X12_ofIt_14 : mChk 170 14 bk_X12_ofIt_14 = true := by decide +kernel
def bk_X12_ofIt_48 : List mI := [(.aload_n 1, 1, 0, 0, 0, []), (.iload_n 2, 1, 0, 0, 0, []), (.iconst 2, 1, 0, 0, 0, [(2, 0)]), (.invokestatic 148, 3, 141, 0, 1116, []), (.iconst 1, 1, 0, 0, 0, [(1, 0)]), (.if_icmp .ne 12, 3, 67, 0, 0, []), (.aload_n 1, 1, 0, 0, 0, []), (.iload_n 2, 1, 0, 0, 0, []), (.iconst 4, 1, 0, 0, 0, [(4, 0)]), (.invokestatic 148, 3, 141, 0, 1116, []), (.goto 4, 3, 68, 0, 0, [])]
theorem ck_X12_ofIt_48 : mChk 170 48 bk_X12_ofIt_48 = true := by decide +kernel
def bk_X12_ofIt_67 : List mI := [(.iconst 0, 1, 0, 0, 0, [(0, 0)])]
theorem ck_X12_ofIt_67 : mChk 170 67 bk_X12_ofIt_67 = true := by decide +kernel
def bk_X12_ofIt_68 : List mI := [(.ireturn, 1, 0, 0, 0, [])]
theorem ck_X12_ofIt_68 : mChk 170 68 bk_X12_ofIt_68 = true := by decide +kernel
def bk_X12_ofIt_69 : List mI := [(.iload 4, 2, 0, 0, 0, []), (.ifCond .eq 26, 3, 97, 0, 0, []), (.aload_n 1, 1, 0, 0, 0, []), (.aload_n 1, 1, 0, 0, 0, []), (.iload_n 2, 1, 0, 0, 0, []), (.iconst 3, 1, 0, 0, 0, [(3, 0)]), (.invokestatic 148, 3, 141, 0, 1116, []), (.iconst 0, 1, 0, 0, 0, [(0, 0)]), (.invokestatic 162, 3, 140, 0, 1145, []), (.ifCond .lt 12, 3, 97, 0, 0, []), (.aload_n 0, 1, 0, 0, 0, []), (.aload_n 1, 1, 0, 0, 0, []), (.iload_n 2, 1, 0, 0, 0, []), (.invokevirtual 174, 3, 168, 0, 1148, []), (.goto 4, 3, 98, 0, 0, [])]
theorem ck_X12_ofIt_69 : mChk 170 69 bk_X12_ofIt_69 = true := by decide +kernel
def bk_X12_ofIt_97 : List mI := [(.iconst (-1), 1, 0, 0, 0, [((-1), 0)])]
theorem ck_X12_ofIt_97 : mChk 170 97 bk_X12_ofIt_97 = true := by decide +kernel
def bk_X12_ofIt_98 : List mI := [(.ireturn, 1, 0, 0, 0, [])]
theorem ck_X12_ofIt_98 : mChk 170 98 bk_X12_ofIt_98 = true := by decide +kernel
def bk_X12_ofIt_99 : List mI := [(.iload 4, 2, 0, 0, 0, []), (.ifCond .eq 15, 3, 116, 0, 0, []), (.aload_n 1, 1, 0, 0, 0, []), (.iload_n 2, 1, 0, 0, 0, []), (.invokestatic 178, 3, 169, 0, 1158, []), (.ifCond .eq 7, 3, 116, 0, 0, []), (.iconst 1, 1, 0, 0, 0, [(1, 0)]), (.goto 4, 3, 117, 0, 0, [])]
theorem ck_X12_ofIt_99 : mChk 170 99 bk_X12_ofIt_99 = true := by decide +kernel
def bk_X12_ofIt_116 : List mI := [(.iconst 0, 1, 0, 0, 0, [(0, 0)])]
theorem ck_X12_ofIt_116 : mChk 170 116 bk_X12_ofIt_116 = true := by decide +kernel
def bk_X12_ofIt_117 : List mI := [(.ireturn, 1, 0, 0, 0, [])]
theorem ck_X12_ofIt_117 : mChk 170 117 bk_X12_ofIt_117 = true := by decide +kernel
def bk_X12_ofIt_118 : List mI := [(.aload_n 1, 1, 0, 0, 0, []), (.iload_n 2, 1, 0, 0, 0, []), (.iload_n 3, 1, 0, 0, 0, []), (.invokestatic 148, 3, 141, 0, 1116, []), (.ireturn, 1, 0, 0, 0, [])]
theorem ck_X12_ofIt_118 : mChk 170 118 bk_X12_ofIt_118 = true := by decide +kernel
def c_X12_ofIt_14 (r0 : Nat) (x2 : Int32) (x3 : Int32) (s0 : Int32) (σ : Sg) : Option (Int32 × Sg) := (if x3 = (4 : Int32) then ((f_X12_aThing r0 x2 (2 : Int32) σ).bind fun q1 => (if q1 = (1 : Int32) then ((f_X12_aThing r0 x2 (4 : Int32) σ).bind fun q3 => (some (q3, σ))) else (some ((0 : Int32), σ)))) else (if x3 = (5 : Int32) then ((f_X12_aThing r0 x2 x3 σ).bind fun q4 => (some (q4, σ))) else (if x3 = (6 : Int32) then (if s0 = 0 then (some ((-1 : Int32), σ)) else ((f_X12_aThing r0 x2 (3 : Int32) σ).bind fun q6 => ((f_X12_aWell r0 q6 (0 : Int32) σ).bind fun q7 => (if q7 < 0 then (some ((-1 : Int32), σ)) else ((f_X12_lasts r0 x2 σ).bind fun q9 => (some (q9.1, q9.2))))))) else (if x3 = (7 : Int32) then (if s0 = 0 then (some ((0 : Int32), σ)) else ((f_X12_stays r0 x2 σ).bind fun q11 => (if q11 = 0 then (some ((0 : Int32), σ)) else (some ((1 : Int32), σ))))) else ((f_X12_aThing r0 x2 x3 σ).bind fun q13 => (some (q13, σ)))))))
set_option maxHeartbeats 4000000 in
theorem okc_X12_ofIt_14 {L : Nat} {r0 : Nat} {R : Int32 × Sg} (hr0 : mnth mSh r0 = some (1, 320, [])) {x2 : Int32} {x3 : Int32} {s0 : Int32} {σ : Sg} {pl : mLoc} (h : c_X12_ofIt_14 r0 x2 x3 s0 σ = some R) (hl : mlf [some (.ref 93), some (.ref r0), some (.int x2), some (.int x3), none] pl) : mAt 70 170 (some (.int R.1), (mSh, L, R.2)) 14 pl [.int s0] (mSh, L, σ) 0 0 := by
  refine mAt.less hl ?_
  unfold c_X12_ofIt_14 at h
  refine mAt.blk bk_X12_ofIt_14 ck_X12_ofIt_14 ?_
  refine q_istore rfl rfl ?_
  refine q_iload_n rfl ?_
  refine q_tsw ?_
  refine ⟨fun c17 => ?_, fun c17 => ?_⟩
  · rw [if_pos c17] at h
    refine mAt.blk bk_X12_ofIt_48 ck_X12_ofIt_48 ?_
    refine q_aload_n rfl ?_
    refine q_iload_n rfl ?_
    refine q_iconst ?_
    obtain ⟨q1, e1, h⟩ := mbind h
    refine q_sI3 mcap_0 rfl rfl rfl rfl (by decide) (ok_X12_aThing hr0 e1) ?_
    refine q_iconst ?_
    refine q_ic_ne (fun c2 => ?_) (fun c2 => ?_)
    · rw [if_pos c2] at h
      refine q_aload_n rfl ?_
      refine q_iload_n rfl ?_
      refine q_iconst ?_
      obtain ⟨q3, e3, h⟩ := mbind h
      refine q_sI3 mcap_0 rfl rfl rfl rfl (by decide) (ok_X12_aThing hr0 e3) ?_
      refine q_goto ?_
      refine mAt.blk bk_X12_ofIt_68 ck_X12_ofIt_68 ?_
      have h := Option.some.inj h
      subst h
      exact q_iretI mcap_0 rfl rfl
    · rw [if_neg c2] at h
      refine mAt.blk bk_X12_ofIt_67 ck_X12_ofIt_67 ?_
      refine q_iconst ?_
      refine mAt.blk bk_X12_ofIt_68 ck_X12_ofIt_68 ?_
      have h := Option.some.inj h
      subst h
      exact q_iretI mcap_0 rfl rfl
  · rw [if_neg c17] at h
    refine ⟨fun c16 => ?_, fun c16 => ?_⟩
    · rw [if_pos c16] at h
      refine mAt.blk bk_X12_ofIt_118 ck_X12_ofIt_118 ?_
      refine q_aload_n rfl ?_
      refine q_iload_n rfl ?_
      refine q_iload_n rfl ?_
      obtain ⟨q4, e4, h⟩ := mbind h
      refine q_sI3 mcap_0 rfl rfl rfl rfl (by decide) (ok_X12_aThing hr0 e4) ?_
      have h := Option.some.inj h
      subst h
      exact q_iretI mcap_0 rfl rfl
    · rw [if_neg c16] at h
      refine ⟨fun c15 => ?_, fun c15 => ?_⟩
      · rw [if_pos c15] at h
        refine mAt.blk bk_X12_ofIt_69 ck_X12_ofIt_69 ?_
        refine q_iload rfl ?_
        refine q_if_eq (fun c5 => ?_) (fun c5 => ?_)
        · rw [if_pos c5] at h
          refine mAt.blk bk_X12_ofIt_97 ck_X12_ofIt_97 ?_
          refine q_iconst ?_
          refine mAt.blk bk_X12_ofIt_98 ck_X12_ofIt_98 ?_
          have h := Option.some.inj h
          subst h
          exact q_iretI mcap_0 rfl rfl
        · rw [if_neg c5] at h
          refine q_aload_n rfl ?_
          refine q_aload_n rfl ?_
          refine q_iload_n rfl ?_
          refine q_iconst ?_
          obtain ⟨q6, e6, h⟩ := mbind h
          refine q_sI3 mcap_0 rfl rfl rfl rfl (by decide) (ok_X12_aThing hr0 e6) ?_
          refine q_iconst ?_
          obtain ⟨q7, e7, h⟩ := mbind h
          refine q_sI3 mcap_0 rfl rfl rfl rfl (by decide) (ok_X12_aWell hr0 e7) ?_
          refine q_if_lt (fun c8 => ?_) (fun c8 => ?_)
          · rw [if_pos c8] at h
            refine mAt.blk bk_X12_ofIt_97 ck_X12_ofIt_97 ?_
            refine q_iconst ?_
            refine mAt.blk bk_X12_ofIt_98 ck_X12_ofIt_98 ?_
            have h := Option.some.inj h
            subst h
            exact q_iretI mcap_0 rfl rfl
          · rw [if_neg c8] at h
            refine q_aload_n rfl ?_
            refine q_aload_n rfl ?_
            refine q_iload_n rfl ?_
            obtain ⟨q9, e9, h⟩ := mbind h
            refine q_vI2 mcap_0 rfl rfl ob_93 rfl (by decide) (ok_X12_lasts hr0 e9) ?_
            refine q_goto ?_
            refine mAt.blk bk_X12_ofIt_98 ck_X12_ofIt_98 ?_
            have h := Option.some.inj h
            subst h
            exact q_iretI mcap_0 rfl rfl
      · rw [if_neg c15] at h
        refine ⟨fun c14 => ?_, fun c14 => ?_⟩
        · rw [if_pos c14] at h
          refine mAt.blk bk_X12_ofIt_99 ck_X12_ofIt_99 ?_
          refine q_iload rfl ?_
          refine q_if_eq (fun c10 => ?_) (fun c10 => ?_)
          · rw [if_pos c10] at h
            refine mAt.blk bk_X12_ofIt_116 ck_X12_ofIt_116 ?_
            refine q_iconst ?_
            refine mAt.blk bk_X12_ofIt_117 ck_X12_ofIt_117 ?_
            have h := Option.some.inj h
            subst h
            exact q_iretI mcap_0 rfl rfl
          · rw [if_neg c10] at h
            refine q_aload_n rfl ?_
            refine q_iload_n rfl ?_
            obtain ⟨q11, e11, h⟩ := mbind h
            refine q_sI2 mcap_0 rfl rfl rfl rfl (by decide) (ok_X12_stays hr0 e11) ?_
            refine q_if_eq (fun c12 => ?_) (fun c12 => ?_)
            · rw [if_pos c12] at h
              refine mAt.blk bk_X12_ofIt_116 ck_X12_ofIt_116 ?_
              refine q_iconst ?_
              refine mAt.blk bk_X12_ofIt_117 ck_X12_ofIt_117 ?_
              have h := Option.some.inj h
              subst h
              exact q_iretI mcap_0 rfl rfl
            · rw [if_neg c12] at h
              refine q_iconst ?_
              refine q_goto ?_
              refine mAt.blk bk_X12_ofIt_117 ck_X12_ofIt_117 ?_
              have h := Option.some.inj h
              subst h
              exact q_iretI mcap_0 rfl rfl
        · rw [if_neg c14] at h
          refine mAt.blk bk_X12_ofIt_118 ck_X12_ofIt_118 ?_
          refine q_aload_n rfl ?_
          refine q_iload_n rfl ?_
          refine q_iload_n rfl ?_
          obtain ⟨q13, e13, h⟩ := mbind h
          refine q_sI3 mcap_0 rfl rfl rfl rfl (by decide) (ok_X12_aThing hr0 e13) ?_
          have h := Option.some.inj h
          subst h
          exact q_iretI mcap_0 rfl rfl
def f_X12_ofIt (r0 : Nat) (p1 : Int32) (p2 : Int32) (σ : Sg) : Option (Int32 × Sg) := ((f_X12_aThing r0 p1 (2 : Int32) σ).bind fun q18 => (if q18 = 0 then (c_X12_ofIt_14  r0 p1 p2 (1 : Int32) σ) else (c_X12_ofIt_14  r0 p1 p2 (0 : Int32) σ)))
set_option maxHeartbeats 4000000 in
theorem ok_X12_ofIt {L : Nat} {r0 : Nat} {p1 : Int32} {p2 : Int32} {σ : Sg} {R : Int32 × Sg} (hr0 : mnth mSh r0 = some (1, 320, [])) (h : f_X12_ofIt r0 p1 p2 σ = some R) : mEv 70 170 [.ref 93, .ref r0, .int p1, .int p2] (mSh, L, σ) (some (.int R.1)) (mSh, L, R.2) := by
  refine mEv.of (by decide) rfl rfl ?_
  unfold f_X12_ofIt at h
  refine mAt.blk bk_X12_ofIt_0 ck_X12_ofIt_0 ?_
  refine q_aload_n rfl ?_
  refine q_iload_n rfl ?_
  refine q_iconst ?_
  obtain ⟨q18, e18, h⟩ := mbind h
  refine q_sI3 mcap_0 rfl rfl rfl rfl (by decide) (ok_X12_aThing hr0 e18) ?_
  refine q_if_ne (fun c19 => ?_) (fun c19 => ?_)
  · rw [if_pos c19] at h
    refine q_iconst ?_
    refine q_goto ?_
    exact okc_X12_ofIt_14 hr0 h ⟨rfl, rfl, rfl, rfl, trivial⟩
  · rw [if_neg c19] at h
    refine mAt.blk bk_X12_ofIt_13 ck_X12_ofIt_13 ?_
    refine q_iconst ?_
    exact okc_X12_ofIt_14 hr0 h ⟨rfl, rfl, rfl, rfl, trivial⟩
