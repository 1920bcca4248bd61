def bk_X12_ofThing_0 : List mI := [(.aload_n 0, 1, 0, 0, 0, []), (.iload_n 1, 1, 0, 0, 0, []), (.invokevirtual 182, 3, 139, 0, 1136, []), (.ifCond .eq 28, 3, 33, 0, 0, []), (.iload_n 2, 1, 0, 0, 0, []), (.i2l, 1, 0, 0, 0, []), (.lconst 0, 1, 0, 0, 0, [(0, 0)]), (.ldc2_w 172, 3, 0, 0, 1140, [(7, 0)]), (.invokestatic 48, 3, 135, 0, 1007, []), (.ifCond .eq 16, 3, 33, 0, 0, []), (.aload_n 0, 1, 0, 0, 0, []), (.aload_n 0, 1, 0, 0, 0, []), (.getfield 7, 3, 12, 0, 937, []), (.iload_n 1, 1, 0, 0, 0, []), (.iload_n 2, 1, 0, 0, 0, []), (.invokevirtual 185, 3, 170, 0, 1141, []), (.goto 8, 3, 38, 0, 0, [])]
theorem ck_X12_ofThing_0 : mChk 171 0 bk_X12_ofThing_0 = true := by decide +kernel
def bk_X12_ofThing_33 : List mI := [(.aload_n 0, 1, 0, 0, 0, []), (.iconst 1, 1, 0, 0, 0, [(1, 0)]), (.invokevirtual 111, 3, 134, 0, 1010, [])]
theorem ck_X12_ofThing_33 : mChk 171 33 bk_X12_ofThing_33 = true := by decide +kernel
def bk_X12_ofThing_38 : List mI := [(.ireturn, 1, 0, 0, 0, [])]
theorem ck_X12_ofThing_38 : mChk 171 38 bk_X12_ofThing_38 = true := by decide +kernel
def f_X12_ofThing (p0 : Int32) (p1 : Int32) (σ : Sg) : Option (Int32 × Sg) := ((f_X12_isThing p0 σ).bind fun q1 => (if q1 = 0 then ((f_X12_finds (1 : Int32) σ).bind fun q3 => (some (q3.1, q3.2))) else ((f_X12_isIn (p1).toInt64 (0 : Int32).toInt64 (7 : Int32).toInt64 σ).bind fun q4 => (if q4 = 0 then ((f_X12_finds (1 : Int32) σ).bind fun q6 => (some (q6.1, q6.2))) else ((f_X12_ofIt 94 p0 p1 σ).bind fun q7 => (some (q7.1, q7.2)))))))
set_option maxHeartbeats 4000000 in
theorem ok_X12_ofThing {L : Nat} {p0 : Int32} {p1 : Int32} {σ : Sg} {R : Int32 × Sg} (h : f_X12_ofThing p0 p1 σ = some R) : mEv 71 171 [.ref 93, .int p0, .int p1] (mSh, L, σ) (some (.int R.1)) (mSh, L, R.2) := by
  refine mEv.of (by decide) rfl rfl ?_
  unfold f_X12_ofThing at h
  refine mAt.blk bk_X12_ofThing_0 ck_X12_ofThing_0 ?_
  refine q_aload_n rfl ?_
  refine q_iload_n rfl ?_
  obtain ⟨q1, e1, h⟩ := mbind h
  refine q_vI1 mcap_0 rfl rfl ob_93 rfl (by decide) (ok_X12_isThing  e1) ?_
  refine q_if_eq (fun c2 => ?_) (fun c2 => ?_)
  · rw [if_pos c2] at h
    refine mAt.blk bk_X12_ofThing_33 ck_X12_ofThing_33 ?_
    refine q_aload_n rfl ?_
    refine q_iconst ?_
    obtain ⟨q3, e3, h⟩ := mbind h
    refine q_vI1 mcap_0 rfl rfl ob_93 rfl (by decide) (ok_X12_finds  e3) ?_
    refine mAt.blk bk_X12_ofThing_38 ck_X12_ofThing_38 ?_
    have h := Option.some.inj h
    subst h
    exact q_iretI mcap_0 rfl rfl
  · rw [if_neg c2] at h
    refine q_iload_n rfl ?_
    refine q_i2l ?_
    refine q_lconst ?_
    refine q_ldc2_w ?_
    obtain ⟨q4, e4, h⟩ := mbind h
    refine q_sI3 mcap_0 rfl rfl rfl rfl (by decide) (ok_X12_isIn  e4) ?_
    refine q_if_eq (fun c5 => ?_) (fun c5 => ?_)
    · rw [if_pos c5] at h
      refine mAt.blk bk_X12_ofThing_33 ck_X12_ofThing_33 ?_
      refine q_aload_n rfl ?_
      refine q_iconst ?_
      obtain ⟨q6, e6, h⟩ := mbind h
      refine q_vI1 mcap_0 rfl rfl ob_93 rfl (by decide) (ok_X12_finds  e6) ?_
      refine mAt.blk bk_X12_ofThing_38 ck_X12_ofThing_38 ?_
      have h := Option.some.inj h
      subst h
      exact q_iretI mcap_0 rfl rfl
    · rw [if_neg c5] at h
      refine q_aload_n rfl ?_
      refine q_aload_n rfl ?_
      refine q_getR ob_93 rfl rfl ?_
      refine q_iload_n rfl ?_
      refine q_iload_n rfl ?_
      obtain ⟨q7, e7, h⟩ := mbind h
      refine q_vI3 mcap_0 rfl rfl ob_93 rfl (by decide) (ok_X12_ofIt ar_94 e7) ?_
      refine q_goto ?_
      refine mAt.blk bk_X12_ofThing_38 ck_X12_ofThing_38 ?_
      have h := Option.some.inj h
      subst h
      exact q_iretI mcap_0 rfl rfl
def bk_X12_isOf_0 : List mI := [(.iload_n 1, 1, 0, 0, 0, []), (.ifCond .eq 29, 3, 30, 0, 0, []), (.iload_n 1, 1, 0, 0, 0, []), (.iload_n 0, 1, 0, 0, 0, []), (.if_icmp .eq 24, 3, 30, 0, 0, []), (.iload_n 1, 1, 0, 0, 0, []), (.iconst 1, 1, 0, 0, 0, [(1, 0)]), (.if_icmp .ne 8, 3, 19, 0, 0, []), (.iload_n 0, 1, 0, 0, 0, []), (.iconst 4, 1, 0, 0, 0, [(4, 0)]), (.if_icmp .eq 14, 3, 30, 0, 0, [])]
theorem ck_X12_isOf_0 : mChk 172 0 bk_X12_isOf_0 = true := by decide +kernel
def bk_X12_isOf_19 : List mI := [(.iload_n 1, 1, 0, 0, 0, []), (.iconst 2, 1, 0, 0, 0, [(2, 0)]), (.if_icmp .ne 13, 3, 34, 0, 0, []), (.iload_n 0, 1, 0, 0, 0, []), (.bipush 6, 2, 0, 0, 0, [(6, 0)]), (.if_icmp .ne 7, 3, 34, 0, 0, [])]
theorem ck_X12_isOf_19 : mChk 172 19 bk_X12_isOf_19 = true := by decide +kernel
def bk_X12_isOf_30 : List mI := [(.iconst 1, 1, 0, 0, 0, [(1, 0)]), (.goto 4, 3, 35, 0, 0, [])]
theorem ck_X12_isOf_30 : mChk 172 30 bk_X12_isOf_30 = true := by decide +kernel
def bk_X12_isOf_34 : List mI := [(.iconst 0, 1, 0, 0, 0, [(0, 0)])]
theorem ck_X12_isOf_34 : mChk 172 34 bk_X12_isOf_34 = true := by decide +kernel
def bk_X12_isOf_35 : List mI := [(.ireturn, 1, 0, 0, 0, [])]
theorem ck_X12_isOf_35 : mChk 172 35 bk_X12_isOf_35 = true := by decide +kernel
def c_X12_isOf_30 (σ : Sg) : Option (Int32) := (some (1 : Int32))
set_option maxHeartbeats 4000000 in
theorem okc_X12_isOf_30 {L : Nat} {σ : Sg} {R : Int32} {pl : mLoc} (h : c_X12_isOf_30 σ = some R) (hl : mlf [none, none] pl) : mAt 0 172 (some (.int R), (mSh, L, σ)) 30 pl [] (mSh, L, σ) 0 0 := by
  refine mAt.less hl ?_
  unfold c_X12_isOf_30 at h
  refine mAt.blk bk_X12_isOf_30 ck_X12_isOf_30 ?_
  refine q_iconst ?_
  refine q_goto ?_
  refine mAt.blk bk_X12_isOf_35 ck_X12_isOf_35 ?_
  have h := Option.some.inj h
  subst h
  exact q_iretZ mcap_0 rfl (by decide) rfl
def c_X12_isOf_19 (σ : Sg) (x0 : Int32) (x1 : Int32) : Option (Int32) := (if x1 = (2 : Int32) then (if x0 = (6 : Int32) then (c_X12_isOf_30  σ ) else (some (0 : Int32))) else (some (0 : Int32)))
set_option maxHeartbeats 4000000 in
theorem okc_X12_isOf_19 {L : Nat} {σ : Sg} {R : Int32} {x0 : Int32} {x1 : Int32} {pl : mLoc} (h : c_X12_isOf_19 σ x0 x1 = some R) (hl : mlf [some (.int x0), some (.int x1)] pl) : mAt 0 172 (some (.int R), (mSh, L, σ)) 19 pl [] (mSh, L, σ) 0 0 := by
  refine mAt.less hl ?_
  unfold c_X12_isOf_19 at h
  refine mAt.blk bk_X12_isOf_19 ck_X12_isOf_19 ?_
  refine q_iload_n rfl ?_
  refine q_iconst ?_
  refine q_ic_ne (fun c1 => ?_) (fun c1 => ?_)
  · rw [if_pos c1] at h
    refine q_iload_n rfl ?_
    refine q_bipush ?_
    refine q_ic_ne (fun c2 => ?_) (fun c2 => ?_)
    · rw [if_pos c2] at h
      exact okc_X12_isOf_30  h trivial
    · rw [if_neg c2] at h
      refine mAt.blk bk_X12_isOf_34 ck_X12_isOf_34 ?_
      refine q_iconst ?_
      refine mAt.blk bk_X12_isOf_35 ck_X12_isOf_35 ?_
      have h := Option.some.inj h
      subst h
      exact q_iretZ mcap_0 rfl (by decide) rfl
  · rw [if_neg c1] at h
    refine mAt.blk bk_X12_isOf_34 ck_X12_isOf_34 ?_
    refine q_iconst ?_
    refine mAt.blk bk_X12_isOf_35 ck_X12_isOf_35 ?_
    have h := Option.some.inj h
    subst h
    exact q_iretZ mcap_0 rfl (by decide) rfl
def f_X12_isOf (p0 : Int32) (p1 : Int32) (σ : Sg) : Option (Int32) := (if p1 = 0 then (c_X12_isOf_30  σ ) else (if p1 = p0 then (c_X12_isOf_30  σ ) else (if p1 = (1 : Int32) then (if p0 = (4 : Int32) then (c_X12_isOf_30  σ ) else (c_X12_isOf_19  σ p0 p1)) else (c_X12_isOf_19  σ p0 p1))))
set_option maxHeartbeats 4000000 in
theorem ok_X12_isOf {L : Nat} {p0 : Int32} {p1 : Int32} {σ : Sg} {R : Int32} (h : f_X12_isOf p0 p1 σ = some R) : mEv 0 172 [.int p0, .int p1] (mSh, L, σ) (some (.int R)) (mSh, L, σ) := by
  refine mEv.of (by decide) rfl rfl ?_
  unfold f_X12_isOf at h
  refine mAt.blk bk_X12_isOf_0 ck_X12_isOf_0 ?_
  refine q_iload_n rfl ?_
  refine q_if_eq (fun c3 => ?_) (fun c3 => ?_)
  · rw [if_pos c3] at h
    exact okc_X12_isOf_30  h trivial
  · rw [if_neg c3] at h
    refine q_iload_n rfl ?_
    refine q_iload_n rfl ?_
    refine q_ic_eq (fun c4 => ?_) (fun c4 => ?_)
    · rw [if_pos c4] at h
      exact okc_X12_isOf_30  h trivial
    · rw [if_neg c4] at h
      refine q_iload_n rfl ?_
      refine q_iconst ?_
      refine q_ic_ne (fun c5 => ?_) (fun c5 => ?_)
      · rw [if_pos c5] at h
        refine q_iload_n rfl ?_
        refine q_iconst ?_
        refine q_ic_eq (fun c6 => ?_) (fun c6 => ?_)
        · rw [if_pos c6] at h
          exact okc_X12_isOf_30  h trivial
        · rw [if_neg c6] at h
          exact okc_X12_isOf_19  h ⟨rfl, rfl, trivial⟩
      · rw [if_neg c5] at h
        exact okc_X12_isOf_19  h ⟨rfl, rfl, trivial⟩
def bk_X12_itsKind_0 : List mI := [(.aload_n 0, 1, 0, 0, 0, []), (.getfield 7, 3, 12, 0, 937, []), (.bipush 46, 2, 0, 0, 0, [(46, 0)]), (.bipush 6, 2, 0, 0, 0, [(6, 0)]), (.iload_n 1, 1, 0, 0, 0, []), (.imul, 1, 0, 0, 0, []), (.iadd, 1, 0, 0, 0, []), (.iconst 0, 1, 0, 0, 0, [(0, 0)]), (.iadd, 1, 0, 0, 0, []), (.iaload, 1, 0, 0, 0, []), (.ireturn, 1, 0, 0, 0, [])]
theorem ck_X12_itsKind_0 : mChk 174 0 bk_X12_itsKind_0 = true := by decide +kernel
def f_X12_itsKind (p0 : Int32) (σ : Sg) : Option (Int32) := (if (((46 : Int32) + ((6 : Int32) * p0)) + (0 : Int32)) < 0 ∨ 320 ≤ ((((46 : Int32) + ((6 : Int32) * p0)) + (0 : Int32))).toNatClampNeg then none else (some (σ 94 ((((46 : Int32) + ((6 : Int32) * p0)) + (0 : Int32))).toNatClampNeg)))
set_option maxHeartbeats 4000000 in
theorem ok_X12_itsKind {L : Nat} {p0 : Int32} {σ : Sg} {R : Int32} (h : f_X12_itsKind p0 σ = some R) : mEv 0 174 [.ref 93, .int p0] (mSh, L, σ) (some (.int R)) (mSh, L, σ) := by
  refine mEv.of (by decide) rfl rfl ?_
  unfold f_X12_itsKind at h
  refine mAt.blk bk_X12_itsKind_0 ck_X12_itsKind_0 ?_
  refine q_aload_n rfl ?_
  refine q_getR ob_93 rfl rfl ?_
  refine q_bipush ?_
  refine q_bipush ?_
  refine q_iload_n rfl ?_
  refine q_imul ?_
  refine q_iadd ?_
  refine q_iconst ?_
  refine q_iadd ?_
  obtain ⟨c1, h⟩ := mnone h
  refine q_iald (mrd ar_94 _ _) rfl c1 ?_
  have h := Option.some.inj h
  subst h
  exact q_iretI mcap_0 rfl rfl
def bk_X12_as_0 : List mI := [(.aload_n 0, 1, 0, 0, 0, []), (.iload_n 1, 1, 0, 0, 0, []), (.invokevirtual 182, 3, 139, 0, 1136, []), (.ifCond .eq 15, 3, 20, 0, 0, []), (.iload_n 2, 1, 0, 0, 0, []), (.i2l, 1, 0, 0, 0, []), (.lconst 0, 1, 0, 0, 0, [(0, 0)]), (.ldc2_w 160, 3, 0, 0, 1131, [(6, 0)]), (.invokestatic 48, 3, 135, 0, 1007, []), (.ifCond .ne 9, 3, 26, 0, 0, [])]
theorem ck_X12_as_0 : mChk 173 0 bk_X12_as_0 = true := by decide +kernel
def bk_X12_as_20 : List mI := [(.aload_n 0, 1, 0, 0, 0, []), (.iconst 1, 1, 0, 0, 0, [(1, 0)]), (.invokevirtual 111, 3, 134, 0, 1010, []), (.ireturn, 1, 0, 0, 0, [])]
theorem ck_X12_as_20 : mChk 173 20 bk_X12_as_20 = true := by decide +kernel
def bk_X12_as_26 : List mI := [(.aload_n 0, 1, 0, 0, 0, []), (.iload_n 1, 1, 0, 0, 0, []), (.invokevirtual 188, 3, 174, 0, 1165, []), (.iload_n 2, 1, 0, 0, 0, []), (.invokestatic 191, 3, 172, 0, 1169, []), (.ifCond .eq 20, 3, 55, 0, 0, []), (.aload_n 0, 1, 0, 0, 0, []), (.getfield 7, 3, 12, 0, 937, []), (.bipush 46, 2, 0, 0, 0, [(46, 0)]), (.bipush 6, 2, 0, 0, 0, [(6, 0)]), (.iload_n 1, 1, 0, 0, 0, []), (.imul, 1, 0, 0, 0, []), (.iadd, 1, 0, 0, 0, []), (.iconst 1, 1, 0, 0, 0, [(1, 0)]), (.iadd, 1, 0, 0, 0, []), (.iaload, 1, 0, 0, 0, []), (.goto 8, 3, 60, 0, 0, [])]
theorem ck_X12_as_26 : mChk 173 26 bk_X12_as_26 = true := by decide +kernel
def bk_X12_as_55 : List mI := [(.aload_n 0, 1, 0, 0, 0, []), (.iconst 5, 1, 0, 0, 0, [(5, 0)]), (.invokevirtual 111, 3, 134, 0, 1010, [])]
theorem ck_X12_as_55 : mChk 173 55 bk_X12_as_55 = true := by decide +kernel
def bk_X12_as_60 : List mI := [(.ireturn, 1, 0, 0, 0, [])]
theorem ck_X12_as_60 : mChk 173 60 bk_X12_as_60 = true := by decide +kernel
def f_X12_as (p0 : Int32) (p1 : Int32) (σ : Sg) : Option (Int32 × Sg) := ((f_X12_isThing p0 σ).bind fun q1 => (if q1 = 0 then ((f_X12_finds (1 : Int32) σ).bind fun q3 => (some (q3.1, q3.2))) else ((f_X12_isIn (p1).toInt64 (0 : Int32).toInt64 (6 : Int32).toInt64 σ).bind fun q4 => (if q4 = 0 then ((f_X12_finds (1 : Int32) σ).bind fun q11 => (some (q11.1, q11.2))) else ((f_X12_itsKind p0 σ).bind fun q6 => ((f_X12_isOf q6 p1 σ).bind fun q7 => (if q7 = 0 then ((f_X12_finds (5 : Int32) σ).bind fun q9 => (some (q9.1, q9.2))) else (if (((46 : Int32) + ((6 : Int32) * p0)) + (1 : Int32)) < 0 ∨ 320 ≤ ((((46 : Int32) + ((6 : Int32) * p0)) + (1 : Int32))).toNatClampNeg then none else (some ((σ 94 ((((46 : Int32) + ((6 : Int32) * p0)) + (1 : Int32))).toNatClampNeg), σ))))))))))
set_option maxHeartbeats 4000000 in
theorem ok_X12_as {L : Nat} {p0 : Int32} {p1 : Int32} {σ : Sg} {R : Int32 × Sg} (h : f_X12_as p0 p1 σ = some R) : mEv 2 173 [.ref 93, .int p0, .int p1] (mSh, L, σ) (some (.int R.1)) (mSh, L, R.2) := by
  refine mEv.of (by decide) rfl rfl ?_
  unfold f_X12_as at h
  refine mAt.blk bk_X12_as_0 ck_X12_as_0 ?_
  refine q_aload_n rfl ?_
  refine q_iload_n rfl ?_
  obtain ⟨q1, e1, h⟩ := mbind h
  refine q_vI1 mcap_0 rfl rfl ob_93 rfl (by decide) (ok_X12_isThing  e1) ?_
  refine q_if_eq (fun c2 => ?_) (fun c2 => ?_)
  · rw [if_pos c2] at h
    refine mAt.blk bk_X12_as_20 ck_X12_as_20 ?_
    refine q_aload_n rfl ?_
    refine q_iconst ?_
    obtain ⟨q3, e3, h⟩ := mbind h
    refine q_vI1 mcap_0 rfl rfl ob_93 rfl (by decide) (ok_X12_finds  e3) ?_
    have h := Option.some.inj h
    subst h
    exact q_iretI mcap_0 rfl rfl
  · rw [if_neg c2] at h
    refine q_iload_n rfl ?_
    refine q_i2l ?_
    refine q_lconst ?_
    refine q_ldc2_w ?_
    obtain ⟨q4, e4, h⟩ := mbind h
    refine q_sI3 mcap_0 rfl rfl rfl rfl (by decide) (ok_X12_isIn  e4) ?_
    refine q_if_ne (fun c5 => ?_) (fun c5 => ?_)
    · rw [if_pos c5] at h
      refine mAt.blk bk_X12_as_20 ck_X12_as_20 ?_
      refine q_aload_n rfl ?_
      refine q_iconst ?_
      obtain ⟨q11, e11, h⟩ := mbind h
      refine q_vI1 mcap_0 rfl rfl ob_93 rfl (by decide) (ok_X12_finds  e11) ?_
      have h := Option.some.inj h
      subst h
      exact q_iretI mcap_0 rfl rfl
    · rw [if_neg c5] at h
      refine mAt.blk bk_X12_as_26 ck_X12_as_26 ?_
      refine q_aload_n rfl ?_
      refine q_iload_n rfl ?_
      obtain ⟨q6, e6, h⟩ := mbind h
      refine q_vI1 mcap_0 rfl rfl ob_93 rfl (by decide) (ok_X12_itsKind  e6) ?_
      refine q_iload_n rfl ?_
      obtain ⟨q7, e7, h⟩ := mbind h
      refine q_sI2 mcap_0 rfl rfl rfl rfl (by decide) (ok_X12_isOf  e7) ?_
      refine q_if_eq (fun c8 => ?_) (fun c8 => ?_)
      · rw [if_pos c8] at h
        refine mAt.blk bk_X12_as_55 ck_X12_as_55 ?_
        refine q_aload_n rfl ?_
        refine q_iconst ?_
        obtain ⟨q9, e9, h⟩ := mbind h
        refine q_vI1 mcap_0 rfl rfl ob_93 rfl (by decide) (ok_X12_finds  e9) ?_
        refine mAt.blk bk_X12_as_60 ck_X12_as_60 ?_
        have h := Option.some.inj h
        subst h
        exact q_iretI mcap_0 rfl rfl
      · rw [if_neg c8] at h
        refine q_aload_n rfl ?_
        refine q_getR ob_93 rfl rfl ?_
        refine q_bipush ?_
        refine q_bipush ?_
        refine q_iload_n rfl ?_
        refine q_imul ?_
        refine q_iadd ?_
        refine q_iconst ?_
        refine q_iadd ?_
        obtain ⟨c10, h⟩ := mnone h
        refine q_iald (mrd ar_94 _ _) rfl c10 ?_
        refine q_goto ?_
        refine mAt.blk bk_X12_as_60 ck_X12_as_60 ?_
        have h := Option.some.inj h
        subst h
        exact q_iretI mcap_0 rfl rfl
def bk_X12_puts_0 : List mI := [(.aload_n 0, 1, 0, 0, 0, []), (.bipush 46, 2, 0, 0, 0, [(46, 0)]), (.bipush 6, 2, 0, 0, 0, [(6, 0)]), (.iload_n 1, 1, 0, 0, 0, []), (.imul, 1, 0, 0, 0, []), (.iadd, 1, 0, 0, 0, []), (.iconst 2, 1, 0, 0, 0, [(2, 0)]), (.iadd, 1, 0, 0, 0, []), (.iload_n 2, 1, 0, 0, 0, []), (.iastore, 1, 0, 0, 0, []), (.aload_n 0, 1, 0, 0, 0, []), (.bipush 46, 2, 0, 0, 0, [(46, 0)]), (.bipush 6, 2, 0, 0, 0, [(6, 0)]), (.iload_n 1, 1, 0, 0, 0, []), (.imul, 1, 0, 0, 0, []), (.iadd, 1, 0, 0, 0, []), (.iconst 3, 1, 0, 0, 0, [(3, 0)]), (.iadd, 1, 0, 0, 0, []), (.iload_n 3, 1, 0, 0, 0, []), (.iastore, 1, 0, 0, 0, []), (.aload_n 0, 1, 0, 0, 0, []), (.bipush 46, 2, 0, 0, 0, [(46, 0)]), (.bipush 6, 2, 0, 0, 0, [(6, 0)]), (.iload_n 1, 1, 0, 0, 0, []), (.imul, 1, 0, 0, 0, []), (.iadd, 1, 0, 0, 0, []), (.iconst 4, 1, 0, 0, 0, [(4, 0)]), (.iadd, 1, 0, 0, 0, []), (.iload 4, 2, 0, 0, 0, []), (.iastore, 1, 0, 0, 0, []), (.return_, 1, 0, 0, 0, [])]
theorem ck_X12_puts_0 : mChk 175 0 bk_X12_puts_0 = true := by decide +kernel
def f_X12_puts (r0 : Nat) (p1 : Int32) (p2 : Int32) (p3 : Int32) (p4 : Int32) (σ : Sg) : Option (Sg) := (if (((46 : Int32) + ((6 : Int32) * p1)) + (2 : Int32)) < 0 ∨ 320 ≤ ((((46 : Int32) + ((6 : Int32) * p1)) + (2 : Int32))).toNatClampNeg then none else (if (((46 : Int32) + ((6 : Int32) * p1)) + (3 : Int32)) < 0 ∨ 320 ≤ ((((46 : Int32) + ((6 : Int32) * p1)) + (3 : Int32))).toNatClampNeg then none else (if (((46 : Int32) + ((6 : Int32) * p1)) + (4 : Int32)) < 0 ∨ 320 ≤ ((((46 : Int32) + ((6 : Int32) * p1)) + (4 : Int32))).toNatClampNeg then none else (some (mup (mup (mup σ r0 ((((46 : Int32) + ((6 : Int32) * p1)) + (2 : Int32))).toNatClampNeg p2) r0 ((((46 : Int32) + ((6 : Int32) * p1)) + (3 : Int32))).toNatClampNeg p3) r0 ((((46 : Int32) + ((6 : Int32) * p1)) + (4 : Int32))).toNatClampNeg p4)))))
set_option maxHeartbeats 4000000 in
theorem ok_X12_puts {L : Nat} {r0 : Nat} {p1 : Int32} {p2 : Int32} {p3 : Int32} {p4 : Int32} {σ : Sg} {R : Sg} (hr0 : mnth mSh r0 = some (1, 320, [])) (h : f_X12_puts r0 p1 p2 p3 p4 σ = some R) : mEv 0 175 [.ref r0, .int p1, .int p2, .int p3, .int p4] (mSh, L, σ) none (mSh, L, R) := by
  refine mEv.of (by decide) rfl rfl ?_
  unfold f_X12_puts at h
  refine mAt.blk bk_X12_puts_0 ck_X12_puts_0 ?_
  refine q_aload_n rfl ?_
  refine q_bipush ?_
  refine q_bipush ?_
  refine q_iload_n rfl ?_
  refine q_imul ?_
  refine q_iadd ?_
  refine q_iconst ?_
  refine q_iadd ?_
  refine q_iload_n rfl ?_
  obtain ⟨c1, h⟩ := mnone h
  refine q_iast rfl hr0 c1 ?_
  refine q_aload_n rfl ?_
  refine q_bipush ?_
  refine q_bipush ?_
  refine q_iload_n rfl ?_
  refine q_imul ?_
  refine q_iadd ?_
  refine q_iconst ?_
  refine q_iadd ?_
  refine q_iload_n rfl ?_
  obtain ⟨c2, h⟩ := mnone h
  refine q_iast rfl hr0 c2 ?_
  refine q_aload_n rfl ?_
  refine q_bipush ?_
  refine q_bipush ?_
  refine q_iload_n rfl ?_
  refine q_imul ?_
  refine q_iadd ?_
  refine q_iconst ?_
  refine q_iadd ?_
  refine q_iload rfl ?_
  obtain ⟨c3, h⟩ := mnone h
  refine q_iast rfl hr0 c3 ?_
  have h := Option.some.inj h
  subst h
  exact q_vret mcap_0 rfl rfl
def bk_X12_isNow_0 : List mI := [(.aload_n 0, 1, 0, 0, 0, []), (.getfield 7, 3, 12, 0, 937, []), (.bipush 46, 2, 0, 0, 0, [(46, 0)]), (.bipush 6, 2, 0, 0, 0, [(6, 0)]), (.iload_n 1, 1, 0, 0, 0, []), (.imul, 1, 0, 0, 0, []), (.iadd, 1, 0, 0, 0, []), (.iconst 2, 1, 0, 0, 0, [(2, 0)]), (.iadd, 1, 0, 0, 0, []), (.iaload, 1, 0, 0, 0, []), (.ireturn, 1, 0, 0, 0, [])]
theorem ck_X12_isNow_0 : mChk 176 0 bk_X12_isNow_0 = true := by decide +kernel
def f_X12_isNow (p0 : Int32) (σ : Sg) : Option (Int32) := (if (((46 : Int32) + ((6 : Int32) * p0)) + (2 : Int32)) < 0 ∨ 320 ≤ ((((46 : Int32) + ((6 : Int32) * p0)) + (2 : Int32))).toNatClampNeg then none else (some (σ 94 ((((46 : Int32) + ((6 : Int32) * p0)) + (2 : Int32))).toNatClampNeg)))
set_option maxHeartbeats 4000000 in
theorem ok_X12_isNow {L : Nat} {p0 : Int32} {σ : Sg} {R : Int32} (h : f_X12_isNow p0 σ = some R) : mEv 0 176 [.ref 93, .int p0] (mSh, L, σ) (some (.int R)) (mSh, L, σ) := by
  refine mEv.of (by decide) rfl rfl ?_
  unfold f_X12_isNow at h
  refine mAt.blk bk_X12_isNow_0 ck_X12_isNow_0 ?_
  refine q_aload_n rfl ?_
  refine q_getR ob_93 rfl rfl ?_
  refine q_bipush ?_
  refine q_bipush ?_
  refine q_iload_n rfl ?_
  refine q_imul ?_
  refine q_iadd ?_
  refine q_iconst ?_
  refine q_iadd ?_
  obtain ⟨c1, h⟩ := mnone h
  refine q_iald (mrd ar_94 _ _) rfl c1 ?_
  have h := Option.some.inj h
  subst h
  exact q_iretI mcap_0 rfl rfl
def bk_X12_let_0 : List mI := [(.aload_n 0, 1, 0, 0, 0, []), (.iload_n 1, 1, 0, 0, 0, []), (.invokevirtual 182, 3, 139, 0, 1136, []), (.ifCond .eq 11, 3, 16, 0, 0, []), (.aload_n 0, 1, 0, 0, 0, []), (.iload_n 2, 1, 0, 0, 0, []), (.invokevirtual 131, 3, 138, 0, 1085, []), (.ifCond .ne 9, 3, 22, 0, 0, [])]
theorem ck_X12_let_0 : mChk 177 0 bk_X12_let_0 = true := by decide +kernel
def bk_X12_let_16 : List mI := [(.aload_n 0, 1, 0, 0, 0, []), (.iconst 1, 1, 0, 0, 0, [(1, 0)]), (.invokevirtual 111, 3, 134, 0, 1010, []), (.ireturn, 1, 0, 0, 0, [])]
theorem ck_X12_let_16 : mChk 177 16 bk_X12_let_16 = true := by decide +kernel
def bk_X12_let_22 : List mI := [(.aload_n 0, 1, 0, 0, 0, []), (.iload_n 1, 1, 0, 0, 0, []), (.invokevirtual 194, 3, 176, 0, 1176, []), (.iconst 2, 1, 0, 0, 0, [(2, 0)]), (.if_icmp .eq 9, 3, 37, 0, 0, []), (.aload_n 0, 1, 0, 0, 0, []), (.iconst 3, 1, 0, 0, 0, [(3, 0)]), (.invokevirtual 111, 3, 134, 0, 1010, []), (.ireturn, 1, 0, 0, 0, [])]
theorem ck_X12_let_22 : mChk 177 22 bk_X12_let_22 = true := by decide +kernel
def bk_X12_let_37 : List mI := [(.aload_n 0, 1, 0, 0, 0, []), (.getfield 7, 3, 12, 0, 937, []), (.iload_n 1, 1, 0, 0, 0, []), (.iconst 0, 1, 0, 0, 0, [(0, 0)]), (.iload_n 2, 1, 0, 0, 0, []), (.iconst 0, 1, 0, 0, 0, [(0, 0)]), (.invokestatic 197, 3, 175, 0, 1180, []), (.iconst 1, 1, 0, 0, 0, [(1, 0)]), (.ireturn, 1, 0, 0, 0, [])]
theorem ck_X12_let_37 : mChk 177 37 bk_X12_let_37 = true := by decide +kernel
def f_X12_let (p0 : Int32) (p1 : Int32) (σ : Sg) : Option (Int32 × Sg) := ((f_X12_isThing p0 σ).bind fun q1 => (if q1 = 0 then ((f_X12_finds (1 : Int32) σ).bind fun q3 => (some (q3.1, q3.2))) else ((f_X12_isWell p1 σ).bind fun q4 => (if q4 = 0 then ((f_X12_finds (1 : Int32) σ).bind fun q10 => (some (q10.1, q10.2))) else ((f_X12_isNow p0 σ).bind fun q6 => (if q6 = (2 : Int32) then ((f_X12_puts 94 p0 (0 : Int32) p1 (0 : Int32) σ).bind fun q8 => (some ((1 : Int32), q8))) else ((f_X12_finds (3 : Int32) σ).bind fun q9 => (some (q9.1, q9.2)))))))))
set_option maxHeartbeats 4000000 in
theorem ok_X12_let {L : Nat} {p0 : Int32} {p1 : Int32} {σ : Sg} {R : Int32 × Sg} (h : f_X12_let p0 p1 σ = some R) : mEv 2 177 [.ref 93, .int p0, .int p1] (mSh, L, σ) (some (.int R.1)) (mSh, L, R.2) := by
  refine mEv.of (by decide) rfl rfl ?_
  unfold f_X12_let at h
  refine mAt.blk bk_X12_let_0 ck_X12_let_0 ?_
  refine q_aload_n rfl ?_
  refine q_iload_n rfl ?_
  obtain ⟨q1, e1, h⟩ := mbind h
  refine q_vI1 mcap_0 rfl rfl ob_93 rfl (by decide) (ok_X12_isThing  e1) ?_
  refine q_if_eq (fun c2 => ?_) (fun c2 => ?_)
  · rw [if_pos c2] at h
    refine mAt.blk bk_X12_let_16 ck_X12_let_16 ?_
    refine q_aload_n rfl ?_
    refine q_iconst ?_
    obtain ⟨q3, e3, h⟩ := mbind h
    refine q_vI1 mcap_0 rfl rfl ob_93 rfl (by decide) (ok_X12_finds  e3) ?_
    have h := Option.some.inj h
    subst h
    exact q_iretI mcap_0 rfl rfl
  · rw [if_neg c2] at h
    refine q_aload_n rfl ?_
    refine q_iload_n rfl ?_
    obtain ⟨q4, e4, h⟩ := mbind h
    refine q_vI1 mcap_0 rfl rfl ob_93 rfl (by decide) (ok_X12_isWell  e4) ?_
    refine q_if_ne (fun c5 => ?_) (fun c5 => ?_)
    · rw [if_pos c5] at h
      refine mAt.blk bk_X12_let_16 ck_X12_let_16 ?_
      refine q_aload_n rfl ?_
      refine q_iconst ?_
      obtain ⟨q10, e10, h⟩ := mbind h
      refine q_vI1 mcap_0 rfl rfl ob_93 rfl (by decide) (ok_X12_finds  e10) ?_
      have h := Option.some.inj h
      subst h
      exact q_iretI mcap_0 rfl rfl
    · rw [if_neg c5] at h
      refine mAt.blk bk_X12_let_22 ck_X12_let_22 ?_
      refine q_aload_n rfl ?_
      refine q_iload_n rfl ?_
      obtain ⟨q6, e6, h⟩ := mbind h
      refine q_vI1 mcap_0 rfl rfl ob_93 rfl (by decide) (ok_X12_isNow  e6) ?_
      refine q_iconst ?_
      refine q_ic_eq (fun c7 => ?_) (fun c7 => ?_)
      · rw [if_pos c7] at h
        refine mAt.blk bk_X12_let_37 ck_X12_let_37 ?_
        refine q_aload_n rfl ?_
        refine q_getR ob_93 rfl rfl ?_
        refine q_iload_n rfl ?_
        refine q_iconst ?_
        refine q_iload_n rfl ?_
        refine q_iconst ?_
        obtain ⟨q8, e8, h⟩ := mbind h
        refine q_sV5 mcap_0 rfl rfl rfl rfl (by decide) (ok_X12_puts ar_94 e8) ?_
        refine q_iconst ?_
        have h := Option.some.inj h
        subst h
        exact q_iretI mcap_0 rfl rfl
      · rw [if_neg c7] at h
        refine q_aload_n rfl ?_
        refine q_iconst ?_
        obtain ⟨q9, e9, h⟩ := mbind h
        refine q_vI1 mcap_0 rfl rfl ob_93 rfl (by decide) (ok_X12_finds  e9) ?_
        have h := Option.some.inj h
        subst h
        exact q_iretI mcap_0 rfl rfl
def bk_X12_fish_0 : List mI := [(.aload_n 0, 1, 0, 0, 0, []), (.iload_n 1, 1, 0, 0, 0, []), (.invokevirtual 182, 3, 139, 0, 1136, []), (.ifCond .ne 9, 3, 14, 0, 0, []), (.aload_n 0, 1, 0, 0, 0, []), (.iconst 1, 1, 0, 0, 0, [(1, 0)]), (.invokevirtual 111, 3, 134, 0, 1010, []), (.ireturn, 1, 0, 0, 0, [])]
theorem ck_X12_fish_0 : mChk 178 0 bk_X12_fish_0 = true := by decide +kernel
def bk_X12_fish_14 : List mI := [(.aload_n 0, 1, 0, 0, 0, []), (.iload_n 1, 1, 0, 0, 0, []), (.invokevirtual 194, 3, 176, 0, 1176, []), (.ifCond .eq 9, 3, 28, 0, 0, []), (.aload_n 0, 1, 0, 0, 0, []), (.iconst 3, 1, 0, 0, 0, [(3, 0)]), (.invokevirtual 111, 3, 134, 0, 1010, []), (.ireturn, 1, 0, 0, 0, [])]
theorem ck_X12_fish_14 : mChk 178 14 bk_X12_fish_14 = true := by decide +kernel
def bk_X12_fish_28 : List mI := [(.aload_n 0, 1, 0, 0, 0, []), (.getfield 7, 3, 12, 0, 937, []), (.bipush 46, 2, 0, 0, 0, [(46, 0)]), (.bipush 6, 2, 0, 0, 0, [(6, 0)]), (.iload_n 1, 1, 0, 0, 0, []), (.imul, 1, 0, 0, 0, []), (.iadd, 1, 0, 0, 0, []), (.iconst 3, 1, 0, 0, 0, [(3, 0)]), (.iadd, 1, 0, 0, 0, []), (.iaload, 1, 0, 0, 0, []), (.istore_n 2, 1, 0, 0, 0, []), (.aload_n 0, 1, 0, 0, 0, []), (.getfield 7, 3, 12, 0, 937, []), (.iload_n 1, 1, 0, 0, 0, []), (.iconst 2, 1, 0, 0, 0, [(2, 0)]), (.iload_n 2, 1, 0, 0, 0, []), (.iconst 0, 1, 0, 0, 0, [(0, 0)]), (.invokestatic 197, 3, 175, 0, 1180, []), (.iload_n 2, 1, 0, 0, 0, []), (.ireturn, 1, 0, 0, 0, [])]
theorem ck_X12_fish_28 : mChk 178 28 bk_X12_fish_28 = true := by decide +kernel
def f_X12_fish (p0 : Int32) (σ : Sg) : Option (Int32 × Sg) := ((f_X12_isThing p0 σ).bind fun q1 => (if q1 = 0 then ((f_X12_finds (1 : Int32) σ).bind fun q8 => (some (q8.1, q8.2))) else ((f_X12_isNow p0 σ).bind fun q3 => (if q3 = 0 then (if (((46 : Int32) + ((6 : Int32) * p0)) + (3 : Int32)) < 0 ∨ 320 ≤ ((((46 : Int32) + ((6 : Int32) * p0)) + (3 : Int32))).toNatClampNeg then none else ((f_X12_puts 94 p0 (2 : Int32) (σ 94 ((((46 : Int32) + ((6 : Int32) * p0)) + (3 : Int32))).toNatClampNeg) (0 : Int32) σ).bind fun q6 => (some ((σ 94 ((((46 : Int32) + ((6 : Int32) * p0)) + (3 : Int32))).toNatClampNeg), q6)))) else ((f_X12_finds (3 : Int32) σ).bind fun q7 => (some (q7.1, q7.2)))))))
set_option maxHeartbeats 4000000 in
theorem ok_X12_fish {L : Nat} {p0 : Int32} {σ : Sg} {R : Int32 × Sg} (h : f_X12_fish p0 σ = some R) : mEv 2 178 [.ref 93, .int p0] (mSh, L, σ) (some (.int R.1)) (mSh, L, R.2) := by
  refine mEv.of (by decide) rfl rfl ?_
  unfold f_X12_fish at h
  refine mAt.blk bk_X12_fish_0 ck_X12_fish_0 ?_
  refine q_aload_n rfl ?_
  refine q_iload_n rfl ?_
  obtain ⟨q1, e1, h⟩ := mbind h
  refine q_vI1 mcap_0 rfl rfl ob_93 rfl (by decide) (ok_X12_isThing  e1) ?_
  refine q_if_ne (fun c2 => ?_) (fun c2 => ?_)
  · rw [if_pos c2] at h
    refine q_aload_n rfl ?_
    refine q_iconst ?_
    obtain ⟨q8, e8, h⟩ := mbind h
    refine q_vI1 mcap_0 rfl rfl ob_93 rfl (by decide) (ok_X12_finds  e8) ?_
    have h := Option.some.inj h
    subst h
    exact q_iretI mcap_0 rfl rfl
  · rw [if_neg c2] at h
    refine mAt.blk bk_X12_fish_14 ck_X12_fish_14 ?_
    refine q_aload_n rfl ?_
    refine q_iload_n rfl ?_
    obtain ⟨q3, e3, h⟩ := mbind h
    refine q_vI1 mcap_0 rfl rfl ob_93 rfl (by decide) (ok_X12_isNow  e3) ?_
    refine q_if_eq (fun c4 => ?_) (fun c4 => ?_)
    · rw [if_pos c4] at h
      refine mAt.blk bk_X12_fish_28 ck_X12_fish_28 ?_
      refine q_aload_n rfl ?_
      refine q_getR ob_93 rfl rfl ?_
      refine q_bipush ?_
      refine q_bipush ?_
      refine q_iload_n rfl ?_
      refine q_imul ?_
      refine q_iadd ?_
      refine q_iconst ?_
      refine q_iadd ?_
      obtain ⟨c5, h⟩ := mnone h
      refine q_iald (mrd ar_94 _ _) rfl c5 ?_
      refine q_istore_n rfl rfl ?_
      refine q_aload_n rfl ?_
      refine q_getR ob_93 rfl rfl ?_
      refine q_iload_n rfl ?_
      refine q_iconst ?_
      refine q_iload_n rfl ?_
      refine q_iconst ?_
      obtain ⟨q6, e6, h⟩ := mbind h
      refine q_sV5 mcap_0 rfl rfl rfl rfl (by decide) (ok_X12_puts ar_94 e6) ?_
      refine q_iload_n rfl ?_
      have h := Option.some.inj h
      subst h
      exact q_iretI mcap_0 rfl rfl
    · rw [if_neg c4] at h
      refine q_aload_n rfl ?_
      refine q_iconst ?_
      obtain ⟨q7, e7, h⟩ := mbind h
      refine q_vI1 mcap_0 rfl rfl ob_93 rfl (by decide) (ok_X12_finds  e7) ?_
      have h := Option.some.inj h
      subst h
      exact q_iretI mcap_0 rfl rfl
def bk_X12_goesUp_0 : List mI := [(.aload_n 1, 1, 0, 0, 0, []), (.iload_n 2, 1, 0, 0, 0, []), (.iconst 3, 1, 0, 0, 0, [(3, 0)]), (.invokestatic 148, 3, 141, 0, 1116, []), (.istore_n 3, 1, 0, 0, 0, []), (.aload_n 1, 1, 0, 0, 0, []), (.iload_n 2, 1, 0, 0, 0, []), (.iconst 5, 1, 0, 0, 0, [(5, 0)]), (.invokestatic 148, 3, 141, 0, 1116, []), (.aload_n 1, 1, 0, 0, 0, []), (.iload_n 3, 1, 0, 0, 0, []), (.iconst 2, 1, 0, 0, 0, [(2, 0)]), (.invokestatic 162, 3, 140, 0, 1145, []), (.iadd, 1, 0, 0, 0, []), (.iconst 0, 1, 0, 0, 0, [(0, 0)]), (.ldc 201, 2, 0, 0, 1204, [(999999, 0)]), (.invokestatic 120, 3, 136, 0, 1074, []), (.istore 4, 2, 0, 0, 0, []), (.aload_n 1, 1, 0, 0, 0, []), (.bipush 46, 2, 0, 0, 0, [(46, 0)]), (.bipush 6, 2, 0, 0, 0, [(6, 0)]), (.iload_n 2, 1, 0, 0, 0, []), (.imul, 1, 0, 0, 0, []), (.iadd, 1, 0, 0, 0, []), (.iconst 5, 1, 0, 0, 0, [(5, 0)]), (.iadd, 1, 0, 0, 0, []), (.iload 4, 2, 0, 0, 0, []), (.iastore, 1, 0, 0, 0, []), (.aload_n 1, 1, 0, 0, 0, []), (.iload_n 3, 1, 0, 0, 0, []), (.iconst 3, 1, 0, 0, 0, [(3, 0)]), (.invokestatic 162, 3, 140, 0, 1145, []), (.iconst 1, 1, 0, 0, 0, [(1, 0)]), (.if_icmp .ne 27, 3, 75, 0, 0, []), (.aload_n 0, 1, 0, 0, 0, []), (.iconst 1, 1, 0, 0, 0, [(1, 0)]), (.iload_n 3, 1, 0, 0, 0, []), (.aload_n 1, 1, 0, 0, 0, []), (.iload_n 2, 1, 0, 0, 0, []), (.iconst 0, 1, 0, 0, 0, [(0, 0)]), (.invokestatic 148, 3, 141, 0, 1116, []), (.aload_n 1, 1, 0, 0, 0, []), (.iconst 0, 1, 0, 0, 0, [(0, 0)]), (.iaload, 1, 0, 0, 0, []), (.iload 4, 2, 0, 0, 0, []), (.invokevirtual 123, 3, 155, 0, 1070, []), (.ifCond .eq 7, 3, 75, 0, 0, []), (.iconst 1, 1, 0, 0, 0, [(1, 0)]), (.goto 4, 3, 76, 0, 0, [])]
theorem ck_X12_goesUp_0 : mChk 179 0 bk_X12_goesUp_0 = true := by decide +kernel
def bk_X12_goesUp_75 : List mI := [(.iconst 0, 1, 0, 0, 0, [(0, 0)])]
theorem ck_X12_goesUp_75 : mChk 179 75 bk_X12_goesUp_75 = true := by decide +kernel
def bk_X12_goesUp_76 : List mI := [(.istore 5, 2, 0, 0, 0, []), (.aload_n 1, 1, 0, 0, 0, []), (.iload_n 2, 1, 0, 0, 0, []), (.iload 5, 2, 0, 0, 0, []), (.ifCond .eq 7, 3, 89, 0, 0, []), (.iconst 2, 1, 0, 0, 0, [(2, 0)]), (.goto 4, 3, 90, 0, 0, [])]
theorem ck_X12_goesUp_76 : mChk 179 76 bk_X12_goesUp_76 = true := by decide +kernel
def bk_X12_goesUp_89 : List mI := [(.iconst 0, 1, 0, 0, 0, [(0, 0)])]
theorem ck_X12_goesUp_89 : mChk 179 89 bk_X12_goesUp_89 = true := by decide +kernel
def bk_X12_goesUp_90 : List mI := [(.iload_n 3, 1, 0, 0, 0, []), (.iconst 0, 1, 0, 0, 0, [(0, 0)]), (.invokestatic 197, 3, 175, 0, 1180, []), (.return_, 1, 0, 0, 0, [])]
theorem ck_X12_goesUp_90 : mChk 179 90 bk_X12_goesUp_90 = true := by decide +kernel
def c_X12_goesUp_76 (r0 : Nat) (x2 : Int32) (x3 : Int32) (s0 : Int32) (σ : Sg) : Option (Sg) := (if s0 = 0 then ((f_X12_puts r0 x2 (0 : Int32) x3 (0 : Int32) σ).bind fun q2 => (some q2)) else ((f_X12_puts r0 x2 (2 : Int32) x3 (0 : Int32) σ).bind fun q3 => (some q3)))
set_option maxHeartbeats 4000000 in
theorem okc_X12_goesUp_76 {L : Nat} {r0 : Nat} {R : Sg} (hr0 : mnth mSh r0 = some (1, 320, [])) {x2 : Int32} {x3 : Int32} {s0 : Int32} {σ : Sg} {pl : mLoc} (h : c_X12_goesUp_76 r0 x2 x3 s0 σ = some R) (hl : mlf [none, some (.ref r0), some (.int x2), some (.int x3), none, none] pl) : mAt 69 179 (none, (mSh, L, R)) 76 pl [.int s0] (mSh, L, σ) 0 0 := by
  refine mAt.less hl ?_
  unfold c_X12_goesUp_76 at h
  refine mAt.blk bk_X12_goesUp_76 ck_X12_goesUp_76 ?_
  refine q_istore rfl rfl ?_
  refine q_aload_n rfl ?_
  refine q_iload_n rfl ?_
  refine q_iload rfl ?_
  refine q_if_eq (fun c1 => ?_) (fun c1 => ?_)
  · rw [if_pos c1] at h
    refine mAt.blk bk_X12_goesUp_89 ck_X12_goesUp_89 ?_
    refine q_iconst ?_
    refine mAt.blk bk_X12_goesUp_90 ck_X12_goesUp_90 ?_
    refine q_iload_n rfl ?_
    refine q_iconst ?_
    obtain ⟨q2, e2, h⟩ := mbind h
    refine q_sV5 mcap_0 rfl rfl rfl rfl (by decide) (ok_X12_puts hr0 e2) ?_
    have h := Option.some.inj h
    subst h
    exact q_vret mcap_0 rfl rfl
  · rw [if_neg c1] at h
    refine q_iconst ?_
    refine q_goto ?_
    refine mAt.blk bk_X12_goesUp_90 ck_X12_goesUp_90 ?_
    refine q_iload_n rfl ?_
    refine q_iconst ?_
    obtain ⟨q3, e3, h⟩ := mbind h
    refine q_sV5 mcap_0 rfl rfl rfl rfl (by decide) (ok_X12_puts hr0 e3) ?_
    have h := Option.some.inj h
    subst h
    exact q_vret mcap_0 rfl rfl
def c_X12_goesUp_75 (r0 : Nat) (x2 : Int32) (x3 : Int32) (σ : Sg) : Option (Sg) := (c_X12_goesUp_76  r0 x2 x3 (0 : Int32) σ)
set_option maxHeartbeats 4000000 in
theorem okc_X12_goesUp_75 {L : Nat} {r0 : Nat} {R : Sg} (hr0 : mnth mSh r0 = some (1, 320, [])) {x2 : Int32} {x3 : Int32} {σ : Sg} {pl : mLoc} (h : c_X12_goesUp_75 r0 x2 x3 σ = some R) (hl : mlf [none, some (.ref r0), some (.int x2), some (.int x3), none, none] pl) : mAt 69 179 (none, (mSh, L, R)) 75 pl [] (mSh, L, σ) 0 0 := by
  refine mAt.less hl ?_
  unfold c_X12_goesUp_75 at h
  refine mAt.blk bk_X12_goesUp_75 ck_X12_goesUp_75 ?_
  refine q_iconst ?_
  exact okc_X12_goesUp_76 hr0 h ⟨rfl, rfl, rfl, trivial⟩
def f_X12_goesUp (r0 : Nat) (p1 : Int32) (σ : Sg) : Option (Sg) := ((f_X12_aThing r0 p1 (3 : Int32) σ).bind fun q4 => ((f_X12_aThing r0 p1 (5 : Int32) σ).bind fun q5 => ((f_X12_aWell r0 q4 (2 : Int32) σ).bind fun q6 => ((f_X12_held (q5 + q6) (0 : Int32) (999999 : Int32) σ).bind fun q7 => (if (((46 : Int32) + ((6 : Int32) * p1)) + (5 : Int32)) < 0 ∨ 320 ≤ ((((46 : Int32) + ((6 : Int32) * p1)) + (5 : Int32))).toNatClampNeg then none else ((f_X12_aWell r0 q4 (3 : Int32) (mup σ r0 ((((46 : Int32) + ((6 : Int32) * p1)) + (5 : Int32))).toNatClampNeg q7)).bind fun q9 => (if q9 = (1 : Int32) then ((f_X12_aThing r0 p1 (0 : Int32) (mup σ r0 ((((46 : Int32) + ((6 : Int32) * p1)) + (5 : Int32))).toNatClampNeg q7)).bind fun q11 => ((f_X12_gives (1 : Int32) q4 q11 ((mup σ r0 ((((46 : Int32) + ((6 : Int32) * p1)) + (5 : Int32))).toNatClampNeg q7) r0 0) q7 (mup σ r0 ((((46 : Int32) + ((6 : Int32) * p1)) + (5 : Int32))).toNatClampNeg q7)).bind fun q13 => (if q13.1 = 0 then (c_X12_goesUp_75  r0 p1 q4 q13.2) else (c_X12_goesUp_76  r0 p1 q4 (1 : Int32) q13.2)))) else (c_X12_goesUp_75  r0 p1 q4 (mup σ r0 ((((46 : Int32) + ((6 : Int32) * p1)) + (5 : Int32))).toNatClampNeg q7)))))))))
set_option maxHeartbeats 4000000 in
theorem ok_X12_goesUp {L : Nat} {r0 : Nat} {p1 : Int32} {σ : Sg} {R : Sg} (hr0 : mnth mSh r0 = some (1, 320, [])) (h : f_X12_goesUp r0 p1 σ = some R) : mEv 69 179 [.ref 93, .ref r0, .int p1] (mSh, L, σ) none (mSh, L, R) := by
  refine mEv.of (by decide) rfl rfl ?_
  unfold f_X12_goesUp at h
  refine mAt.blk bk_X12_goesUp_0 ck_X12_goesUp_0 ?_
  refine q_aload_n rfl ?_
  refine q_iload_n rfl ?_
  refine q_iconst ?_
  obtain ⟨q4, e4, h⟩ := mbind h
  refine q_sI3 mcap_0 rfl rfl rfl rfl (by decide) (ok_X12_aThing hr0 e4) ?_
  refine q_istore_n rfl rfl ?_
  refine q_aload_n rfl ?_
  refine q_iload_n rfl ?_
  refine q_iconst ?_
  obtain ⟨q5, e5, h⟩ := mbind h
  refine q_sI3 mcap_0 rfl rfl rfl rfl (by decide) (ok_X12_aThing hr0 e5) ?_
  refine q_aload_n rfl ?_
  refine q_iload_n rfl ?_
  refine q_iconst ?_
  obtain ⟨q6, e6, h⟩ := mbind h
  refine q_sI3 mcap_0 rfl rfl rfl rfl (by decide) (ok_X12_aWell hr0 e6) ?_
  refine q_iadd ?_
  refine q_iconst ?_
  refine q_ldc ?_
  obtain ⟨q7, e7, h⟩ := mbind h
  refine q_sI3 mcap_0 rfl rfl rfl rfl (by decide) (ok_X12_held  e7) ?_
  refine q_istore rfl rfl ?_
  refine q_aload_n rfl ?_
  refine q_bipush ?_
  refine q_bipush ?_
  refine q_iload_n rfl ?_
  refine q_imul ?_
  refine q_iadd ?_
  refine q_iconst ?_
  refine q_iadd ?_
  refine q_iload rfl ?_
  obtain ⟨c8, h⟩ := mnone h
  refine q_iast rfl hr0 c8 ?_
  refine q_aload_n rfl ?_
  refine q_iload_n rfl ?_
  refine q_iconst ?_
  obtain ⟨q9, e9, h⟩ := mbind h
  refine q_sI3 mcap_0 rfl rfl rfl rfl (by decide) (ok_X12_aWell hr0 e9) ?_
  refine q_iconst ?_
  refine q_ic_ne (fun c10 => ?_) (fun c10 => ?_)
  · rw [if_pos c10] at h
    refine q_aload_n rfl ?_
    refine q_iconst ?_
    refine q_iload_n rfl ?_
    refine q_aload_n rfl ?_
    refine q_iload_n rfl ?_
    refine q_iconst ?_
    obtain ⟨q11, e11, h⟩ := mbind h
    refine q_sI3 mcap_0 rfl rfl rfl rfl (by decide) (ok_X12_aThing hr0 e11) ?_
    refine q_aload_n rfl ?_
    refine q_iconst ?_
    refine q_iald (j := 0) (mrd hr0 _ _) (by decide) (by decide) ?_
    refine q_iload rfl ?_
    obtain ⟨q13, e13, h⟩ := mbind h
    refine q_vI5 mcap_0 rfl rfl ob_93 rfl (by decide) (ok_X12_gives  e13) ?_
    refine q_if_eq (fun c14 => ?_) (fun c14 => ?_)
    · rw [if_pos c14] at h
      exact okc_X12_goesUp_75 hr0 h ⟨rfl, rfl, rfl, trivial⟩
    · rw [if_neg c14] at h
      refine q_iconst ?_
      refine q_goto ?_
      exact okc_X12_goesUp_76 hr0 h ⟨rfl, rfl, rfl, trivial⟩
  · rw [if_neg c10] at h
    exact okc_X12_goesUp_75 hr0 h ⟨rfl, rfl, rfl, trivial⟩
def bk_X12_goesBy_0 : List mI := [(.iconst 0, 1, 0, 0, 0, [(0, 0)]), (.istore_n 2, 1, 0, 0, 0, []), (.iconst 0, 1, 0, 0, 0, [(0, 0)]), (.istore_n 3, 1, 0, 0, 0, [])]
theorem ck_X12_goesBy_0 : mChk 180 0 bk_X12_goesBy_0 = true := by decide +kernel
def bk_X12_goesBy_4 : List mI := [(.iload_n 3, 1, 0, 0, 0, []), (.aload_n 1, 1, 0, 0, 0, []), (.iconst 2, 1, 0, 0, 0, [(2, 0)]), (.iaload, 1, 0, 0, 0, []), (.if_icmp .ge 29, 3, 37, 0, 0, []), (.iload_n 2, 1, 0, 0, 0, []), (.aload_n 1, 1, 0, 0, 0, []), (.iload_n 3, 1, 0, 0, 0, []), (.iconst 2, 1, 0, 0, 0, [(2, 0)]), (.invokestatic 148, 3, 141, 0, 1116, []), (.iconst 1, 1, 0, 0, 0, [(1, 0)]), (.if_icmp .ne 9, 3, 28, 0, 0, []), (.iconst 1, 1, 0, 0, 0, [(1, 0)]), (.iload_n 3, 1, 0, 0, 0, []), (.ishl, 1, 0, 0, 0, []), (.goto 4, 3, 29, 0, 0, [])]
theorem ck_X12_goesBy_4 : mChk 180 4 bk_X12_goesBy_4 = true := by decide +kernel
def bk_X12_goesBy_28 : List mI := [(.iconst 0, 1, 0, 0, 0, [(0, 0)])]
theorem ck_X12_goesBy_28 : mChk 180 28 bk_X12_goesBy_28 = true := by decide +kernel
def bk_X12_goesBy_29 : List mI := [(.ior, 1, 0, 0, 0, []), (.istore_n 2, 1, 0, 0, 0, []), (.iinc 3 1, 3, 0, 0, 0, [(1, 0)]), (.goto (-30), 3, 4, 0, 0, [])]
theorem ck_X12_goesBy_29 : mChk 180 29 bk_X12_goesBy_29 = true := by decide +kernel
def bk_X12_goesBy_37 : List mI := [(.iconst 0, 1, 0, 0, 0, [(0, 0)]), (.istore_n 3, 1, 0, 0, 0, [])]
theorem ck_X12_goesBy_37 : mChk 180 37 bk_X12_goesBy_37 = true := by decide +kernel
def bk_X12_goesBy_39 : List mI := [(.iload_n 3, 1, 0, 0, 0, []), (.aload_n 1, 1, 0, 0, 0, []), (.iconst 2, 1, 0, 0, 0, [(2, 0)]), (.iaload, 1, 0, 0, 0, []), (.if_icmp .ge 63, 3, 106, 0, 0, []), (.aload_n 1, 1, 0, 0, 0, []), (.iload_n 3, 1, 0, 0, 0, []), (.iconst 2, 1, 0, 0, 0, [(2, 0)]), (.invokestatic 148, 3, 141, 0, 1116, []), (.ifCond .ne 48, 3, 100, 0, 0, []), (.aload_n 1, 1, 0, 0, 0, []), (.aload_n 1, 1, 0, 0, 0, []), (.iload_n 3, 1, 0, 0, 0, []), (.iconst 3, 1, 0, 0, 0, [(3, 0)]), (.invokestatic 148, 3, 141, 0, 1116, []), (.iconst 0, 1, 0, 0, 0, [(0, 0)]), (.invokestatic 162, 3, 140, 0, 1145, []), (.ifCond .lt 34, 3, 100, 0, 0, []), (.aload_n 1, 1, 0, 0, 0, []), (.iload_n 3, 1, 0, 0, 0, []), (.invokestatic 178, 3, 169, 0, 1158, []), (.ifCond .ne 26, 3, 100, 0, 0, []), (.aload_n 1, 1, 0, 0, 0, []), (.iload_n 3, 1, 0, 0, 0, []), (.iconst 1, 1, 0, 0, 0, [(1, 0)]), (.aload_n 1, 1, 0, 0, 0, []), (.aload_n 1, 1, 0, 0, 0, []), (.iload_n 3, 1, 0, 0, 0, []), (.iconst 3, 1, 0, 0, 0, [(3, 0)]), (.invokestatic 148, 3, 141, 0, 1116, []), (.iconst 0, 1, 0, 0, 0, [(0, 0)]), (.invokestatic 162, 3, 140, 0, 1145, []), (.aload_n 0, 1, 0, 0, 0, []), (.aload_n 1, 1, 0, 0, 0, []), (.iload_n 3, 1, 0, 0, 0, []), (.invokevirtual 174, 3, 168, 0, 1148, []), (.invokestatic 197, 3, 175, 0, 1180, [])]
theorem ck_X12_goesBy_39 : mChk 180 39 bk_X12_goesBy_39 = true := by decide +kernel
def bk_X12_goesBy_100 : List mI := [(.iinc 3 1, 3, 0, 0, 0, [(1, 0)]), (.goto (-64), 3, 39, 0, 0, [])]
theorem ck_X12_goesBy_100 : mChk 180 100 bk_X12_goesBy_100 = true := by decide +kernel
def bk_X12_goesBy_106 : List mI := [(.iconst 0, 1, 0, 0, 0, [(0, 0)]), (.istore_n 3, 1, 0, 0, 0, [])]
theorem ck_X12_goesBy_106 : mChk 180 106 bk_X12_goesBy_106 = true := by decide +kernel
def bk_X12_goesBy_108 : List mI := [(.iload_n 3, 1, 0, 0, 0, []), (.aload_n 1, 1, 0, 0, 0, []), (.iconst 2, 1, 0, 0, 0, [(2, 0)]), (.iaload, 1, 0, 0, 0, []), (.if_icmp .ge 53, 3, 165, 0, 0, []), (.iload_n 2, 1, 0, 0, 0, []), (.iload_n 3, 1, 0, 0, 0, []), (.ishr, 1, 0, 0, 0, []), (.iconst 1, 1, 0, 0, 0, [(1, 0)]), (.iand, 1, 0, 0, 0, []), (.iconst 1, 1, 0, 0, 0, [(1, 0)]), (.if_icmp .ne 38, 3, 159, 0, 0, []), (.aload_n 1, 1, 0, 0, 0, []), (.bipush 46, 2, 0, 0, 0, [(46, 0)]), (.bipush 6, 2, 0, 0, 0, [(6, 0)]), (.iload_n 3, 1, 0, 0, 0, []), (.imul, 1, 0, 0, 0, []), (.iadd, 1, 0, 0, 0, []), (.iconst 4, 1, 0, 0, 0, [(4, 0)]), (.iadd, 1, 0, 0, 0, []), (.dup2, 1, 0, 0, 0, []), (.iaload, 1, 0, 0, 0, []), (.iconst 1, 1, 0, 0, 0, [(1, 0)]), (.isub, 1, 0, 0, 0, []), (.iastore, 1, 0, 0, 0, []), (.aload_n 1, 1, 0, 0, 0, []), (.bipush 46, 2, 0, 0, 0, [(46, 0)]), (.bipush 6, 2, 0, 0, 0, [(6, 0)]), (.iload_n 3, 1, 0, 0, 0, []), (.imul, 1, 0, 0, 0, []), (.iadd, 1, 0, 0, 0, []), (.iconst 4, 1, 0, 0, 0, [(4, 0)]), (.iadd, 1, 0, 0, 0, []), (.iaload, 1, 0, 0, 0, []), (.ifCond .gt 9, 3, 159, 0, 0, []), (.aload_n 0, 1, 0, 0, 0, []), (.aload_n 1, 1, 0, 0, 0, []), (.iload_n 3, 1, 0, 0, 0, []), (.invokevirtual 202, 3, 179, 0, 1200, [])]
theorem ck_X12_goesBy_108 : mChk 180 108 bk_X12_goesBy_108 = true := by decide +kernel
def bk_X12_goesBy_159 : List mI := [(.iinc 3 1, 3, 0, 0, 0, [(1, 0)]), (.goto (-54), 3, 108, 0, 0, [])]
theorem ck_X12_goesBy_159 : mChk 180 159 bk_X12_goesBy_159 = true := by decide +kernel
def bk_X12_goesBy_165 : List mI := [(.aload_n 1, 1, 0, 0, 0, []), (.iconst 0, 1, 0, 0, 0, [(0, 0)]), (.dup2, 1, 0, 0, 0, []), (.iaload, 1, 0, 0, 0, []), (.iconst 1, 1, 0, 0, 0, [(1, 0)]), (.iadd, 1, 0, 0, 0, []), (.iastore, 1, 0, 0, 0, []), (.return_, 1, 0, 0, 0, [])]
theorem ck_X12_goesBy_165 : mChk 180 165 bk_X12_goesBy_165 = true := by decide +kernel
def c_X12_goesBy_29 (k4 : Int32 → Int32 → Sg → Option (Sg)) (r0 : Nat) (x3 : Int32) (s0 : Int32) (s1 : Int32) (σ : Sg) : Option (Sg) := (k4 (s0 ||| s1) (x3 + (1 : Int32)) σ)
set_option maxHeartbeats 4000000 in
theorem okc_X12_goesBy_29 {L : Nat} {k4 : Int32 → Int32 → Sg → Option (Sg)} {r0 : Nat} {R : Sg} (hr0 : mnth mSh r0 = some (1, 320, [])) (Hk4 : ∀ (x2 : Int32) (x3 : Int32) (σ : Sg) (pl : mLoc), k4 x2 x3 σ = some R → mlf [some (.ref 93), some (.ref r0), some (.int x2), some (.int x3)] pl → mAt 70 180 (none, (mSh, L, R)) 4 pl [] (mSh, L, σ) 0 0) {x3 : Int32} {s0 : Int32} {s1 : Int32} {σ : Sg} {pl : mLoc} (h : c_X12_goesBy_29 k4 r0 x3 s0 s1 σ = some R) (hl : mlf [some (.ref 93), some (.ref r0), none, some (.int x3)] pl) : mAt 70 180 (none, (mSh, L, R)) 29 pl [.int s1, .int s0] (mSh, L, σ) 0 0 := by
  refine mAt.less hl ?_
  unfold c_X12_goesBy_29 at h
  refine mAt.blk bk_X12_goesBy_29 ck_X12_goesBy_29 ?_
  refine q_ior ?_
  refine q_istore_n rfl rfl ?_
  refine q_iinc rfl rfl ?_
  refine q_goto ?_
  exact Hk4 _ _ _ _  h ⟨rfl, rfl, rfl, rfl, trivial⟩
def c_X12_goesBy_100 (k39 : Int32 → Int32 → Sg → Option (Sg)) (r0 : Nat) (x2 : Int32) (x3 : Int32) (σ : Sg) : Option (Sg) := (k39 x2 (x3 + (1 : Int32)) σ)
set_option maxHeartbeats 4000000 in
theorem okc_X12_goesBy_100 {L : Nat} {k39 : Int32 → Int32 → Sg → Option (Sg)} {r0 : Nat} {R : Sg} (hr0 : mnth mSh r0 = some (1, 320, [])) (Hk39 : ∀ (x2 : Int32) (x3 : Int32) (σ : Sg) (pl : mLoc), k39 x2 x3 σ = some R → mlf [some (.ref 93), some (.ref r0), some (.int x2), some (.int x3)] pl → mAt 70 180 (none, (mSh, L, R)) 39 pl [] (mSh, L, σ) 0 0) {x2 : Int32} {x3 : Int32} {σ : Sg} {pl : mLoc} (h : c_X12_goesBy_100 k39 r0 x2 x3 σ = some R) (hl : mlf [some (.ref 93), some (.ref r0), some (.int x2), some (.int x3)] pl) : mAt 70 180 (none, (mSh, L, R)) 100 pl [] (mSh, L, σ) 0 0 := by
  refine mAt.less hl ?_
  unfold c_X12_goesBy_100 at h
  refine mAt.blk bk_X12_goesBy_100 ck_X12_goesBy_100 ?_
  refine q_iinc rfl rfl ?_
  refine q_goto ?_
  exact Hk39 _ _ _ _  h ⟨rfl, rfl, rfl, rfl, trivial⟩
def c_X12_goesBy_159 (k108 : Int32 → Int32 → Sg → Option (Sg)) (r0 : Nat) (x2 : Int32) (x3 : Int32) (σ : Sg) : Option (Sg) := (k108 x2 (x3 + (1 : Int32)) σ)
set_option maxHeartbeats 4000000 in
theorem okc_X12_goesBy_159 {L : Nat} {k108 : Int32 → Int32 → Sg → Option (Sg)} {r0 : Nat} {R : Sg} (hr0 : mnth mSh r0 = some (1, 320, [])) (Hk108 : ∀ (x2 : Int32) (x3 : Int32) (σ : Sg) (pl : mLoc), k108 x2 x3 σ = some R → mlf [some (.ref 93), some (.ref r0), some (.int x2), some (.int x3)] pl → mAt 70 180 (none, (mSh, L, R)) 108 pl [] (mSh, L, σ) 0 0) {x2 : Int32} {x3 : Int32} {σ : Sg} {pl : mLoc} (h : c_X12_goesBy_159 k108 r0 x2 x3 σ = some R) (hl : mlf [some (.ref 93), some (.ref r0), some (.int x2), some (.int x3)] pl) : mAt 70 180 (none, (mSh, L, R)) 159 pl [] (mSh, L, σ) 0 0 := by
  refine mAt.less hl ?_
  unfold c_X12_goesBy_159 at h
  refine mAt.blk bk_X12_goesBy_159 ck_X12_goesBy_159 ?_
  refine q_iinc rfl rfl ?_
  refine q_goto ?_
  exact Hk108 _ _ _ _  h ⟨rfl, rfl, rfl, rfl, trivial⟩
def c_X12_goesBy_165 (r0 : Nat) (σ : Sg) : Option (Sg) := (some (mup σ r0 0 ((σ r0 0) + (1 : Int32))))
set_option maxHeartbeats 4000000 in
theorem okc_X12_goesBy_165 {L : Nat} {r0 : Nat} {R : Sg} (hr0 : mnth mSh r0 = some (1, 320, [])) {σ : Sg} {pl : mLoc} (h : c_X12_goesBy_165 r0 σ = some R) (hl : mlf [none, some (.ref r0), none, none] pl) : mAt 70 180 (none, (mSh, L, R)) 165 pl [] (mSh, L, σ) 0 0 := by
  refine mAt.less hl ?_
  unfold c_X12_goesBy_165 at h
  refine mAt.blk bk_X12_goesBy_165 ck_X12_goesBy_165 ?_
  refine q_aload_n rfl ?_
  refine q_iconst ?_
  refine q_dup2 ?_
  refine q_iald (j := 0) (mrd hr0 _ _) (by decide) (by decide) ?_
  refine q_iconst ?_
  refine q_iadd ?_
  refine q_iast (j := 0) (by decide) hr0 (by decide) ?_
  have h := Option.some.inj h
  subst h
  exact q_vret mcap_0 rfl rfl
def c_X12_goesBy_108 (r0 : Nat) : Nat → Int32 → Int32 → Sg → Option (Sg)
  | 0, _, _, _ => none
  | n + 1, x2, x3, σ => (if (σ r0 2) ≤ x3 then (c_X12_goesBy_165  r0  σ) else (if ((x2 >>> (x3 &&& 31)) &&& (1 : Int32)) = (1 : Int32) then (if (((46 : Int32) + ((6 : Int32) * x3)) + (4 : Int32)) < 0 ∨ 320 ≤ ((((46 : Int32) + ((6 : Int32) * x3)) + (4 : Int32))).toNatClampNeg then none else (if (((46 : Int32) + ((6 : Int32) * x3)) + (4 : Int32)) < 0 ∨ 320 ≤ ((((46 : Int32) + ((6 : Int32) * x3)) + (4 : Int32))).toNatClampNeg then none else (if (((46 : Int32) + ((6 : Int32) * x3)) + (4 : Int32)) < 0 ∨ 320 ≤ ((((46 : Int32) + ((6 : Int32) * x3)) + (4 : Int32))).toNatClampNeg then none else (if 0 < ((mup σ r0 ((((46 : Int32) + ((6 : Int32) * x3)) + (4 : Int32))).toNatClampNeg ((σ r0 ((((46 : Int32) + ((6 : Int32) * x3)) + (4 : Int32))).toNatClampNeg) - (1 : Int32))) r0 ((((46 : Int32) + ((6 : Int32) * x3)) + (4 : Int32))).toNatClampNeg) then (c_X12_goesBy_159 (c_X12_goesBy_108 r0 n) r0 x2 x3 (mup σ r0 ((((46 : Int32) + ((6 : Int32) * x3)) + (4 : Int32))).toNatClampNeg ((σ r0 ((((46 : Int32) + ((6 : Int32) * x3)) + (4 : Int32))).toNatClampNeg) - (1 : Int32)))) else ((f_X12_goesUp r0 x3 (mup σ r0 ((((46 : Int32) + ((6 : Int32) * x3)) + (4 : Int32))).toNatClampNeg ((σ r0 ((((46 : Int32) + ((6 : Int32) * x3)) + (4 : Int32))).toNatClampNeg) - (1 : Int32)))).bind fun q25 => (c_X12_goesBy_159 (c_X12_goesBy_108 r0 n) r0 x2 x3 q25)))))) else (c_X12_goesBy_159 (c_X12_goesBy_108 r0 n) r0 x2 x3 σ)))
set_option maxHeartbeats 4000000 in
theorem okc_X12_goesBy_108 {L : Nat} {r0 : Nat} {R : Sg} (hr0 : mnth mSh r0 = some (1, 320, [])) {n : Nat} {x2 : Int32} {x3 : Int32} {σ : Sg} {pl : mLoc} (h : c_X12_goesBy_108 r0 n x2 x3 σ = some R) (hl : mlf [some (.ref 93), some (.ref r0), some (.int x2), some (.int x3)] pl) : mAt 70 180 (none, (mSh, L, R)) 108 pl [] (mSh, L, σ) 0 0 := by
  induction n generalizing x2 x3 σ pl with
  | zero =>
    rw [c_X12_goesBy_108.eq_1] at h
    cases h
  | succ n ih =>
    refine mAt.less hl ?_
    rw [c_X12_goesBy_108.eq_2] at h
    refine mAt.blk bk_X12_goesBy_108 ck_X12_goesBy_108 ?_
    refine q_iload_n rfl ?_
    refine q_aload_n rfl ?_
    refine q_iconst ?_
    refine q_iald (j := 2) (mrd hr0 _ _) (by decide) (by decide) ?_
    refine q_ic_ge (fun c19 => ?_) (fun c19 => ?_)
    · rw [if_pos c19] at h
      exact okc_X12_goesBy_165 hr0 h ⟨rfl, trivial⟩
    · rw [if_neg c19] at h
      refine q_iload_n rfl ?_
      refine q_iload_n rfl ?_
      refine q_ishr ?_
      refine q_iconst ?_
      refine q_iand ?_
      refine q_iconst ?_
      refine q_ic_ne (fun c20 => ?_) (fun c20 => ?_)
      · rw [if_pos c20] at h
        refine q_aload_n rfl ?_
        refine q_bipush ?_
        refine q_bipush ?_
        refine q_iload_n rfl ?_
        refine q_imul ?_
        refine q_iadd ?_
        refine q_iconst ?_
        refine q_iadd ?_
        refine q_dup2 ?_
        obtain ⟨c21, h⟩ := mnone h
        refine q_iald (mrd hr0 _ _) rfl c21 ?_
        refine q_iconst ?_
        refine q_isub ?_
        obtain ⟨c22, h⟩ := mnone h
        refine q_iast rfl hr0 c22 ?_
        refine q_aload_n rfl ?_
        refine q_bipush ?_
        refine q_bipush ?_
        refine q_iload_n rfl ?_
        refine q_imul ?_
        refine q_iadd ?_
        refine q_iconst ?_
        refine q_iadd ?_
        obtain ⟨c23, h⟩ := mnone h
        refine q_iald (mrd hr0 _ _) rfl c23 ?_
        refine q_if_gt (fun c24 => ?_) (fun c24 => ?_)
        · rw [if_pos c24] at h
          exact okc_X12_goesBy_159 hr0 (fun _ _ _ _ e hl => ih  e hl) h ⟨rfl, rfl, rfl, rfl, trivial⟩
        · rw [if_neg c24] at h
          refine q_aload_n rfl ?_
          refine q_aload_n rfl ?_
          refine q_iload_n rfl ?_
          obtain ⟨q25, e25, h⟩ := mbind h
          refine q_vV2 mcap_0 rfl rfl ob_93 rfl (by decide) (ok_X12_goesUp hr0 e25) ?_
          exact okc_X12_goesBy_159 hr0 (fun _ _ _ _ e hl => ih  e hl) h ⟨rfl, rfl, rfl, rfl, trivial⟩
      · rw [if_neg c20] at h
        exact okc_X12_goesBy_159 hr0 (fun _ _ _ _ e hl => ih  e hl) h ⟨rfl, rfl, rfl, rfl, trivial⟩
def c_X12_goesBy_106 (r0 : Nat) (x2 : Int32) (σ : Sg) : Option (Sg) := (c_X12_goesBy_108  r0 1000 x2 (0 : Int32) σ)
set_option maxHeartbeats 4000000 in
theorem okc_X12_goesBy_106 {L : Nat} {r0 : Nat} {R : Sg} (hr0 : mnth mSh r0 = some (1, 320, [])) {x2 : Int32} {σ : Sg} {pl : mLoc} (h : c_X12_goesBy_106 r0 x2 σ = some R) (hl : mlf [some (.ref 93), some (.ref r0), some (.int x2), none] pl) : mAt 70 180 (none, (mSh, L, R)) 106 pl [] (mSh, L, σ) 0 0 := by
  refine mAt.less hl ?_
  unfold c_X12_goesBy_106 at h
  refine mAt.blk bk_X12_goesBy_106 ck_X12_goesBy_106 ?_
  refine q_iconst ?_
  refine q_istore_n rfl rfl ?_
  exact okc_X12_goesBy_108 hr0 h ⟨rfl, rfl, rfl, rfl, trivial⟩
def c_X12_goesBy_39 (r0 : Nat) : Nat → Int32 → Int32 → Sg → Option (Sg)
  | 0, _, _, _ => none
  | n + 1, x2, x3, σ => (if (σ r0 2) ≤ x3 then (c_X12_goesBy_106  r0 x2 σ) else ((f_X12_aThing r0 x3 (2 : Int32) σ).bind fun q7 => (if q7 = 0 then ((f_X12_aThing r0 x3 (3 : Int32) σ).bind fun q9 => ((f_X12_aWell r0 q9 (0 : Int32) σ).bind fun q10 => (if q10 < 0 then (c_X12_goesBy_100 (c_X12_goesBy_39 r0 n) r0 x2 x3 σ) else ((f_X12_stays r0 x3 σ).bind fun q12 => (if q12 = 0 then ((f_X12_aThing r0 x3 (3 : Int32) σ).bind fun q14 => ((f_X12_aWell r0 q14 (0 : Int32) σ).bind fun q15 => ((f_X12_lasts r0 x3 σ).bind fun q16 => ((f_X12_puts r0 x3 (1 : Int32) q15 q16.1 q16.2).bind fun q17 => (c_X12_goesBy_100 (c_X12_goesBy_39 r0 n) r0 x2 x3 q17))))) else (c_X12_goesBy_100 (c_X12_goesBy_39 r0 n) r0 x2 x3 σ)))))) else (c_X12_goesBy_100 (c_X12_goesBy_39 r0 n) r0 x2 x3 σ))))
set_option maxHeartbeats 4000000 in
theorem okc_X12_goesBy_39 {L : Nat} {r0 : Nat} {R : Sg} (hr0 : mnth mSh r0 = some (1, 320, [])) {n : Nat} {x2 : Int32} {x3 : Int32} {σ : Sg} {pl : mLoc} (h : c_X12_goesBy_39 r0 n x2 x3 σ = some R) (hl : mlf [some (.ref 93), some (.ref r0), some (.int x2), some (.int x3)] pl) : mAt 70 180 (none, (mSh, L, R)) 39 pl [] (mSh, L, σ) 0 0 := by
  induction n generalizing x2 x3 σ pl with
  | zero =>
    rw [c_X12_goesBy_39.eq_1] at h
    cases h
  | succ n ih =>
    refine mAt.less hl ?_
    rw [c_X12_goesBy_39.eq_2] at h
    refine mAt.blk bk_X12_goesBy_39 ck_X12_goesBy_39 ?_
    refine q_iload_n rfl ?_
    refine q_aload_n rfl ?_
    refine q_iconst ?_
    refine q_iald (j := 2) (mrd hr0 _ _) (by decide) (by decide) ?_
    refine q_ic_ge (fun c6 => ?_) (fun c6 => ?_)
    · rw [if_pos c6] at h
      exact okc_X12_goesBy_106 hr0 h ⟨rfl, rfl, rfl, trivial⟩
    · rw [if_neg c6] at h
      refine q_aload_n rfl ?_
      refine q_iload_n rfl ?_
      refine q_iconst ?_
      obtain ⟨q7, e7, h⟩ := mbind h
      refine q_sI3 mcap_0 rfl rfl rfl rfl (by decide) (ok_X12_aThing hr0 e7) ?_
      refine q_if_ne (fun c8 => ?_) (fun c8 => ?_)
      · rw [if_pos c8] at h
        refine q_aload_n rfl ?_
        refine q_aload_n rfl ?_
        refine q_iload_n rfl ?_
        refine q_iconst ?_
        obtain ⟨q9, e9, h⟩ := mbind h
        refine q_sI3 mcap_0 rfl rfl rfl rfl (by decide) (ok_X12_aThing hr0 e9) ?_
        refine q_iconst ?_
        obtain ⟨q10, e10, h⟩ := mbind h
        refine q_sI3 mcap_0 rfl rfl rfl rfl (by decide) (ok_X12_aWell hr0 e10) ?_
        refine q_if_lt (fun c11 => ?_) (fun c11 => ?_)
        · rw [if_pos c11] at h
          exact okc_X12_goesBy_100 hr0 (fun _ _ _ _ e hl => ih  e hl) h ⟨rfl, rfl, rfl, rfl, trivial⟩
        · rw [if_neg c11] at h
          refine q_aload_n rfl ?_
          refine q_iload_n rfl ?_
          obtain ⟨q12, e12, h⟩ := mbind h
          refine q_sI2 mcap_0 rfl rfl rfl rfl (by decide) (ok_X12_stays hr0 e12) ?_
          refine q_if_ne (fun c13 => ?_) (fun c13 => ?_)
          · rw [if_pos c13] at h
            refine q_aload_n rfl ?_
            refine q_iload_n rfl ?_
            refine q_iconst ?_
            refine q_aload_n rfl ?_
            refine q_aload_n rfl ?_
            refine q_iload_n rfl ?_
            refine q_iconst ?_
            obtain ⟨q14, e14, h⟩ := mbind h
            refine q_sI3 mcap_0 rfl rfl rfl rfl (by decide) (ok_X12_aThing hr0 e14) ?_
            refine q_iconst ?_
            obtain ⟨q15, e15, h⟩ := mbind h
            refine q_sI3 mcap_0 rfl rfl rfl rfl (by decide) (ok_X12_aWell hr0 e15) ?_
            refine q_aload_n rfl ?_
            refine q_aload_n rfl ?_
            refine q_iload_n rfl ?_
            obtain ⟨q16, e16, h⟩ := mbind h
            refine q_vI2 mcap_0 rfl rfl ob_93 rfl (by decide) (ok_X12_lasts hr0 e16) ?_
            obtain ⟨q17, e17, h⟩ := mbind h
            refine q_sV5 mcap_0 rfl rfl rfl rfl (by decide) (ok_X12_puts hr0 e17) ?_
            exact okc_X12_goesBy_100 hr0 (fun _ _ _ _ e hl => ih  e hl) h ⟨rfl, rfl, rfl, rfl, trivial⟩
          · rw [if_neg c13] at h
            exact okc_X12_goesBy_100 hr0 (fun _ _ _ _ e hl => ih  e hl) h ⟨rfl, rfl, rfl, rfl, trivial⟩
      · rw [if_neg c8] at h
        exact okc_X12_goesBy_100 hr0 (fun _ _ _ _ e hl => ih  e hl) h ⟨rfl, rfl, rfl, rfl, trivial⟩
def c_X12_goesBy_37 (r0 : Nat) (x2 : Int32) (σ : Sg) : Option (Sg) := (c_X12_goesBy_39  r0 1000 x2 (0 : Int32) σ)
set_option maxHeartbeats 4000000 in
theorem okc_X12_goesBy_37 {L : Nat} {r0 : Nat} {R : Sg} (hr0 : mnth mSh r0 = some (1, 320, [])) {x2 : Int32} {σ : Sg} {pl : mLoc} (h : c_X12_goesBy_37 r0 x2 σ = some R) (hl : mlf [some (.ref 93), some (.ref r0), some (.int x2), none] pl) : mAt 70 180 (none, (mSh, L, R)) 37 pl [] (mSh, L, σ) 0 0 := by
  refine mAt.less hl ?_
  unfold c_X12_goesBy_37 at h
  refine mAt.blk bk_X12_goesBy_37 ck_X12_goesBy_37 ?_
  refine q_iconst ?_
  refine q_istore_n rfl rfl ?_
  exact okc_X12_goesBy_39 hr0 h ⟨rfl, rfl, rfl, rfl, trivial⟩
def c_X12_goesBy_4 (r0 : Nat) : Nat → Int32 → Int32 → Sg → Option (Sg)
  | 0, _, _, _ => none
  | n + 1, x2, x3, σ => (if (σ r0 2) ≤ x3 then (c_X12_goesBy_37  r0 x2 σ) else ((f_X12_aThing r0 x3 (2 : Int32) σ).bind fun q3 => (if q3 = (1 : Int32) then (c_X12_goesBy_29 (c_X12_goesBy_4 r0 n) r0 x3 x2 ((1 : Int32) <<< (x3 &&& 31)) σ) else (c_X12_goesBy_29 (c_X12_goesBy_4 r0 n) r0 x3 x2 (0 : Int32) σ))))
set_option maxHeartbeats 4000000 in
theorem okc_X12_goesBy_4 {L : Nat} {r0 : Nat} {R : Sg} (hr0 : mnth mSh r0 = some (1, 320, [])) {n : Nat} {x2 : Int32} {x3 : Int32} {σ : Sg} {pl : mLoc} (h : c_X12_goesBy_4 r0 n x2 x3 σ = some R) (hl : mlf [some (.ref 93), some (.ref r0), some (.int x2), some (.int x3)] pl) : mAt 70 180 (none, (mSh, L, R)) 4 pl [] (mSh, L, σ) 0 0 := by
  induction n generalizing x2 x3 σ pl with
  | zero =>
    rw [c_X12_goesBy_4.eq_1] at h
    cases h
  | succ n ih =>
    refine mAt.less hl ?_
    rw [c_X12_goesBy_4.eq_2] at h
    refine mAt.blk bk_X12_goesBy_4 ck_X12_goesBy_4 ?_
    refine q_iload_n rfl ?_
    refine q_aload_n rfl ?_
    refine q_iconst ?_
    refine q_iald (j := 2) (mrd hr0 _ _) (by decide) (by decide) ?_
    refine q_ic_ge (fun c2 => ?_) (fun c2 => ?_)
    · rw [if_pos c2] at h
      exact okc_X12_goesBy_37 hr0 h ⟨rfl, rfl, rfl, trivial⟩
    · rw [if_neg c2] at h
      refine q_iload_n rfl ?_
      refine q_aload_n rfl ?_
      refine q_iload_n rfl ?_
      refine q_iconst ?_
      obtain ⟨q3, e3, h⟩ := mbind h
      refine q_sI3 mcap_0 rfl rfl rfl rfl (by decide) (ok_X12_aThing hr0 e3) ?_
      refine q_iconst ?_
      refine q_ic_ne (fun c4 => ?_) (fun c4 => ?_)
      · rw [if_pos c4] at h
        refine q_iconst ?_
        refine q_iload_n rfl ?_
        refine q_ishl ?_
        refine q_goto ?_
        exact okc_X12_goesBy_29 hr0 (fun _ _ _ _ e hl => ih  e hl) h ⟨rfl, rfl, rfl, trivial⟩
      · rw [if_neg c4] at h
        refine mAt.blk bk_X12_goesBy_28 ck_X12_goesBy_28 ?_
        refine q_iconst ?_
        exact okc_X12_goesBy_29 hr0 (fun _ _ _ _ e hl => ih  e hl) h ⟨rfl, rfl, rfl, trivial⟩
def f_X12_goesBy (r0 : Nat) (σ : Sg) : Option (Sg) := (c_X12_goesBy_4  r0 1000 (0 : Int32) (0 : Int32) σ)
set_option maxHeartbeats 4000000 in
theorem ok_X12_goesBy {L : Nat} {r0 : Nat} {σ : Sg} {R : Sg} (hr0 : mnth mSh r0 = some (1, 320, [])) (h : f_X12_goesBy r0 σ = some R) : mEv 70 180 [.ref 93, .ref r0] (mSh, L, σ) none (mSh, L, R) := by
  refine mEv.of (by decide) rfl rfl ?_
  unfold f_X12_goesBy at h
  refine mAt.blk bk_X12_goesBy_0 ck_X12_goesBy_0 ?_
  refine q_iconst ?_
  refine q_istore_n rfl rfl ?_
  refine q_iconst ?_
  refine q_istore_n rfl rfl ?_
  exact okc_X12_goesBy_4 hr0 h ⟨rfl, rfl, rfl, rfl, trivial⟩
def bk_X12_goesOn_0 : List mI := [(.iconst 0, 1, 0, 0, 0, [(0, 0)]), (.istore_n 3, 1, 0, 0, 0, [])]
theorem ck_X12_goesOn_0 : mChk 181 0 bk_X12_goesOn_0 = true := by decide +kernel
def bk_X12_goesOn_2 : List mI := [(.iload_n 3, 1, 0, 0, 0, []), (.iload_n 2, 1, 0, 0, 0, []), (.if_icmp .ge 14, 3, 18, 0, 0, []), (.aload_n 0, 1, 0, 0, 0, []), (.aload_n 1, 1, 0, 0, 0, []), (.invokevirtual 206, 3, 180, 0, 1196, []), (.iinc 3 1, 3, 0, 0, 0, [(1, 0)]), (.goto (-13), 3, 2, 0, 0, [])]
theorem ck_X12_goesOn_2 : mChk 181 2 bk_X12_goesOn_2 = true := by decide +kernel
def bk_X12_goesOn_18 : List mI := [(.return_, 1, 0, 0, 0, [])]
theorem ck_X12_goesOn_18 : mChk 181 18 bk_X12_goesOn_18 = true := by decide +kernel
def c_X12_goesOn_2 (r0 : Nat) : Nat → Int32 → Int32 → Sg → Option (Sg)
  | 0, _, _, _ => none
  | n + 1, x2, x3, σ => (if x2 ≤ x3 then (some σ) else ((f_X12_goesBy r0 σ).bind fun q2 => (c_X12_goesOn_2 r0 n x2 (x3 + (1 : Int32)) q2)))
set_option maxHeartbeats 4000000 in
theorem okc_X12_goesOn_2 {L : Nat} {r0 : Nat} {R : Sg} (hr0 : mnth mSh r0 = some (1, 320, [])) {n : Nat} {x2 : Int32} {x3 : Int32} {σ : Sg} {pl : mLoc} (h : c_X12_goesOn_2 r0 n x2 x3 σ = some R) (hl : mlf [some (.ref 93), some (.ref r0), some (.int x2), some (.int x3)] pl) : mAt 71 181 (none, (mSh, L, R)) 2 pl [] (mSh, L, σ) 0 0 := by
  induction n generalizing x2 x3 σ pl with
  | zero =>
    rw [c_X12_goesOn_2.eq_1] at h
    cases h
  | succ n ih =>
    refine mAt.less hl ?_
    rw [c_X12_goesOn_2.eq_2] at h
    refine mAt.blk bk_X12_goesOn_2 ck_X12_goesOn_2 ?_
    refine q_iload_n rfl ?_
    refine q_iload_n rfl ?_
    refine q_ic_ge (fun c1 => ?_) (fun c1 => ?_)
    · rw [if_pos c1] at h
      refine mAt.blk bk_X12_goesOn_18 ck_X12_goesOn_18 ?_
      have h := Option.some.inj h
      subst h
      exact q_vret mcap_0 rfl rfl
    · rw [if_neg c1] at h
      refine q_aload_n rfl ?_
      refine q_aload_n rfl ?_
      obtain ⟨q2, e2, h⟩ := mbind h
      refine q_vV1 mcap_0 rfl rfl ob_93 rfl (by decide) (ok_X12_goesBy hr0 e2) ?_
      refine q_iinc rfl rfl ?_
      refine q_goto ?_
      exact ih  h ⟨rfl, rfl, rfl, rfl, trivial⟩
def f_X12_goesOn (r0 : Nat) (p1 : Int32) (σ : Sg) : Option (Sg) := (c_X12_goesOn_2  r0 1000 p1 (0 : Int32) σ)
set_option maxHeartbeats 4000000 in
theorem ok_X12_goesOn {L : Nat} {r0 : Nat} {p1 : Int32} {σ : Sg} {R : Sg} (hr0 : mnth mSh r0 = some (1, 320, [])) (h : f_X12_goesOn r0 p1 σ = some R) : mEv 71 181 [.ref 93, .ref r0, .int p1] (mSh, L, σ) none (mSh, L, R) := by
  refine mEv.of (by decide) rfl rfl ?_
  unfold f_X12_goesOn at h
  refine mAt.blk bk_X12_goesOn_0 ck_X12_goesOn_0 ?_
  refine q_iconst ?_
  refine q_istore_n rfl rfl ?_
  exact okc_X12_goesOn_2 hr0 h ⟨rfl, rfl, rfl, rfl, trivial⟩
def bk_X12_days_0 : List mI := [(.iload_n 1, 1, 0, 0, 0, []), (.i2l, 1, 0, 0, 0, []), (.lconst 1, 1, 0, 0, 0, [(1, 0)]), (.ldc2_w 210, 3, 0, 0, 1191, [(100, 0)]), (.invokestatic 48, 3, 135, 0, 1007, []), (.ifCond .ne 9, 3, 18, 0, 0, []), (.aload_n 0, 1, 0, 0, 0, []), (.iconst 1, 1, 0, 0, 0, [(1, 0)]), (.invokevirtual 111, 3, 134, 0, 1010, []), (.ireturn, 1, 0, 0, 0, [])]
theorem ck_X12_days_0 : mChk 182 0 bk_X12_days_0 = true := by decide +kernel
def bk_X12_days_18 : List mI := [(.aload_n 0, 1, 0, 0, 0, []), (.getfield 7, 3, 12, 0, 937, []), (.iconst 0, 1, 0, 0, 0, [(0, 0)]), (.iaload, 1, 0, 0, 0, []), (.iload_n 1, 1, 0, 0, 0, []), (.iadd, 1, 0, 0, 0, []), (.sipush 9999, 3, 0, 0, 0, [(9999, 0)]), (.if_icmp .le 9, 3, 38, 0, 0, []), (.aload_n 0, 1, 0, 0, 0, []), (.iconst 3, 1, 0, 0, 0, [(3, 0)]), (.invokevirtual 111, 3, 134, 0, 1010, []), (.ireturn, 1, 0, 0, 0, [])]
theorem ck_X12_days_18 : mChk 182 18 bk_X12_days_18 = true := by decide +kernel
def bk_X12_days_38 : List mI := [(.aload_n 0, 1, 0, 0, 0, []), (.aload_n 0, 1, 0, 0, 0, []), (.getfield 7, 3, 12, 0, 937, []), (.iload_n 1, 1, 0, 0, 0, []), (.invokevirtual 212, 3, 181, 0, 1192, []), (.aload_n 0, 1, 0, 0, 0, []), (.getfield 7, 3, 12, 0, 937, []), (.iconst 0, 1, 0, 0, 0, [(0, 0)]), (.iaload, 1, 0, 0, 0, []), (.ireturn, 1, 0, 0, 0, [])]
theorem ck_X12_days_38 : mChk 182 38 bk_X12_days_38 = true := by decide +kernel
def f_X12_days (p0 : Int32) (σ : Sg) : Option (Int32 × Sg) := ((f_X12_isIn (p0).toInt64 (1 : Int32).toInt64 (100 : Int32).toInt64 σ).bind fun q1 => (if q1 = 0 then ((f_X12_finds (1 : Int32) σ).bind fun q8 => (some (q8.1, q8.2))) else (if ((σ 94 0) + p0) ≤ (9999 : Int32) then ((f_X12_goesOn 94 p0 σ).bind fun q5 => (some ((q5 94 0), q5))) else ((f_X12_finds (3 : Int32) σ).bind fun q7 => (some (q7.1, q7.2))))))
set_option maxHeartbeats 4000000 in
theorem ok_X12_days {L : Nat} {p0 : Int32} {σ : Sg} {R : Int32 × Sg} (h : f_X12_days p0 σ = some R) : mEv 72 182 [.ref 93, .int p0] (mSh, L, σ) (some (.int R.1)) (mSh, L, R.2) := by
  refine mEv.of (by decide) rfl rfl ?_
  unfold f_X12_days at h
  refine mAt.blk bk_X12_days_0 ck_X12_days_0 ?_
  refine q_iload_n rfl ?_
  refine q_i2l ?_
  refine q_lconst ?_
  refine q_ldc2_w ?_
  obtain ⟨q1, e1, h⟩ := mbind h
  refine q_sI3 mcap_0 rfl rfl rfl rfl (by decide) (ok_X12_isIn  e1) ?_
  refine q_if_ne (fun c2 => ?_) (fun c2 => ?_)
  · rw [if_pos c2] at h
    refine q_aload_n rfl ?_
    refine q_iconst ?_
    obtain ⟨q8, e8, h⟩ := mbind h
    refine q_vI1 mcap_0 rfl rfl ob_93 rfl (by decide) (ok_X12_finds  e8) ?_
    have h := Option.some.inj h
    subst h
    exact q_iretI mcap_0 rfl rfl
  · rw [if_neg c2] at h
    refine mAt.blk bk_X12_days_18 ck_X12_days_18 ?_
    refine q_aload_n rfl ?_
    refine q_getR ob_93 rfl rfl ?_
    refine q_iconst ?_
    refine q_iald (j := 0) (mrd ar_94 _ _) (by decide) (by decide) ?_
    refine q_iload_n rfl ?_
    refine q_iadd ?_
    refine q_sipush ?_
    refine q_ic_le (fun c4 => ?_) (fun c4 => ?_)
    · rw [if_pos c4] at h
      refine mAt.blk bk_X12_days_38 ck_X12_days_38 ?_
      refine q_aload_n rfl ?_
      refine q_aload_n rfl ?_
      refine q_getR ob_93 rfl rfl ?_
      refine q_iload_n rfl ?_
      obtain ⟨q5, e5, h⟩ := mbind h
      refine q_vV2 mcap_0 rfl rfl ob_93 rfl (by decide) (ok_X12_goesOn ar_94 e5) ?_
      refine q_aload_n rfl ?_
      refine q_getR ob_93 rfl rfl ?_
      refine q_iconst ?_
      refine q_iald (j := 0) (mrd ar_94 _ _) (by decide) (by decide) ?_
      have h := Option.some.inj h
      subst h
      exact q_iretI mcap_0 rfl rfl
    · rw [if_neg c4] at h
      refine q_aload_n rfl ?_
      refine q_iconst ?_
      obtain ⟨q7, e7, h⟩ := mbind h
      refine q_vI1 mcap_0 rfl rfl ob_93 rfl (by decide) (ok_X12_finds  e7) ?_
      have h := Option.some.inj h
      subst h
      exact q_iretI mcap_0 rfl rfl
