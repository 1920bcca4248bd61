def bk_X12_soon_0 : List mI := [(.aload_n 0, 1, 0, 0, 0, []), (.iload_n 1, 1, 0, 0, 0, []), (.invokevirtual 131, 3, 138, 0, 1085, []), (.ifCond .eq 23, 3, 28, 0, 0, []), (.aload_n 0, 1, 0, 0, 0, []), (.iload_n 2, 1, 0, 0, 0, []), (.invokevirtual 131, 3, 138, 0, 1085, []), (.ifCond .eq 15, 3, 28, 0, 0, []), (.iload_n 3, 1, 0, 0, 0, []), (.i2l, 1, 0, 0, 0, []), (.lconst 1, 1, 0, 0, 0, [(1, 0)]), (.ldc2_w 146, 3, 0, 0, 1107, [(99, 0)]), (.invokestatic 48, 3, 135, 0, 1007, []), (.ifCond .ne 9, 3, 34, 0, 0, [])]
theorem ck_X12_soon_0 : mChk 194 0 bk_X12_soon_0 = true := by decide +kernel
def bk_X12_soon_28 : List mI := [(.aload_n 0, 1, 0, 0, 0, []), (.iconst 1, 1, 0, 0, 0, [(1, 0)]), (.invokevirtual 111, 3, 134, 0, 1010, []), (.ireturn, 1, 0, 0, 0, [])]
theorem ck_X12_soon_28 : mChk 194 28 bk_X12_soon_28 = true := by decide +kernel
def bk_X12_soon_34 : List mI := [(.aload_n 0, 1, 0, 0, 0, []), (.iload_n 1, 1, 0, 0, 0, []), (.iload_n 2, 1, 0, 0, 0, []), (.iload_n 3, 1, 0, 0, 0, []), (.iconst 1, 1, 0, 0, 0, [(1, 0)]), (.invokevirtual 236, 3, 192, 0, 1248, []), (.ireturn, 1, 0, 0, 0, [])]
theorem ck_X12_soon_34 : mChk 194 34 bk_X12_soon_34 = true := by decide +kernel
def f_X12_soon (p0 : Int32) (p1 : Int32) (p2 : Int32) (σ : Sg) : Option (Int32 × Sg) := ((f_X12_isWell p0 σ).bind fun q1 => (if q1 = 0 then ((f_X12_finds (1 : Int32) σ).bind fun q3 => (some (q3.1, q3.2))) else ((f_X12_isWell p1 σ).bind fun q4 => (if q4 = 0 then ((f_X12_finds (1 : Int32) σ).bind fun q6 => (some (q6.1, q6.2))) else ((f_X12_isIn (p2).toInt64 (1 : Int32).toInt64 (99 : Int32).toInt64 σ).bind fun q7 => (if q7 = 0 then ((f_X12_finds (1 : Int32) σ).bind fun q10 => (some (q10.1, q10.2))) else ((f_X12_least p0 p1 p2 (1 : Int32) σ).bind fun q9 => (some (q9.1, q9.2)))))))))
set_option maxHeartbeats 4000000 in
theorem ok_X12_soon {L : Nat} {p0 : Int32} {p1 : Int32} {p2 : Int32} {σ : Sg} {R : Int32 × Sg} (h : f_X12_soon p0 p1 p2 σ = some R) : mEv 2 194 [.ref 93, .int p0, .int p1, .int p2] (mSh, L, σ) (some (.int R.1)) (mSh, L, R.2) := by
  refine mEv.of (by decide) rfl rfl ?_
  unfold f_X12_soon at h
  refine mAt.blk bk_X12_soon_0 ck_X12_soon_0 ?_
  refine q_aload_n rfl ?_
  refine q_iload_n rfl ?_
  obtain ⟨q1, e1, h⟩ := mbind h
  refine q_vI1 mcap_0 rfl rfl ob_93 rfl (by decide) (ok_X12_isWell  e1) ?_
  refine q_if_eq (fun c2 => ?_) (fun c2 => ?_)
  · rw [if_pos c2] at h
    refine mAt.blk bk_X12_soon_28 ck_X12_soon_28 ?_
    refine q_aload_n rfl ?_
    refine q_iconst ?_
    obtain ⟨q3, e3, h⟩ := mbind h
    refine q_vI1 mcap_0 rfl rfl ob_93 rfl (by decide) (ok_X12_finds  e3) ?_
    have h := Option.some.inj h
    subst h
    exact q_iretI mcap_0 rfl rfl
  · rw [if_neg c2] at h
    refine q_aload_n rfl ?_
    refine q_iload_n rfl ?_
    obtain ⟨q4, e4, h⟩ := mbind h
    refine q_vI1 mcap_0 rfl rfl ob_93 rfl (by decide) (ok_X12_isWell  e4) ?_
    refine q_if_eq (fun c5 => ?_) (fun c5 => ?_)
    · rw [if_pos c5] at h
      refine mAt.blk bk_X12_soon_28 ck_X12_soon_28 ?_
      refine q_aload_n rfl ?_
      refine q_iconst ?_
      obtain ⟨q6, e6, h⟩ := mbind h
      refine q_vI1 mcap_0 rfl rfl ob_93 rfl (by decide) (ok_X12_finds  e6) ?_
      have h := Option.some.inj h
      subst h
      exact q_iretI mcap_0 rfl rfl
    · rw [if_neg c5] at h
      refine q_iload_n rfl ?_
      refine q_i2l ?_
      refine q_lconst ?_
      refine q_ldc2_w ?_
      obtain ⟨q7, e7, h⟩ := mbind h
      refine q_sI3 mcap_0 rfl rfl rfl rfl (by decide) (ok_X12_isIn  e7) ?_
      refine q_if_ne (fun c8 => ?_) (fun c8 => ?_)
      · rw [if_pos c8] at h
        refine mAt.blk bk_X12_soon_28 ck_X12_soon_28 ?_
        refine q_aload_n rfl ?_
        refine q_iconst ?_
        obtain ⟨q10, e10, h⟩ := mbind h
        refine q_vI1 mcap_0 rfl rfl ob_93 rfl (by decide) (ok_X12_finds  e10) ?_
        have h := Option.some.inj h
        subst h
        exact q_iretI mcap_0 rfl rfl
      · rw [if_neg c8] at h
        refine mAt.blk bk_X12_soon_34 ck_X12_soon_34 ?_
        refine q_aload_n rfl ?_
        refine q_iload_n rfl ?_
        refine q_iload_n rfl ?_
        refine q_iload_n rfl ?_
        refine q_iconst ?_
        obtain ⟨q9, e9, h⟩ := mbind h
        refine q_vI4 mcap_0 rfl rfl ob_93 rfl (by decide) (ok_X12_least  e9) ?_
        have h := Option.some.inj h
        subst h
        exact q_iretI mcap_0 rfl rfl
def bk_X12_cheap_0 : List mI := [(.aload_n 0, 1, 0, 0, 0, []), (.iload_n 1, 1, 0, 0, 0, []), (.invokevirtual 131, 3, 138, 0, 1085, []), (.ifCond .eq 23, 3, 28, 0, 0, []), (.aload_n 0, 1, 0, 0, 0, []), (.iload_n 2, 1, 0, 0, 0, []), (.invokevirtual 131, 3, 138, 0, 1085, []), (.ifCond .eq 15, 3, 28, 0, 0, []), (.iload_n 3, 1, 0, 0, 0, []), (.i2l, 1, 0, 0, 0, []), (.lconst 0, 1, 0, 0, 0, [(0, 0)]), (.ldc2_w 146, 3, 0, 0, 1107, [(99, 0)]), (.invokestatic 48, 3, 135, 0, 1007, []), (.ifCond .ne 9, 3, 34, 0, 0, [])]
theorem ck_X12_cheap_0 : mChk 195 0 bk_X12_cheap_0 = true := by decide +kernel
def bk_X12_cheap_28 : List mI := [(.aload_n 0, 1, 0, 0, 0, []), (.iconst 1, 1, 0, 0, 0, [(1, 0)]), (.invokevirtual 111, 3, 134, 0, 1010, []), (.ireturn, 1, 0, 0, 0, [])]
theorem ck_X12_cheap_28 : mChk 195 28 bk_X12_cheap_28 = true := by decide +kernel
def bk_X12_cheap_34 : List mI := [(.aload_n 0, 1, 0, 0, 0, []), (.iload_n 1, 1, 0, 0, 0, []), (.iload_n 2, 1, 0, 0, 0, []), (.iload_n 3, 1, 0, 0, 0, []), (.iconst 0, 1, 0, 0, 0, [(0, 0)]), (.invokevirtual 236, 3, 192, 0, 1248, []), (.ireturn, 1, 0, 0, 0, [])]
theorem ck_X12_cheap_34 : mChk 195 34 bk_X12_cheap_34 = true := by decide +kernel
def f_X12_cheap (p0 : Int32) (p1 : Int32) (p2 : Int32) (σ : Sg) : Option (Int32 × Sg) := ((f_X12_isWell p0 σ).bind fun q1 => (if q1 = 0 then ((f_X12_finds (1 : Int32) σ).bind fun q3 => (some (q3.1, q3.2))) else ((f_X12_isWell p1 σ).bind fun q4 => (if q4 = 0 then ((f_X12_finds (1 : Int32) σ).bind fun q6 => (some (q6.1, q6.2))) else ((f_X12_isIn (p2).toInt64 (0 : Int32).toInt64 (99 : Int32).toInt64 σ).bind fun q7 => (if q7 = 0 then ((f_X12_finds (1 : Int32) σ).bind fun q10 => (some (q10.1, q10.2))) else ((f_X12_least p0 p1 p2 (0 : Int32) σ).bind fun q9 => (some (q9.1, q9.2)))))))))
set_option maxHeartbeats 4000000 in
theorem ok_X12_cheap {L : Nat} {p0 : Int32} {p1 : Int32} {p2 : Int32} {σ : Sg} {R : Int32 × Sg} (h : f_X12_cheap p0 p1 p2 σ = some R) : mEv 2 195 [.ref 93, .int p0, .int p1, .int p2] (mSh, L, σ) (some (.int R.1)) (mSh, L, R.2) := by
  refine mEv.of (by decide) rfl rfl ?_
  unfold f_X12_cheap at h
  refine mAt.blk bk_X12_cheap_0 ck_X12_cheap_0 ?_
  refine q_aload_n rfl ?_
  refine q_iload_n rfl ?_
  obtain ⟨q1, e1, h⟩ := mbind h
  refine q_vI1 mcap_0 rfl rfl ob_93 rfl (by decide) (ok_X12_isWell  e1) ?_
  refine q_if_eq (fun c2 => ?_) (fun c2 => ?_)
  · rw [if_pos c2] at h
    refine mAt.blk bk_X12_cheap_28 ck_X12_cheap_28 ?_
    refine q_aload_n rfl ?_
    refine q_iconst ?_
    obtain ⟨q3, e3, h⟩ := mbind h
    refine q_vI1 mcap_0 rfl rfl ob_93 rfl (by decide) (ok_X12_finds  e3) ?_
    have h := Option.some.inj h
    subst h
    exact q_iretI mcap_0 rfl rfl
  · rw [if_neg c2] at h
    refine q_aload_n rfl ?_
    refine q_iload_n rfl ?_
    obtain ⟨q4, e4, h⟩ := mbind h
    refine q_vI1 mcap_0 rfl rfl ob_93 rfl (by decide) (ok_X12_isWell  e4) ?_
    refine q_if_eq (fun c5 => ?_) (fun c5 => ?_)
    · rw [if_pos c5] at h
      refine mAt.blk bk_X12_cheap_28 ck_X12_cheap_28 ?_
      refine q_aload_n rfl ?_
      refine q_iconst ?_
      obtain ⟨q6, e6, h⟩ := mbind h
      refine q_vI1 mcap_0 rfl rfl ob_93 rfl (by decide) (ok_X12_finds  e6) ?_
      have h := Option.some.inj h
      subst h
      exact q_iretI mcap_0 rfl rfl
    · rw [if_neg c5] at h
      refine q_iload_n rfl ?_
      refine q_i2l ?_
      refine q_lconst ?_
      refine q_ldc2_w ?_
      obtain ⟨q7, e7, h⟩ := mbind h
      refine q_sI3 mcap_0 rfl rfl rfl rfl (by decide) (ok_X12_isIn  e7) ?_
      refine q_if_ne (fun c8 => ?_) (fun c8 => ?_)
      · rw [if_pos c8] at h
        refine mAt.blk bk_X12_cheap_28 ck_X12_cheap_28 ?_
        refine q_aload_n rfl ?_
        refine q_iconst ?_
        obtain ⟨q10, e10, h⟩ := mbind h
        refine q_vI1 mcap_0 rfl rfl ob_93 rfl (by decide) (ok_X12_finds  e10) ?_
        have h := Option.some.inj h
        subst h
        exact q_iretI mcap_0 rfl rfl
      · rw [if_neg c8] at h
        refine mAt.blk bk_X12_cheap_34 ck_X12_cheap_34 ?_
        refine q_aload_n rfl ?_
        refine q_iload_n rfl ?_
        refine q_iload_n rfl ?_
        refine q_iload_n rfl ?_
        refine q_iconst ?_
        obtain ⟨q9, e9, h⟩ := mbind h
        refine q_vI4 mcap_0 rfl rfl ob_93 rfl (by decide) (ok_X12_least  e9) ?_
        have h := Option.some.inj h
        subst h
        exact q_iretI mcap_0 rfl rfl
def bk_X12_ringOf_0 : List mI := [(.aload_n 0, 1, 0, 0, 0, []), (.iload_n 1, 1, 0, 0, 0, []), (.iconst 0, 1, 0, 0, 0, [(0, 0)]), (.invokevirtual 138, 3, 193, 0, 1095, []), (.istore_n 2, 1, 0, 0, 0, []), (.iconst 1, 1, 0, 0, 0, [(1, 0)]), (.istore_n 3, 1, 0, 0, 0, [])]
theorem ck_X12_ringOf_0 : mChk 196 0 bk_X12_ringOf_0 = true := by decide +kernel
def bk_X12_ringOf_9 : List mI := [(.iload_n 2, 1, 0, 0, 0, []), (.ifCond .lt 27, 3, 37, 0, 0, []), (.iload_n 2, 1, 0, 0, 0, []), (.iload_n 1, 1, 0, 0, 0, []), (.if_icmp .eq 22, 3, 37, 0, 0, []), (.iload_n 3, 1, 0, 0, 0, []), (.bipush 20, 2, 0, 0, 0, [(20, 0)]), (.if_icmp .ge 16, 3, 37, 0, 0, []), (.aload_n 0, 1, 0, 0, 0, []), (.iload_n 2, 1, 0, 0, 0, []), (.iconst 0, 1, 0, 0, 0, [(0, 0)]), (.invokevirtual 138, 3, 193, 0, 1095, []), (.istore_n 2, 1, 0, 0, 0, []), (.iinc 3 1, 3, 0, 0, 0, [(1, 0)]), (.goto (-25), 3, 9, 0, 0, [])]
theorem ck_X12_ringOf_9 : mChk 196 9 bk_X12_ringOf_9 = true := by decide +kernel
def bk_X12_ringOf_37 : List mI := [(.iload_n 2, 1, 0, 0, 0, []), (.iload_n 1, 1, 0, 0, 0, []), (.if_icmp .ne 7, 3, 46, 0, 0, []), (.iload_n 3, 1, 0, 0, 0, []), (.goto 4, 3, 47, 0, 0, [])]
theorem ck_X12_ringOf_37 : mChk 196 37 bk_X12_ringOf_37 = true := by decide +kernel
def bk_X12_ringOf_46 : List mI := [(.iconst 0, 1, 0, 0, 0, [(0, 0)])]
theorem ck_X12_ringOf_46 : mChk 196 46 bk_X12_ringOf_46 = true := by decide +kernel
def bk_X12_ringOf_47 : List mI := [(.ireturn, 1, 0, 0, 0, [])]
theorem ck_X12_ringOf_47 : mChk 196 47 bk_X12_ringOf_47 = true := by decide +kernel
def c_X12_ringOf_37 (σ : Sg) (x1 : Int32) (x2 : Int32) (x3 : Int32) : Option (Int32) := (if x2 = x1 then (some x3) else (some (0 : Int32)))
set_option maxHeartbeats 4000000 in
theorem okc_X12_ringOf_37 {L : Nat} {σ : Sg} {R : Int32} {x1 : Int32} {x2 : Int32} {x3 : Int32} {pl : mLoc} (h : c_X12_ringOf_37 σ x1 x2 x3 = some R) (hl : mlf [none, some (.int x1), some (.int x2), some (.int x3)] pl) : mAt 1 196 (some (.int R), (mSh, L, σ)) 37 pl [] (mSh, L, σ) 0 0 := by
  refine mAt.less hl ?_
  unfold c_X12_ringOf_37 at h
  refine mAt.blk bk_X12_ringOf_37 ck_X12_ringOf_37 ?_
  refine q_iload_n rfl ?_
  refine q_iload_n rfl ?_
  refine q_ic_ne (fun c5 => ?_) (fun c5 => ?_)
  · rw [if_pos c5] at h
    refine q_iload_n rfl ?_
    refine q_goto ?_
    refine mAt.blk bk_X12_ringOf_47 ck_X12_ringOf_47 ?_
    have h := Option.some.inj h
    subst h
    exact q_iretI mcap_0 rfl rfl
  · rw [if_neg c5] at h
    refine mAt.blk bk_X12_ringOf_46 ck_X12_ringOf_46 ?_
    refine q_iconst ?_
    refine mAt.blk bk_X12_ringOf_47 ck_X12_ringOf_47 ?_
    have h := Option.some.inj h
    subst h
    exact q_iretI mcap_0 rfl rfl
def c_X12_ringOf_9 (σ : Sg) : Nat → Int32 → Int32 → Int32 → Option (Int32)
  | 0, _, _, _ => none
  | n + 1, x1, x2, x3 => (if x2 < 0 then (c_X12_ringOf_37  σ x1 x2 x3) else (if x2 = x1 then (c_X12_ringOf_37  σ x1 x2 x3) else (if (20 : Int32) ≤ x3 then (c_X12_ringOf_37  σ x1 x2 x3) else ((f_X12_itsWell x2 (0 : Int32) σ).bind fun q4 => (c_X12_ringOf_9 σ n x1 q4 (x3 + (1 : Int32)))))))
set_option maxHeartbeats 4000000 in
theorem okc_X12_ringOf_9 {L : Nat} {σ : Sg} {R : Int32} {n : Nat} {x1 : Int32} {x2 : Int32} {x3 : Int32} {pl : mLoc} (h : c_X12_ringOf_9 σ n x1 x2 x3 = some R) (hl : mlf [some (.ref 93), some (.int x1), some (.int x2), some (.int x3)] pl) : mAt 1 196 (some (.int R), (mSh, L, σ)) 9 pl [] (mSh, L, σ) 0 0 := by
  induction n generalizing x1 x2 x3 pl with
  | zero =>
    rw [c_X12_ringOf_9.eq_1] at h
    cases h
  | succ n ih =>
    refine mAt.less hl ?_
    rw [c_X12_ringOf_9.eq_2] at h
    refine mAt.blk bk_X12_ringOf_9 ck_X12_ringOf_9 ?_
    refine q_iload_n rfl ?_
    refine q_if_lt (fun c1 => ?_) (fun c1 => ?_)
    · rw [if_pos c1] at h
      exact okc_X12_ringOf_37  h ⟨rfl, rfl, rfl, trivial⟩
    · rw [if_neg c1] at h
      refine q_iload_n rfl ?_
      refine q_iload_n rfl ?_
      refine q_ic_eq (fun c2 => ?_) (fun c2 => ?_)
      · rw [if_pos c2] at h
        exact okc_X12_ringOf_37  h ⟨rfl, rfl, rfl, trivial⟩
      · rw [if_neg c2] at h
        refine q_iload_n rfl ?_
        refine q_bipush ?_
        refine q_ic_ge (fun c3 => ?_) (fun c3 => ?_)
        · rw [if_pos c3] at h
          exact okc_X12_ringOf_37  h ⟨rfl, rfl, rfl, trivial⟩
        · rw [if_neg c3] at h
          refine q_aload_n rfl ?_
          refine q_iload_n rfl ?_
          refine q_iconst ?_
          obtain ⟨q4, e4, h⟩ := mbind h
          refine q_vI2 mcap_0 rfl rfl ob_93 rfl (by decide) (ok_X12_itsWell  e4) ?_
          refine q_istore_n rfl rfl ?_
          refine q_iinc rfl rfl ?_
          refine q_goto ?_
          exact ih  h ⟨rfl, rfl, rfl, rfl, trivial⟩
def f_X12_ringOf (p0 : Int32) (σ : Sg) : Option (Int32) := ((f_X12_itsWell p0 (0 : Int32) σ).bind fun q6 => (c_X12_ringOf_9  σ 1000 p0 q6 (1 : Int32)))
set_option maxHeartbeats 4000000 in
theorem ok_X12_ringOf {L : Nat} {p0 : Int32} {σ : Sg} {R : Int32} (h : f_X12_ringOf p0 σ = some R) : mEv 1 196 [.ref 93, .int p0] (mSh, L, σ) (some (.int R)) (mSh, L, σ) := by
  refine mEv.of (by decide) rfl rfl ?_
  unfold f_X12_ringOf at h
  refine mAt.blk bk_X12_ringOf_0 ck_X12_ringOf_0 ?_
  refine q_aload_n rfl ?_
  refine q_iload_n rfl ?_
  refine q_iconst ?_
  obtain ⟨q6, e6, h⟩ := mbind h
  refine q_vI2 mcap_0 rfl rfl ob_93 rfl (by decide) (ok_X12_itsWell  e6) ?_
  refine q_istore_n rfl rfl ?_
  refine q_iconst ?_
  refine q_istore_n rfl rfl ?_
  exact okc_X12_ringOf_9  h ⟨rfl, rfl, rfl, rfl, trivial⟩
def bk_X12_rings_0 : List mI := [(.iload_n 1, 1, 0, 0, 0, []), (.i2l, 1, 0, 0, 0, []), (.lconst 0, 1, 0, 0, 0, [(0, 0)]), (.lconst 1, 1, 0, 0, 0, [(1, 0)]), (.invokestatic 48, 3, 135, 0, 1007, []), (.ifCond .ne 9, 3, 16, 0, 0, []), (.aload_n 0, 1, 0, 0, 0, []), (.iconst 1, 1, 0, 0, 0, [(1, 0)]), (.invokevirtual 111, 3, 134, 0, 1010, []), (.ireturn, 1, 0, 0, 0, [])]
theorem ck_X12_rings_0 : mChk 197 0 bk_X12_rings_0 = true := by decide +kernel
def bk_X12_rings_16 : List mI := [(.iconst 0, 1, 0, 0, 0, [(0, 0)]), (.istore_n 2, 1, 0, 0, 0, []), (.iconst 0, 1, 0, 0, 0, [(0, 0)]), (.istore_n 3, 1, 0, 0, 0, []), (.iconst 0, 1, 0, 0, 0, [(0, 0)]), (.istore 4, 2, 0, 0, 0, []), (.iconst 0, 1, 0, 0, 0, [(0, 0)]), (.istore 5, 2, 0, 0, 0, [])]
theorem ck_X12_rings_16 : mChk 197 16 bk_X12_rings_16 = true := by decide +kernel
def bk_X12_rings_26 : List mI := [(.iload 5, 2, 0, 0, 0, []), (.aload_n 0, 1, 0, 0, 0, []), (.getfield 7, 3, 12, 0, 937, []), (.iconst 1, 1, 0, 0, 0, [(1, 0)]), (.iaload, 1, 0, 0, 0, []), (.if_icmp .ge 89, 3, 123, 0, 0, []), (.aload_n 0, 1, 0, 0, 0, []), (.iload 5, 2, 0, 0, 0, []), (.invokevirtual 240, 3, 196, 0, 1261, []), (.istore 6, 2, 0, 0, 0, []), (.iload_n 2, 1, 0, 0, 0, []), (.iload 6, 2, 0, 0, 0, []), (.ifCond .ne 10, 3, 58, 0, 0, []), (.iconst 1, 1, 0, 0, 0, [(1, 0)]), (.iload 5, 2, 0, 0, 0, []), (.ishl, 1, 0, 0, 0, []), (.goto 4, 3, 59, 0, 0, [])]
theorem ck_X12_rings_26 : mChk 197 26 bk_X12_rings_26 = true := by decide +kernel
def bk_X12_rings_58 : List mI := [(.iconst 0, 1, 0, 0, 0, [(0, 0)])]
theorem ck_X12_rings_58 : mChk 197 58 bk_X12_rings_58 = true := by decide +kernel
def bk_X12_rings_59 : List mI := [(.ior, 1, 0, 0, 0, []), (.istore_n 2, 1, 0, 0, 0, []), (.iload 6, 2, 0, 0, 0, []), (.ifCond .le 54, 3, 117, 0, 0, []), (.iload 4, 2, 0, 0, 0, []), (.iload 5, 2, 0, 0, 0, []), (.ishr, 1, 0, 0, 0, []), (.iconst 1, 1, 0, 0, 0, [(1, 0)]), (.iand, 1, 0, 0, 0, []), (.ifCond .ne 44, 3, 117, 0, 0, []), (.iinc 3 1, 3, 0, 0, 0, [(1, 0)]), (.iload 5, 2, 0, 0, 0, []), (.istore 7, 2, 0, 0, 0, []), (.iconst 0, 1, 0, 0, 0, [(0, 0)]), (.istore 8, 2, 0, 0, 0, [])]
theorem ck_X12_rings_59 : mChk 197 59 bk_X12_rings_59 = true := by decide +kernel
def bk_X12_rings_86 : List mI := [(.iload 8, 2, 0, 0, 0, []), (.iload 6, 2, 0, 0, 0, []), (.if_icmp .ge 27, 3, 117, 0, 0, []), (.iload 4, 2, 0, 0, 0, []), (.iconst 1, 1, 0, 0, 0, [(1, 0)]), (.iload 7, 2, 0, 0, 0, []), (.ishl, 1, 0, 0, 0, []), (.ior, 1, 0, 0, 0, []), (.istore 4, 2, 0, 0, 0, []), (.aload_n 0, 1, 0, 0, 0, []), (.iload 7, 2, 0, 0, 0, []), (.iconst 0, 1, 0, 0, 0, [(0, 0)]), (.invokevirtual 138, 3, 193, 0, 1095, []), (.istore 7, 2, 0, 0, 0, []), (.iinc 8 1, 3, 0, 0, 0, [(1, 0)]), (.goto (-28), 3, 86, 0, 0, [])]
theorem ck_X12_rings_86 : mChk 197 86 bk_X12_rings_86 = true := by decide +kernel
def bk_X12_rings_117 : List mI := [(.iinc 5 1, 3, 0, 0, 0, [(1, 0)]), (.goto (-94), 3, 26, 0, 0, [])]
theorem ck_X12_rings_117 : mChk 197 117 bk_X12_rings_117 = true := by decide +kernel
def bk_X12_rings_123 : List mI := [(.iload_n 1, 1, 0, 0, 0, []), (.ifCond .ne 7, 3, 131, 0, 0, []), (.iload_n 2, 1, 0, 0, 0, []), (.goto 4, 3, 132, 0, 0, [])]
theorem ck_X12_rings_123 : mChk 197 123 bk_X12_rings_123 = true := by decide +kernel
def bk_X12_rings_131 : List mI := [(.iload_n 3, 1, 0, 0, 0, [])]
theorem ck_X12_rings_131 : mChk 197 131 bk_X12_rings_131 = true := by decide +kernel
def bk_X12_rings_132 : List mI := [(.ireturn, 1, 0, 0, 0, [])]
theorem ck_X12_rings_132 : mChk 197 132 bk_X12_rings_132 = true := by decide +kernel
def c_X12_rings_117 (k26 : Int32 → Int32 → Int32 → Int32 → Int32 → Sg → Option (Int32 × Sg)) (x1 : Int32) (x2 : Int32) (x3 : Int32) (x4 : Int32) (x5 : Int32) (σ : Sg) : Option (Int32 × Sg) := (k26 x1 x2 x3 x4 (x5 + (1 : Int32)) σ)
set_option maxHeartbeats 4000000 in
theorem okc_X12_rings_117 {L : Nat} {k26 : Int32 → Int32 → Int32 → Int32 → Int32 → Sg → Option (Int32 × Sg)} {R : Int32 × Sg} (Hk26 : ∀ (x1 : Int32) (x2 : Int32) (x3 : Int32) (x4 : Int32) (x5 : Int32) (σ : Sg) (pl : mLoc), k26 x1 x2 x3 x4 x5 σ = some R → mlf [some (.ref 93), some (.int x1), some (.int x2), some (.int x3), some (.int x4), some (.int x5), none, none, none] pl → mAt 2 197 (some (.int R.1), (mSh, L, R.2)) 26 pl [] (mSh, L, σ) 0 0) {x1 : Int32} {x2 : Int32} {x3 : Int32} {x4 : Int32} {x5 : Int32} {σ : Sg} {pl : mLoc} (h : c_X12_rings_117 k26 x1 x2 x3 x4 x5 σ = some R) (hl : mlf [some (.ref 93), some (.int x1), some (.int x2), some (.int x3), some (.int x4), some (.int x5), none, none, none] pl) : mAt 2 197 (some (.int R.1), (mSh, L, R.2)) 117 pl [] (mSh, L, σ) 0 0 := by
  refine mAt.less hl ?_
  unfold c_X12_rings_117 at h
  refine mAt.blk bk_X12_rings_117 ck_X12_rings_117 ?_
  refine q_iinc rfl rfl ?_
  refine q_goto ?_
  exact Hk26 _ _ _ _ _ _ _  h ⟨rfl, rfl, rfl, rfl, rfl, rfl, trivial⟩
def c_X12_rings_123 (x1 : Int32) (x2 : Int32) (x3 : Int32) (σ : Sg) : Option (Int32 × Sg) := (if x1 = 0 then (some (x2, σ)) else (some (x3, σ)))
set_option maxHeartbeats 4000000 in
theorem okc_X12_rings_123 {L : Nat} {R : Int32 × Sg} {x1 : Int32} {x2 : Int32} {x3 : Int32} {σ : Sg} {pl : mLoc} (h : c_X12_rings_123 x1 x2 x3 σ = some R) (hl : mlf [none, some (.int x1), some (.int x2), some (.int x3), none, none, none, none, none] pl) : mAt 2 197 (some (.int R.1), (mSh, L, R.2)) 123 pl [] (mSh, L, σ) 0 0 := by
  refine mAt.less hl ?_
  unfold c_X12_rings_123 at h
  refine mAt.blk bk_X12_rings_123 ck_X12_rings_123 ?_
  refine q_iload_n rfl ?_
  refine q_if_ne (fun c9 => ?_) (fun c9 => ?_)
  · rw [if_pos c9] at h
    refine q_iload_n rfl ?_
    refine q_goto ?_
    refine mAt.blk bk_X12_rings_132 ck_X12_rings_132 ?_
    have h := Option.some.inj h
    subst h
    exact q_iretI mcap_0 rfl rfl
  · rw [if_neg c9] at h
    refine mAt.blk bk_X12_rings_131 ck_X12_rings_131 ?_
    refine q_iload_n rfl ?_
    refine mAt.blk bk_X12_rings_132 ck_X12_rings_132 ?_
    have h := Option.some.inj h
    subst h
    exact q_iretI mcap_0 rfl rfl
def c_X12_rings_86 (k26 : Int32 → Int32 → Int32 → Int32 → Int32 → Sg → Option (Int32 × Sg)) : Nat → Int32 → Int32 → Int32 → Int32 → Int32 → Int32 → Int32 → Int32 → Sg → Option (Int32 × Sg)
  | 0, _, _, _, _, _, _, _, _, _ => none
  | n + 1, x1, x2, x3, x4, x5, x6, x7, x8, σ => (if x6 ≤ x8 then (c_X12_rings_117 k26  x1 x2 x3 x4 x5 σ) else ((f_X12_itsWell x7 (0 : Int32) σ).bind fun q8 => (c_X12_rings_86 k26 n x1 x2 x3 (x4 ||| ((1 : Int32) <<< (x7 &&& 31))) x5 x6 q8 (x8 + (1 : Int32)) σ)))
set_option maxHeartbeats 4000000 in
theorem okc_X12_rings_86 {L : Nat} {k26 : Int32 → Int32 → Int32 → Int32 → Int32 → Sg → Option (Int32 × Sg)} {R : Int32 × Sg} (Hk26 : ∀ (x1 : Int32) (x2 : Int32) (x3 : Int32) (x4 : Int32) (x5 : Int32) (σ : Sg) (pl : mLoc), k26 x1 x2 x3 x4 x5 σ = some R → mlf [some (.ref 93), some (.int x1), some (.int x2), some (.int x3), some (.int x4), some (.int x5), none, none, none] pl → mAt 2 197 (some (.int R.1), (mSh, L, R.2)) 26 pl [] (mSh, L, σ) 0 0) {n : Nat} {x1 : Int32} {x2 : Int32} {x3 : Int32} {x4 : Int32} {x5 : Int32} {x6 : Int32} {x7 : Int32} {x8 : Int32} {σ : Sg} {pl : mLoc} (h : c_X12_rings_86 k26 n x1 x2 x3 x4 x5 x6 x7 x8 σ = some R) (hl : mlf [some (.ref 93), some (.int x1), some (.int x2), some (.int x3), some (.int x4), some (.int x5), some (.int x6), some (.int x7), some (.int x8)] pl) : mAt 2 197 (some (.int R.1), (mSh, L, R.2)) 86 pl [] (mSh, L, σ) 0 0 := by
  induction n generalizing x1 x2 x3 x4 x5 x6 x7 x8 σ pl with
  | zero =>
    rw [c_X12_rings_86.eq_1] at h
    cases h
  | succ n ih =>
    refine mAt.less hl ?_
    rw [c_X12_rings_86.eq_2] at h
    refine mAt.blk bk_X12_rings_86 ck_X12_rings_86 ?_
    refine q_iload rfl ?_
    refine q_iload rfl ?_
    refine q_ic_ge (fun c7 => ?_) (fun c7 => ?_)
    · rw [if_pos c7] at h
      exact okc_X12_rings_117 Hk26 h ⟨rfl, rfl, rfl, rfl, rfl, rfl, trivial⟩
    · rw [if_neg c7] at h
      refine q_iload rfl ?_
      refine q_iconst ?_
      refine q_iload rfl ?_
      refine q_ishl ?_
      refine q_ior ?_
      refine q_istore rfl rfl ?_
      refine q_aload_n rfl ?_
      refine q_iload rfl ?_
      refine q_iconst ?_
      obtain ⟨q8, e8, h⟩ := mbind h
      refine q_vI2 mcap_0 rfl rfl ob_93 rfl (by decide) (ok_X12_itsWell  e8) ?_
      refine q_istore rfl rfl ?_
      refine q_iinc rfl rfl ?_
      refine q_goto ?_
      exact ih  h ⟨rfl, rfl, rfl, rfl, rfl, rfl, rfl, rfl, rfl, trivial⟩
def c_X12_rings_59 (k26 : Int32 → Int32 → Int32 → Int32 → Int32 → Sg → Option (Int32 × Sg)) (x1 : Int32) (x3 : Int32) (x4 : Int32) (x5 : Int32) (x6 : Int32) (s0 : Int32) (s1 : Int32) (σ : Sg) : Option (Int32 × Sg) := (if x6 ≤ 0 then (c_X12_rings_117 k26  x1 (s0 ||| s1) x3 x4 x5 σ) else (if ((x4 >>> (x5 &&& 31)) &&& (1 : Int32)) = 0 then (c_X12_rings_86 k26  1000 x1 (s0 ||| s1) (x3 + (1 : Int32)) x4 x5 x6 x5 (0 : Int32) σ) else (c_X12_rings_117 k26  x1 (s0 ||| s1) x3 x4 x5 σ)))
set_option maxHeartbeats 4000000 in
theorem okc_X12_rings_59 {L : Nat} {k26 : Int32 → Int32 → Int32 → Int32 → Int32 → Sg → Option (Int32 × Sg)} {R : Int32 × Sg} (Hk26 : ∀ (x1 : Int32) (x2 : Int32) (x3 : Int32) (x4 : Int32) (x5 : Int32) (σ : Sg) (pl : mLoc), k26 x1 x2 x3 x4 x5 σ = some R → mlf [some (.ref 93), some (.int x1), some (.int x2), some (.int x3), some (.int x4), some (.int x5), none, none, none] pl → mAt 2 197 (some (.int R.1), (mSh, L, R.2)) 26 pl [] (mSh, L, σ) 0 0) {x1 : Int32} {x3 : Int32} {x4 : Int32} {x5 : Int32} {x6 : Int32} {s0 : Int32} {s1 : Int32} {σ : Sg} {pl : mLoc} (h : c_X12_rings_59 k26 x1 x3 x4 x5 x6 s0 s1 σ = some R) (hl : mlf [some (.ref 93), some (.int x1), none, some (.int x3), some (.int x4), some (.int x5), some (.int x6), none, none] pl) : mAt 2 197 (some (.int R.1), (mSh, L, R.2)) 59 pl [.int s1, .int s0] (mSh, L, σ) 0 0 := by
  refine mAt.less hl ?_
  unfold c_X12_rings_59 at h
  refine mAt.blk bk_X12_rings_59 ck_X12_rings_59 ?_
  refine q_ior ?_
  refine q_istore_n rfl rfl ?_
  refine q_iload rfl ?_
  refine q_if_le (fun c5 => ?_) (fun c5 => ?_)
  · rw [if_pos c5] at h
    exact okc_X12_rings_117 Hk26 h ⟨rfl, rfl, rfl, rfl, rfl, rfl, trivial⟩
  · rw [if_neg c5] at h
    refine q_iload rfl ?_
    refine q_iload rfl ?_
    refine q_ishr ?_
    refine q_iconst ?_
    refine q_iand ?_
    refine q_if_ne (fun c6 => ?_) (fun c6 => ?_)
    · rw [if_pos c6] at h
      refine q_iinc rfl rfl ?_
      refine q_iload rfl ?_
      refine q_istore rfl rfl ?_
      refine q_iconst ?_
      refine q_istore rfl rfl ?_
      exact okc_X12_rings_86 Hk26 h ⟨rfl, rfl, rfl, rfl, rfl, rfl, rfl, rfl, rfl, trivial⟩
    · rw [if_neg c6] at h
      exact okc_X12_rings_117 Hk26 h ⟨rfl, rfl, rfl, rfl, rfl, rfl, trivial⟩
def c_X12_rings_26 : Nat → Int32 → Int32 → Int32 → Int32 → Int32 → Sg → Option (Int32 × Sg)
  | 0, _, _, _, _, _, _ => none
  | n + 1, x1, x2, x3, x4, x5, σ => (if (σ 94 1) ≤ x5 then (c_X12_rings_123   x1 x2 x3 σ) else ((f_X12_ringOf x5 σ).bind fun q3 => (if q3 = 0 then (c_X12_rings_59 (c_X12_rings_26  n)  x1 x3 x4 x5 q3 x2 ((1 : Int32) <<< (x5 &&& 31)) σ) else (c_X12_rings_59 (c_X12_rings_26  n)  x1 x3 x4 x5 q3 x2 (0 : Int32) σ))))
set_option maxHeartbeats 4000000 in
theorem okc_X12_rings_26 {L : Nat} {R : Int32 × Sg} {n : Nat} {x1 : Int32} {x2 : Int32} {x3 : Int32} {x4 : Int32} {x5 : Int32} {σ : Sg} {pl : mLoc} (h : c_X12_rings_26 n x1 x2 x3 x4 x5 σ = some R) (hl : mlf [some (.ref 93), some (.int x1), some (.int x2), some (.int x3), some (.int x4), some (.int x5), none, none, none] pl) : mAt 2 197 (some (.int R.1), (mSh, L, R.2)) 26 pl [] (mSh, L, σ) 0 0 := by
  induction n generalizing x1 x2 x3 x4 x5 σ pl with
  | zero =>
    rw [c_X12_rings_26.eq_1] at h
    cases h
  | succ n ih =>
    refine mAt.less hl ?_
    rw [c_X12_rings_26.eq_2] at h
    refine mAt.blk bk_X12_rings_26 ck_X12_rings_26 ?_
    refine q_iload rfl ?_
    refine q_aload_n rfl ?_
    refine q_getR ob_93 rfl rfl ?_
    refine q_iconst ?_
    refine q_iald (j := 1) (mrd ar_94 _ _) (by decide) (by decide) ?_
    refine q_ic_ge (fun c2 => ?_) (fun c2 => ?_)
    · rw [if_pos c2] at h
      exact okc_X12_rings_123  h ⟨rfl, rfl, rfl, trivial⟩
    · rw [if_neg c2] at h
      refine q_aload_n rfl ?_
      refine q_iload rfl ?_
      obtain ⟨q3, e3, h⟩ := mbind h
      refine q_vI1 mcap_0 rfl rfl ob_93 rfl (by decide) (ok_X12_ringOf  e3) ?_
      refine q_istore rfl rfl ?_
      refine q_iload_n rfl ?_
      refine q_iload rfl ?_
      refine q_if_ne (fun c4 => ?_) (fun c4 => ?_)
      · rw [if_pos c4] at h
        refine q_iconst ?_
        refine q_iload rfl ?_
        refine q_ishl ?_
        refine q_goto ?_
        exact okc_X12_rings_59 (fun _ _ _ _ _ _ _ e hl => ih  e hl) h ⟨rfl, rfl, rfl, rfl, rfl, rfl, trivial⟩
      · rw [if_neg c4] at h
        refine mAt.blk bk_X12_rings_58 ck_X12_rings_58 ?_
        refine q_iconst ?_
        exact okc_X12_rings_59 (fun _ _ _ _ _ _ _ e hl => ih  e hl) h ⟨rfl, rfl, rfl, rfl, rfl, rfl, trivial⟩
def f_X12_rings (p0 : Int32) (σ : Sg) : Option (Int32 × Sg) := ((f_X12_isIn (p0).toInt64 (0 : Int32).toInt64 (1 : Int32).toInt64 σ).bind fun q10 => (if q10 = 0 then ((f_X12_finds (1 : Int32) σ).bind fun q12 => (some (q12.1, q12.2))) else (c_X12_rings_26   1000 p0 (0 : Int32) (0 : Int32) (0 : Int32) (0 : Int32) σ)))
set_option maxHeartbeats 4000000 in
theorem ok_X12_rings {L : Nat} {p0 : Int32} {σ : Sg} {R : Int32 × Sg} (h : f_X12_rings p0 σ = some R) : mEv 2 197 [.ref 93, .int p0] (mSh, L, σ) (some (.int R.1)) (mSh, L, R.2) := by
  refine mEv.of (by decide) rfl rfl ?_
  unfold f_X12_rings at h
  refine mAt.blk bk_X12_rings_0 ck_X12_rings_0 ?_
  refine q_iload_n rfl ?_
  refine q_i2l ?_
  refine q_lconst ?_
  refine q_lconst ?_
  obtain ⟨q10, e10, h⟩ := mbind h
  refine q_sI3 mcap_0 rfl rfl rfl rfl (by decide) (ok_X12_isIn  e10) ?_
  refine q_if_ne (fun c11 => ?_) (fun c11 => ?_)
  · rw [if_pos c11] at h
    refine q_aload_n rfl ?_
    refine q_iconst ?_
    obtain ⟨q12, e12, h⟩ := mbind h
    refine q_vI1 mcap_0 rfl rfl ob_93 rfl (by decide) (ok_X12_finds  e12) ?_
    have h := Option.some.inj h
    subst h
    exact q_iretI mcap_0 rfl rfl
  · rw [if_neg c11] at h
    refine mAt.blk bk_X12_rings_16 ck_X12_rings_16 ?_
    refine q_iconst ?_
    refine q_istore_n rfl rfl ?_
    refine q_iconst ?_
    refine q_istore_n rfl rfl ?_
    refine q_iconst ?_
    refine q_istore rfl rfl ?_
    refine q_iconst ?_
    refine q_istore rfl rfl ?_
    exact okc_X12_rings_26  h ⟨rfl, rfl, rfl, rfl, rfl, rfl, trivial⟩
def bk_X12_walk_0 : List mI := [(.iload_n 1, 1, 0, 0, 0, []), (.istore 6, 2, 0, 0, 0, []), (.iconst 0, 1, 0, 0, 0, [(0, 0)]), (.istore 7, 2, 0, 0, 0, [])]
theorem ck_X12_walk_0 : mChk 198 0 bk_X12_walk_0 = true := by decide +kernel
def bk_X12_walk_6 : List mI := [(.iload 6, 2, 0, 0, 0, []), (.ifCond .lt 55, 3, 63, 0, 0, []), (.iload 7, 2, 0, 0, 0, []), (.iload_n 2, 1, 0, 0, 0, []), (.if_icmp .ge 49, 3, 63, 0, 0, []), (.iload 7, 2, 0, 0, 0, []), (.iload 6, 2, 0, 0, 0, []), (.iload_n 3, 1, 0, 0, 0, []), (.if_icmp .ne 8, 3, 30, 0, 0, []), (.iload 5, 2, 0, 0, 0, []), (.goto 10, 3, 37, 0, 0, [])]
theorem ck_X12_walk_6 : mChk 198 6 bk_X12_walk_6 = true := by decide +kernel
def bk_X12_walk_30 : List mI := [(.aload_n 0, 1, 0, 0, 0, []), (.iload 6, 2, 0, 0, 0, []), (.iconst 1, 1, 0, 0, 0, [(1, 0)]), (.invokevirtual 138, 3, 193, 0, 1095, [])]
theorem ck_X12_walk_30 : mChk 198 30 bk_X12_walk_30 = true := by decide +kernel
def bk_X12_walk_37 : List mI := [(.iadd, 1, 0, 0, 0, []), (.istore 7, 2, 0, 0, 0, []), (.iload 6, 2, 0, 0, 0, []), (.iload_n 3, 1, 0, 0, 0, []), (.if_icmp .ne 8, 3, 51, 0, 0, []), (.iload 4, 2, 0, 0, 0, []), (.goto 10, 3, 58, 0, 0, [])]
theorem ck_X12_walk_37 : mChk 198 37 bk_X12_walk_37 = true := by decide +kernel
def bk_X12_walk_51 : List mI := [(.aload_n 0, 1, 0, 0, 0, []), (.iload 6, 2, 0, 0, 0, []), (.iconst 0, 1, 0, 0, 0, [(0, 0)]), (.invokevirtual 138, 3, 193, 0, 1095, [])]
theorem ck_X12_walk_51 : mChk 198 51 bk_X12_walk_51 = true := by decide +kernel
def bk_X12_walk_58 : List mI := [(.istore 6, 2, 0, 0, 0, []), (.goto (-54), 3, 6, 0, 0, [])]
theorem ck_X12_walk_58 : mChk 198 58 bk_X12_walk_58 = true := by decide +kernel
def bk_X12_walk_63 : List mI := [(.iload 7, 2, 0, 0, 0, []), (.iload_n 2, 1, 0, 0, 0, []), (.if_icmp .ne 8, 3, 74, 0, 0, []), (.iload 6, 2, 0, 0, 0, []), (.goto 4, 3, 75, 0, 0, [])]
theorem ck_X12_walk_63 : mChk 198 63 bk_X12_walk_63 = true := by decide +kernel
def bk_X12_walk_74 : List mI := [(.iconst (-1), 1, 0, 0, 0, [((-1), 0)])]
theorem ck_X12_walk_74 : mChk 198 74 bk_X12_walk_74 = true := by decide +kernel
def bk_X12_walk_75 : List mI := [(.ireturn, 1, 0, 0, 0, [])]
theorem ck_X12_walk_75 : mChk 198 75 bk_X12_walk_75 = true := by decide +kernel
def c_X12_walk_58 (k6 : Int32 → Int32 → Int32 → Int32 → Int32 → Int32 → Option (Int32)) (σ : Sg) (x2 : Int32) (x3 : Int32) (x4 : Int32) (x5 : Int32) (x7 : Int32) (s0 : Int32) : Option (Int32) := (k6 x2 x3 x4 x5 s0 x7)
set_option maxHeartbeats 4000000 in
theorem okc_X12_walk_58 {L : Nat} {k6 : Int32 → Int32 → Int32 → Int32 → Int32 → Int32 → Option (Int32)} {σ : Sg} {R : Int32} (Hk6 : ∀ (x2 : Int32) (x3 : Int32) (x4 : Int32) (x5 : Int32) (x6 : Int32) (x7 : Int32) (pl : mLoc), k6 x2 x3 x4 x5 x6 x7 = some R → mlf [some (.ref 93), none, some (.int x2), some (.int x3), some (.int x4), some (.int x5), some (.int x6), some (.int x7)] pl → mAt 1 198 (some (.int R), (mSh, L, σ)) 6 pl [] (mSh, L, σ) 0 0) {x2 : Int32} {x3 : Int32} {x4 : Int32} {x5 : Int32} {x7 : Int32} {s0 : Int32} {pl : mLoc} (h : c_X12_walk_58 k6 σ x2 x3 x4 x5 x7 s0 = some R) (hl : mlf [some (.ref 93), none, some (.int x2), some (.int x3), some (.int x4), some (.int x5), none, some (.int x7)] pl) : mAt 1 198 (some (.int R), (mSh, L, σ)) 58 pl [.int s0] (mSh, L, σ) 0 0 := by
  refine mAt.less hl ?_
  unfold c_X12_walk_58 at h
  refine mAt.blk bk_X12_walk_58 ck_X12_walk_58 ?_
  refine q_istore rfl rfl ?_
  refine q_goto ?_
  exact Hk6 _ _ _ _ _ _ _  h ⟨rfl, rfl, rfl, rfl, rfl, rfl, rfl, trivial⟩
def c_X12_walk_63 (σ : Sg) (x2 : Int32) (x6 : Int32) (x7 : Int32) : Option (Int32) := (if x7 = x2 then (some x6) else (some (-1 : Int32)))
set_option maxHeartbeats 4000000 in
theorem okc_X12_walk_63 {L : Nat} {σ : Sg} {R : Int32} {x2 : Int32} {x6 : Int32} {x7 : Int32} {pl : mLoc} (h : c_X12_walk_63 σ x2 x6 x7 = some R) (hl : mlf [none, none, some (.int x2), none, none, none, some (.int x6), some (.int x7)] pl) : mAt 1 198 (some (.int R), (mSh, L, σ)) 63 pl [] (mSh, L, σ) 0 0 := by
  refine mAt.less hl ?_
  unfold c_X12_walk_63 at h
  refine mAt.blk bk_X12_walk_63 ck_X12_walk_63 ?_
  refine q_iload rfl ?_
  refine q_iload_n rfl ?_
  refine q_ic_ne (fun c7 => ?_) (fun c7 => ?_)
  · rw [if_pos c7] at h
    refine q_iload rfl ?_
    refine q_goto ?_
    refine mAt.blk bk_X12_walk_75 ck_X12_walk_75 ?_
    have h := Option.some.inj h
    subst h
    exact q_iretI mcap_0 rfl rfl
  · rw [if_neg c7] at h
    refine mAt.blk bk_X12_walk_74 ck_X12_walk_74 ?_
    refine q_iconst ?_
    refine mAt.blk bk_X12_walk_75 ck_X12_walk_75 ?_
    have h := Option.some.inj h
    subst h
    exact q_iretI mcap_0 rfl rfl
def c_X12_walk_37 (k6 : Int32 → Int32 → Int32 → Int32 → Int32 → Int32 → Option (Int32)) (σ : Sg) (x2 : Int32) (x3 : Int32) (x4 : Int32) (x5 : Int32) (x6 : Int32) (s0 : Int32) (s1 : Int32) : Option (Int32) := (if x6 = x3 then (c_X12_walk_58 k6 σ x2 x3 x4 x5 (s0 + s1) x4) else ((f_X12_itsWell x6 (0 : Int32) σ).bind fun q6 => (c_X12_walk_58 k6 σ x2 x3 x4 x5 (s0 + s1) q6)))
set_option maxHeartbeats 4000000 in
theorem okc_X12_walk_37 {L : Nat} {k6 : Int32 → Int32 → Int32 → Int32 → Int32 → Int32 → Option (Int32)} {σ : Sg} {R : Int32} (Hk6 : ∀ (x2 : Int32) (x3 : Int32) (x4 : Int32) (x5 : Int32) (x6 : Int32) (x7 : Int32) (pl : mLoc), k6 x2 x3 x4 x5 x6 x7 = some R → mlf [some (.ref 93), none, some (.int x2), some (.int x3), some (.int x4), some (.int x5), some (.int x6), some (.int x7)] pl → mAt 1 198 (some (.int R), (mSh, L, σ)) 6 pl [] (mSh, L, σ) 0 0) {x2 : Int32} {x3 : Int32} {x4 : Int32} {x5 : Int32} {x6 : Int32} {s0 : Int32} {s1 : Int32} {pl : mLoc} (h : c_X12_walk_37 k6 σ x2 x3 x4 x5 x6 s0 s1 = some R) (hl : mlf [some (.ref 93), none, some (.int x2), some (.int x3), some (.int x4), some (.int x5), some (.int x6), none] pl) : mAt 1 198 (some (.int R), (mSh, L, σ)) 37 pl [.int s1, .int s0] (mSh, L, σ) 0 0 := by
  refine mAt.less hl ?_
  unfold c_X12_walk_37 at h
  refine mAt.blk bk_X12_walk_37 ck_X12_walk_37 ?_
  refine q_iadd ?_
  refine q_istore rfl rfl ?_
  refine q_iload rfl ?_
  refine q_iload_n rfl ?_
  refine q_ic_ne (fun c5 => ?_) (fun c5 => ?_)
  · rw [if_pos c5] at h
    refine q_iload rfl ?_
    refine q_goto ?_
    exact okc_X12_walk_58 Hk6 h ⟨rfl, rfl, rfl, rfl, rfl, rfl, trivial⟩
  · rw [if_neg c5] at h
    refine mAt.blk bk_X12_walk_51 ck_X12_walk_51 ?_
    refine q_aload_n rfl ?_
    refine q_iload rfl ?_
    refine q_iconst ?_
    obtain ⟨q6, e6, h⟩ := mbind h
    refine q_vI2 mcap_0 rfl rfl ob_93 rfl (by decide) (ok_X12_itsWell  e6) ?_
    exact okc_X12_walk_58 Hk6 h ⟨rfl, rfl, rfl, rfl, rfl, rfl, trivial⟩
def c_X12_walk_6 (σ : Sg) : Nat → Int32 → Int32 → Int32 → Int32 → Int32 → Int32 → Option (Int32)
  | 0, _, _, _, _, _, _ => none
  | n + 1, x2, x3, x4, x5, x6, x7 => (if x6 < 0 then (c_X12_walk_63  σ x2 x6 x7) else (if x2 ≤ x7 then (c_X12_walk_63  σ x2 x6 x7) else (if x6 = x3 then (c_X12_walk_37 (c_X12_walk_6 σ n) σ x2 x3 x4 x5 x6 x7 x5) else ((f_X12_itsWell x6 (1 : Int32) σ).bind fun q4 => (c_X12_walk_37 (c_X12_walk_6 σ n) σ x2 x3 x4 x5 x6 x7 q4)))))
set_option maxHeartbeats 4000000 in
theorem okc_X12_walk_6 {L : Nat} {σ : Sg} {R : Int32} {n : Nat} {x2 : Int32} {x3 : Int32} {x4 : Int32} {x5 : Int32} {x6 : Int32} {x7 : Int32} {pl : mLoc} (h : c_X12_walk_6 σ n x2 x3 x4 x5 x6 x7 = some R) (hl : mlf [some (.ref 93), none, some (.int x2), some (.int x3), some (.int x4), some (.int x5), some (.int x6), some (.int x7)] pl) : mAt 1 198 (some (.int R), (mSh, L, σ)) 6 pl [] (mSh, L, σ) 0 0 := by
  induction n generalizing x2 x3 x4 x5 x6 x7 pl with
  | zero =>
    rw [c_X12_walk_6.eq_1] at h
    cases h
  | succ n ih =>
    refine mAt.less hl ?_
    rw [c_X12_walk_6.eq_2] at h
    refine mAt.blk bk_X12_walk_6 ck_X12_walk_6 ?_
    refine q_iload rfl ?_
    refine q_if_lt (fun c1 => ?_) (fun c1 => ?_)
    · rw [if_pos c1] at h
      exact okc_X12_walk_63  h ⟨rfl, rfl, rfl, trivial⟩
    · rw [if_neg c1] at h
      refine q_iload rfl ?_
      refine q_iload_n rfl ?_
      refine q_ic_ge (fun c2 => ?_) (fun c2 => ?_)
      · rw [if_pos c2] at h
        exact okc_X12_walk_63  h ⟨rfl, rfl, rfl, trivial⟩
      · rw [if_neg c2] at h
        refine q_iload rfl ?_
        refine q_iload rfl ?_
        refine q_iload_n rfl ?_
        refine q_ic_ne (fun c3 => ?_) (fun c3 => ?_)
        · rw [if_pos c3] at h
          refine q_iload rfl ?_
          refine q_goto ?_
          exact okc_X12_walk_37 (fun _ _ _ _ _ _ _ e hl => ih  e hl) h ⟨rfl, rfl, rfl, rfl, rfl, rfl, trivial⟩
        · rw [if_neg c3] at h
          refine mAt.blk bk_X12_walk_30 ck_X12_walk_30 ?_
          refine q_aload_n rfl ?_
          refine q_iload rfl ?_
          refine q_iconst ?_
          obtain ⟨q4, e4, h⟩ := mbind h
          refine q_vI2 mcap_0 rfl rfl ob_93 rfl (by decide) (ok_X12_itsWell  e4) ?_
          exact okc_X12_walk_37 (fun _ _ _ _ _ _ _ e hl => ih  e hl) h ⟨rfl, rfl, rfl, rfl, rfl, rfl, trivial⟩
def f_X12_walk (p0 : Int32) (p1 : Int32) (p2 : Int32) (p3 : Int32) (p4 : Int32) (σ : Sg) : Option (Int32) := (c_X12_walk_6  σ 1000 p1 p2 p3 p4 p0 (0 : Int32))
set_option maxHeartbeats 4000000 in
theorem ok_X12_walk {L : Nat} {p0 : Int32} {p1 : Int32} {p2 : Int32} {p3 : Int32} {p4 : Int32} {σ : Sg} {R : Int32} (h : f_X12_walk p0 p1 p2 p3 p4 σ = some R) : mEv 1 198 [.ref 93, .int p0, .int p1, .int p2, .int p3, .int p4] (mSh, L, σ) (some (.int R)) (mSh, L, σ) := by
  refine mEv.of (by decide) rfl rfl ?_
  unfold f_X12_walk at h
  refine mAt.blk bk_X12_walk_0 ck_X12_walk_0 ?_
  refine q_iload_n rfl ?_
  refine q_istore rfl rfl ?_
  refine q_iconst ?_
  refine q_istore rfl rfl ?_
  exact okc_X12_walk_6  h ⟨rfl, rfl, rfl, rfl, rfl, rfl, rfl, trivial⟩
def bk_X12_meet_0 : List mI := [(.aload_n 0, 1, 0, 0, 0, []), (.iload_n 1, 1, 0, 0, 0, []), (.invokevirtual 131, 3, 138, 0, 1085, []), (.ifCond .eq 11, 3, 16, 0, 0, []), (.aload_n 0, 1, 0, 0, 0, []), (.iload_n 2, 1, 0, 0, 0, []), (.invokevirtual 131, 3, 138, 0, 1085, []), (.ifCond .ne 9, 3, 22, 0, 0, [])]
theorem ck_X12_meet_0 : mChk 199 0 bk_X12_meet_0 = true := by decide +kernel
def bk_X12_meet_16 : List mI := [(.aload_n 0, 1, 0, 0, 0, []), (.iconst 1, 1, 0, 0, 0, [(1, 0)]), (.invokevirtual 111, 3, 134, 0, 1010, []), (.ireturn, 1, 0, 0, 0, [])]
theorem ck_X12_meet_16 : mChk 199 16 bk_X12_meet_16 = true := by decide +kernel
def bk_X12_meet_22 : List mI := [(.iconst 0, 1, 0, 0, 0, [(0, 0)]), (.istore_n 3, 1, 0, 0, 0, [])]
theorem ck_X12_meet_22 : mChk 199 22 bk_X12_meet_22 = true := by decide +kernel
def bk_X12_meet_24 : List mI := [(.iload_n 3, 1, 0, 0, 0, []), (.sipush 200, 3, 0, 0, 0, [(200, 0)]), (.if_icmp .gt 43, 3, 71, 0, 0, []), (.aload_n 0, 1, 0, 0, 0, []), (.iload_n 1, 1, 0, 0, 0, []), (.iload_n 3, 1, 0, 0, 0, []), (.bipush (-2), 2, 0, 0, 0, [((-2), 0)]), (.iconst (-1), 1, 0, 0, 0, [((-1), 0)]), (.iconst 1, 1, 0, 0, 0, [(1, 0)]), (.invokevirtual 243, 3, 198, 0, 1269, []), (.istore 4, 2, 0, 0, 0, []), (.iload 4, 2, 0, 0, 0, []), (.ifCond .lt 20, 3, 65, 0, 0, []), (.iload 4, 2, 0, 0, 0, []), (.aload_n 0, 1, 0, 0, 0, []), (.iload_n 2, 1, 0, 0, 0, []), (.iload_n 3, 1, 0, 0, 0, []), (.bipush (-2), 2, 0, 0, 0, [((-2), 0)]), (.iconst (-1), 1, 0, 0, 0, [((-1), 0)]), (.iconst 1, 1, 0, 0, 0, [(1, 0)]), (.invokevirtual 243, 3, 198, 0, 1269, []), (.if_icmp .ne 5, 3, 65, 0, 0, []), (.iload_n 3, 1, 0, 0, 0, []), (.ireturn, 1, 0, 0, 0, [])]
theorem ck_X12_meet_24 : mChk 199 24 bk_X12_meet_24 = true := by decide +kernel
def bk_X12_meet_65 : List mI := [(.iinc 3 1, 3, 0, 0, 0, [(1, 0)]), (.goto (-44), 3, 24, 0, 0, [])]
theorem ck_X12_meet_65 : mChk 199 65 bk_X12_meet_65 = true := by decide +kernel
def bk_X12_meet_71 : List mI := [(.aload_n 0, 1, 0, 0, 0, []), (.iconst 2, 1, 0, 0, 0, [(2, 0)]), (.invokevirtual 111, 3, 134, 0, 1010, []), (.ireturn, 1, 0, 0, 0, [])]
theorem ck_X12_meet_71 : mChk 199 71 bk_X12_meet_71 = true := by decide +kernel
def c_X12_meet_65 (k24 : Int32 → Int32 → Int32 → Sg → Option (Int32 × Sg)) (x1 : Int32) (x2 : Int32) (x3 : Int32) (σ : Sg) : Option (Int32 × Sg) := (k24 x1 x2 (x3 + (1 : Int32)) σ)
set_option maxHeartbeats 4000000 in
theorem okc_X12_meet_65 {L : Nat} {k24 : Int32 → Int32 → Int32 → Sg → Option (Int32 × Sg)} {R : Int32 × Sg} (Hk24 : ∀ (x1 : Int32) (x2 : Int32) (x3 : Int32) (σ : Sg) (pl : mLoc), k24 x1 x2 x3 σ = some R → mlf [some (.ref 93), some (.int x1), some (.int x2), some (.int x3), none] pl → mAt 2 199 (some (.int R.1), (mSh, L, R.2)) 24 pl [] (mSh, L, σ) 0 0) {x1 : Int32} {x2 : Int32} {x3 : Int32} {σ : Sg} {pl : mLoc} (h : c_X12_meet_65 k24 x1 x2 x3 σ = some R) (hl : mlf [some (.ref 93), some (.int x1), some (.int x2), some (.int x3), none] pl) : mAt 2 199 (some (.int R.1), (mSh, L, R.2)) 65 pl [] (mSh, L, σ) 0 0 := by
  refine mAt.less hl ?_
  unfold c_X12_meet_65 at h
  refine mAt.blk bk_X12_meet_65 ck_X12_meet_65 ?_
  refine q_iinc rfl rfl ?_
  refine q_goto ?_
  exact Hk24 _ _ _ _ _  h ⟨rfl, rfl, rfl, rfl, trivial⟩
def c_X12_meet_24 : Nat → Int32 → Int32 → Int32 → Sg → Option (Int32 × Sg)
  | 0, _, _, _, _ => none
  | n + 1, x1, x2, x3, σ => (if (200 : Int32) < x3 then ((f_X12_finds (2 : Int32) σ).bind fun q2 => (some (q2.1, q2.2))) else ((f_X12_walk x1 x3 (-2 : Int32) (-1 : Int32) (1 : Int32) σ).bind fun q3 => (if q3 < 0 then (c_X12_meet_65 (c_X12_meet_24  n)  x1 x2 x3 σ) else ((f_X12_walk x2 x3 (-2 : Int32) (-1 : Int32) (1 : Int32) σ).bind fun q5 => (if q3 = q5 then (some (x3, σ)) else (c_X12_meet_65 (c_X12_meet_24  n)  x1 x2 x3 σ))))))
set_option maxHeartbeats 4000000 in
theorem okc_X12_meet_24 {L : Nat} {R : Int32 × Sg} {n : Nat} {x1 : Int32} {x2 : Int32} {x3 : Int32} {σ : Sg} {pl : mLoc} (h : c_X12_meet_24 n x1 x2 x3 σ = some R) (hl : mlf [some (.ref 93), some (.int x1), some (.int x2), some (.int x3), none] pl) : mAt 2 199 (some (.int R.1), (mSh, L, R.2)) 24 pl [] (mSh, L, σ) 0 0 := by
  induction n generalizing x1 x2 x3 σ pl with
  | zero =>
    rw [c_X12_meet_24.eq_1] at h
    cases h
  | succ n ih =>
    refine mAt.less hl ?_
    rw [c_X12_meet_24.eq_2] at h
    refine mAt.blk bk_X12_meet_24 ck_X12_meet_24 ?_
    refine q_iload_n rfl ?_
    refine q_sipush ?_
    refine q_ic_gt (fun c1 => ?_) (fun c1 => ?_)
    · rw [if_pos c1] at h
      refine mAt.blk bk_X12_meet_71 ck_X12_meet_71 ?_
      refine q_aload_n rfl ?_
      refine q_iconst ?_
      obtain ⟨q2, e2, h⟩ := mbind h
      refine q_vI1 mcap_0 rfl rfl ob_93 rfl (by decide) (ok_X12_finds  e2) ?_
      have h := Option.some.inj h
      subst h
      exact q_iretI mcap_0 rfl rfl
    · rw [if_neg c1] at h
      refine q_aload_n rfl ?_
      refine q_iload_n rfl ?_
      refine q_iload_n rfl ?_
      refine q_bipush ?_
      refine q_iconst ?_
      refine q_iconst ?_
      obtain ⟨q3, e3, h⟩ := mbind h
      refine q_vI5 mcap_0 rfl rfl ob_93 rfl (by decide) (ok_X12_walk  e3) ?_
      refine q_istore rfl rfl ?_
      refine q_iload rfl ?_
      refine q_if_lt (fun c4 => ?_) (fun c4 => ?_)
      · rw [if_pos c4] at h
        exact okc_X12_meet_65 (fun _ _ _ _ _ e hl => ih  e hl) h ⟨rfl, rfl, rfl, rfl, trivial⟩
      · rw [if_neg c4] at h
        refine q_iload rfl ?_
        refine q_aload_n rfl ?_
        refine q_iload_n rfl ?_
        refine q_iload_n rfl ?_
        refine q_bipush ?_
        refine q_iconst ?_
        refine q_iconst ?_
        obtain ⟨q5, e5, h⟩ := mbind h
        refine q_vI5 mcap_0 rfl rfl ob_93 rfl (by decide) (ok_X12_walk  e5) ?_
        refine q_ic_ne (fun c6 => ?_) (fun c6 => ?_)
        · rw [if_pos c6] at h
          refine q_iload_n rfl ?_
          have h := Option.some.inj h
          subst h
          exact q_iretI mcap_0 rfl rfl
        · rw [if_neg c6] at h
          exact okc_X12_meet_65 (fun _ _ _ _ _ e hl => ih  e hl) h ⟨rfl, rfl, rfl, rfl, trivial⟩
def f_X12_meet (p0 : Int32) (p1 : Int32) (σ : Sg) : Option (Int32 × Sg) := ((f_X12_isWell p0 σ).bind fun q7 => (if q7 = 0 then ((f_X12_finds (1 : Int32) σ).bind fun q9 => (some (q9.1, q9.2))) else ((f_X12_isWell p1 σ).bind fun q10 => (if q10 = 0 then ((f_X12_finds (1 : Int32) σ).bind fun q12 => (some (q12.1, q12.2))) else (c_X12_meet_24   1000 p0 p1 (0 : Int32) σ)))))
set_option maxHeartbeats 4000000 in
theorem ok_X12_meet {L : Nat} {p0 : Int32} {p1 : Int32} {σ : Sg} {R : Int32 × Sg} (h : f_X12_meet p0 p1 σ = some R) : mEv 2 199 [.ref 93, .int p0, .int p1] (mSh, L, σ) (some (.int R.1)) (mSh, L, R.2) := by
  refine mEv.of (by decide) rfl rfl ?_
  unfold f_X12_meet at h
  refine mAt.blk bk_X12_meet_0 ck_X12_meet_0 ?_
  refine q_aload_n rfl ?_
  refine q_iload_n rfl ?_
  obtain ⟨q7, e7, h⟩ := mbind h
  refine q_vI1 mcap_0 rfl rfl ob_93 rfl (by decide) (ok_X12_isWell  e7) ?_
  refine q_if_eq (fun c8 => ?_) (fun c8 => ?_)
  · rw [if_pos c8] at h
    refine mAt.blk bk_X12_meet_16 ck_X12_meet_16 ?_
    refine q_aload_n rfl ?_
    refine q_iconst ?_
    obtain ⟨q9, e9, h⟩ := mbind h
    refine q_vI1 mcap_0 rfl rfl ob_93 rfl (by decide) (ok_X12_finds  e9) ?_
    have h := Option.some.inj h
    subst h
    exact q_iretI mcap_0 rfl rfl
  · rw [if_neg c8] at h
    refine q_aload_n rfl ?_
    refine q_iload_n rfl ?_
    obtain ⟨q10, e10, h⟩ := mbind h
    refine q_vI1 mcap_0 rfl rfl ob_93 rfl (by decide) (ok_X12_isWell  e10) ?_
    refine q_if_ne (fun c11 => ?_) (fun c11 => ?_)
    · rw [if_pos c11] at h
      refine mAt.blk bk_X12_meet_16 ck_X12_meet_16 ?_
      refine q_aload_n rfl ?_
      refine q_iconst ?_
      obtain ⟨q12, e12, h⟩ := mbind h
      refine q_vI1 mcap_0 rfl rfl ob_93 rfl (by decide) (ok_X12_finds  e12) ?_
      have h := Option.some.inj h
      subst h
      exact q_iretI mcap_0 rfl rfl
    · rw [if_neg c11] at h
      refine mAt.blk bk_X12_meet_22 ck_X12_meet_22 ?_
      refine q_iconst ?_
      refine q_istore_n rfl rfl ?_
      exact okc_X12_meet_24  h ⟨rfl, rfl, rfl, rfl, trivial⟩
def bk_X12_tenth_0 : List mI := [(.iconst (-1), 1, 0, 0, 0, [((-1), 0)]), (.istore_n 1, 1, 0, 0, 0, []), (.iconst 0, 1, 0, 0, 0, [(0, 0)]), (.istore_n 2, 1, 0, 0, 0, [])]
theorem ck_X12_tenth_0 : mChk 200 0 bk_X12_tenth_0 = true := by decide +kernel
def bk_X12_tenth_4 : List mI := [(.iload_n 2, 1, 0, 0, 0, []), (.aload_n 0, 1, 0, 0, 0, []), (.getfield 7, 3, 12, 0, 937, []), (.iconst 1, 1, 0, 0, 0, [(1, 0)]), (.iaload, 1, 0, 0, 0, []), (.if_icmp .ge 43, 3, 54, 0, 0, []), (.aload_n 0, 1, 0, 0, 0, []), (.iload_n 2, 1, 0, 0, 0, []), (.iconst 0, 1, 0, 0, 0, [(0, 0)]), (.invokevirtual 138, 3, 193, 0, 1095, []), (.ifCond .lt 26, 3, 46, 0, 0, []), (.iload_n 1, 1, 0, 0, 0, []), (.ifCond .lt 18, 3, 42, 0, 0, []), (.aload_n 0, 1, 0, 0, 0, []), (.iload_n 2, 1, 0, 0, 0, []), (.iconst 1, 1, 0, 0, 0, [(1, 0)]), (.invokevirtual 138, 3, 193, 0, 1095, []), (.aload_n 0, 1, 0, 0, 0, []), (.iload_n 1, 1, 0, 0, 0, []), (.iconst 1, 1, 0, 0, 0, [(1, 0)]), (.invokevirtual 138, 3, 193, 0, 1095, []), (.if_icmp .le 7, 3, 46, 0, 0, [])]
theorem ck_X12_tenth_4 : mChk 200 4 bk_X12_tenth_4 = true := by decide +kernel
def bk_X12_tenth_42 : List mI := [(.iload_n 2, 1, 0, 0, 0, []), (.goto 4, 3, 47, 0, 0, [])]
theorem ck_X12_tenth_42 : mChk 200 42 bk_X12_tenth_42 = true := by decide +kernel
def bk_X12_tenth_46 : List mI := [(.iload_n 1, 1, 0, 0, 0, [])]
theorem ck_X12_tenth_46 : mChk 200 46 bk_X12_tenth_46 = true := by decide +kernel
def bk_X12_tenth_47 : List mI := [(.istore_n 1, 1, 0, 0, 0, []), (.iinc 2 1, 3, 0, 0, 0, [(1, 0)]), (.goto (-47), 3, 4, 0, 0, [])]
theorem ck_X12_tenth_47 : mChk 200 47 bk_X12_tenth_47 = true := by decide +kernel
def bk_X12_tenth_54 : List mI := [(.iload_n 1, 1, 0, 0, 0, []), (.ifCond .ge 11, 3, 66, 0, 0, []), (.aload_n 0, 1, 0, 0, 0, []), (.iconst 2, 1, 0, 0, 0, [(2, 0)]), (.invokevirtual 111, 3, 134, 0, 1010, []), (.goto 4, 3, 67, 0, 0, [])]
theorem ck_X12_tenth_54 : mChk 200 54 bk_X12_tenth_54 = true := by decide +kernel
def bk_X12_tenth_66 : List mI := [(.iload_n 1, 1, 0, 0, 0, [])]
theorem ck_X12_tenth_66 : mChk 200 66 bk_X12_tenth_66 = true := by decide +kernel
def bk_X12_tenth_67 : List mI := [(.ireturn, 1, 0, 0, 0, [])]
theorem ck_X12_tenth_67 : mChk 200 67 bk_X12_tenth_67 = true := by decide +kernel
def c_X12_tenth_47 (k4 : Int32 → Int32 → Sg → Option (Int32 × Sg)) (x2 : Int32) (s0 : Int32) (σ : Sg) : Option (Int32 × Sg) := (k4 s0 (x2 + (1 : Int32)) σ)
set_option maxHeartbeats 4000000 in
theorem okc_X12_tenth_47 {L : Nat} {k4 : Int32 → Int32 → Sg → Option (Int32 × Sg)} {R : Int32 × Sg} (Hk4 : ∀ (x1 : Int32) (x2 : Int32) (σ : Sg) (pl : mLoc), k4 x1 x2 σ = some R → mlf [some (.ref 93), some (.int x1), some (.int x2)] pl → mAt 1 200 (some (.int R.1), (mSh, L, R.2)) 4 pl [] (mSh, L, σ) 0 0) {x2 : Int32} {s0 : Int32} {σ : Sg} {pl : mLoc} (h : c_X12_tenth_47 k4 x2 s0 σ = some R) (hl : mlf [some (.ref 93), none, some (.int x2)] pl) : mAt 1 200 (some (.int R.1), (mSh, L, R.2)) 47 pl [.int s0] (mSh, L, σ) 0 0 := by
  refine mAt.less hl ?_
  unfold c_X12_tenth_47 at h
  refine mAt.blk bk_X12_tenth_47 ck_X12_tenth_47 ?_
  refine q_istore_n rfl rfl ?_
  refine q_iinc rfl rfl ?_
  refine q_goto ?_
  exact Hk4 _ _ _ _  h ⟨rfl, rfl, rfl, trivial⟩
def c_X12_tenth_54 (x1 : Int32) (σ : Sg) : Option (Int32 × Sg) := (if 0 ≤ x1 then (some (x1, σ)) else ((f_X12_finds (2 : Int32) σ).bind fun q10 => (some (q10.1, q10.2))))
set_option maxHeartbeats 4000000 in
theorem okc_X12_tenth_54 {L : Nat} {R : Int32 × Sg} {x1 : Int32} {σ : Sg} {pl : mLoc} (h : c_X12_tenth_54 x1 σ = some R) (hl : mlf [some (.ref 93), some (.int x1), none] pl) : mAt 1 200 (some (.int R.1), (mSh, L, R.2)) 54 pl [] (mSh, L, σ) 0 0 := by
  refine mAt.less hl ?_
  unfold c_X12_tenth_54 at h
  refine mAt.blk bk_X12_tenth_54 ck_X12_tenth_54 ?_
  refine q_iload_n rfl ?_
  refine q_if_ge (fun c9 => ?_) (fun c9 => ?_)
  · rw [if_pos c9] at h
    refine mAt.blk bk_X12_tenth_66 ck_X12_tenth_66 ?_
    refine q_iload_n rfl ?_
    refine mAt.blk bk_X12_tenth_67 ck_X12_tenth_67 ?_
    have h := Option.some.inj h
    subst h
    exact q_iretI mcap_0 rfl rfl
  · rw [if_neg c9] at h
    refine q_aload_n rfl ?_
    refine q_iconst ?_
    obtain ⟨q10, e10, h⟩ := mbind h
    refine q_vI1 mcap_0 rfl rfl ob_93 rfl (by decide) (ok_X12_finds  e10) ?_
    refine q_goto ?_
    refine mAt.blk bk_X12_tenth_67 ck_X12_tenth_67 ?_
    have h := Option.some.inj h
    subst h
    exact q_iretI mcap_0 rfl rfl
def c_X12_tenth_42 (k4 : Int32 → Int32 → Sg → Option (Int32 × Sg)) (x2 : Int32) (σ : Sg) : Option (Int32 × Sg) := (c_X12_tenth_47 k4  x2 x2 σ)
set_option maxHeartbeats 4000000 in
theorem okc_X12_tenth_42 {L : Nat} {k4 : Int32 → Int32 → Sg → Option (Int32 × Sg)} {R : Int32 × Sg} (Hk4 : ∀ (x1 : Int32) (x2 : Int32) (σ : Sg) (pl : mLoc), k4 x1 x2 σ = some R → mlf [some (.ref 93), some (.int x1), some (.int x2)] pl → mAt 1 200 (some (.int R.1), (mSh, L, R.2)) 4 pl [] (mSh, L, σ) 0 0) {x2 : Int32} {σ : Sg} {pl : mLoc} (h : c_X12_tenth_42 k4 x2 σ = some R) (hl : mlf [some (.ref 93), none, some (.int x2)] pl) : mAt 1 200 (some (.int R.1), (mSh, L, R.2)) 42 pl [] (mSh, L, σ) 0 0 := by
  refine mAt.less hl ?_
  unfold c_X12_tenth_42 at h
  refine mAt.blk bk_X12_tenth_42 ck_X12_tenth_42 ?_
  refine q_iload_n rfl ?_
  refine q_goto ?_
  exact okc_X12_tenth_47 Hk4 h ⟨rfl, rfl, trivial⟩
def c_X12_tenth_46 (k4 : Int32 → Int32 → Sg → Option (Int32 × Sg)) (x1 : Int32) (x2 : Int32) (σ : Sg) : Option (Int32 × Sg) := (c_X12_tenth_47 k4  x2 x1 σ)
set_option maxHeartbeats 4000000 in
theorem okc_X12_tenth_46 {L : Nat} {k4 : Int32 → Int32 → Sg → Option (Int32 × Sg)} {R : Int32 × Sg} (Hk4 : ∀ (x1 : Int32) (x2 : Int32) (σ : Sg) (pl : mLoc), k4 x1 x2 σ = some R → mlf [some (.ref 93), some (.int x1), some (.int x2)] pl → mAt 1 200 (some (.int R.1), (mSh, L, R.2)) 4 pl [] (mSh, L, σ) 0 0) {x1 : Int32} {x2 : Int32} {σ : Sg} {pl : mLoc} (h : c_X12_tenth_46 k4 x1 x2 σ = some R) (hl : mlf [some (.ref 93), some (.int x1), some (.int x2)] pl) : mAt 1 200 (some (.int R.1), (mSh, L, R.2)) 46 pl [] (mSh, L, σ) 0 0 := by
  refine mAt.less hl ?_
  unfold c_X12_tenth_46 at h
  refine mAt.blk bk_X12_tenth_46 ck_X12_tenth_46 ?_
  refine q_iload_n rfl ?_
  exact okc_X12_tenth_47 Hk4 h ⟨rfl, rfl, trivial⟩
def c_X12_tenth_4 : Nat → Int32 → Int32 → Sg → Option (Int32 × Sg)
  | 0, _, _, _ => none
  | n + 1, x1, x2, σ => (if (σ 94 1) ≤ x2 then (c_X12_tenth_54   x1 σ) else ((f_X12_itsWell x2 (0 : Int32) σ).bind fun q3 => (if q3 < 0 then (c_X12_tenth_46 (c_X12_tenth_4  n)  x1 x2 σ) else (if x1 < 0 then (c_X12_tenth_42 (c_X12_tenth_4  n)  x2 σ) else ((f_X12_itsWell x2 (1 : Int32) σ).bind fun q6 => ((f_X12_itsWell x1 (1 : Int32) σ).bind fun q7 => (if q6 ≤ q7 then (c_X12_tenth_46 (c_X12_tenth_4  n)  x1 x2 σ) else (c_X12_tenth_42 (c_X12_tenth_4  n)  x2 σ))))))))
set_option maxHeartbeats 4000000 in
theorem okc_X12_tenth_4 {L : Nat} {R : Int32 × Sg} {n : Nat} {x1 : Int32} {x2 : Int32} {σ : Sg} {pl : mLoc} (h : c_X12_tenth_4 n x1 x2 σ = some R) (hl : mlf [some (.ref 93), some (.int x1), some (.int x2)] pl) : mAt 1 200 (some (.int R.1), (mSh, L, R.2)) 4 pl [] (mSh, L, σ) 0 0 := by
  induction n generalizing x1 x2 σ pl with
  | zero =>
    rw [c_X12_tenth_4.eq_1] at h
    cases h
  | succ n ih =>
    refine mAt.less hl ?_
    rw [c_X12_tenth_4.eq_2] at h
    refine mAt.blk bk_X12_tenth_4 ck_X12_tenth_4 ?_
    refine q_iload_n rfl ?_
    refine q_aload_n rfl ?_
    refine q_getR ob_93 rfl rfl ?_
    refine q_iconst ?_
    refine q_iald (j := 1) (mrd ar_94 _ _) (by decide) (by decide) ?_
    refine q_ic_ge (fun c2 => ?_) (fun c2 => ?_)
    · rw [if_pos c2] at h
      exact okc_X12_tenth_54  h ⟨rfl, rfl, trivial⟩
    · rw [if_neg c2] at h
      refine q_aload_n rfl ?_
      refine q_iload_n rfl ?_
      refine q_iconst ?_
      obtain ⟨q3, e3, h⟩ := mbind h
      refine q_vI2 mcap_0 rfl rfl ob_93 rfl (by decide) (ok_X12_itsWell  e3) ?_
      refine q_if_lt (fun c4 => ?_) (fun c4 => ?_)
      · rw [if_pos c4] at h
        exact okc_X12_tenth_46 (fun _ _ _ _ e hl => ih  e hl) h ⟨rfl, rfl, rfl, trivial⟩
      · rw [if_neg c4] at h
        refine q_iload_n rfl ?_
        refine q_if_lt (fun c5 => ?_) (fun c5 => ?_)
        · rw [if_pos c5] at h
          exact okc_X12_tenth_42 (fun _ _ _ _ e hl => ih  e hl) h ⟨rfl, rfl, trivial⟩
        · rw [if_neg c5] at h
          refine q_aload_n rfl ?_
          refine q_iload_n rfl ?_
          refine q_iconst ?_
          obtain ⟨q6, e6, h⟩ := mbind h
          refine q_vI2 mcap_0 rfl rfl ob_93 rfl (by decide) (ok_X12_itsWell  e6) ?_
          refine q_aload_n rfl ?_
          refine q_iload_n rfl ?_
          refine q_iconst ?_
          obtain ⟨q7, e7, h⟩ := mbind h
          refine q_vI2 mcap_0 rfl rfl ob_93 rfl (by decide) (ok_X12_itsWell  e7) ?_
          refine q_ic_le (fun c8 => ?_) (fun c8 => ?_)
          · rw [if_pos c8] at h
            exact okc_X12_tenth_46 (fun _ _ _ _ e hl => ih  e hl) h ⟨rfl, rfl, rfl, trivial⟩
          · rw [if_neg c8] at h
            exact okc_X12_tenth_42 (fun _ _ _ _ e hl => ih  e hl) h ⟨rfl, rfl, trivial⟩
def f_X12_tenth (σ : Sg) : Option (Int32 × Sg) := (c_X12_tenth_4   1000 (-1 : Int32) (0 : Int32) σ)
set_option maxHeartbeats 4000000 in
theorem ok_X12_tenth {L : Nat} {σ : Sg} {R : Int32 × Sg} (h : f_X12_tenth σ = some R) : mEv 1 200 [.ref 93] (mSh, L, σ) (some (.int R.1)) (mSh, L, R.2) := by
  refine mEv.of (by decide) rfl rfl ?_
  unfold f_X12_tenth at h
  refine mAt.blk bk_X12_tenth_0 ck_X12_tenth_0 ?_
  refine q_iconst ?_
  refine q_istore_n rfl rfl ?_
  refine q_iconst ?_
  refine q_istore_n rfl rfl ?_
  exact okc_X12_tenth_4  h ⟨rfl, rfl, rfl, trivial⟩
def bk_X12_find_0 : List mI := [(.aload_n 0, 1, 0, 0, 0, []), (.iload_n 1, 1, 0, 0, 0, []), (.invokevirtual 131, 3, 138, 0, 1085, []), (.ifCond .eq 23, 3, 28, 0, 0, []), (.aload_n 0, 1, 0, 0, 0, []), (.iload_n 2, 1, 0, 0, 0, []), (.invokevirtual 131, 3, 138, 0, 1085, []), (.ifCond .eq 15, 3, 28, 0, 0, []), (.iload_n 3, 1, 0, 0, 0, []), (.i2l, 1, 0, 0, 0, []), (.lconst 1, 1, 0, 0, 0, [(1, 0)]), (.ldc2_w 146, 3, 0, 0, 1107, [(99, 0)]), (.invokestatic 48, 3, 135, 0, 1007, []), (.ifCond .ne 9, 3, 34, 0, 0, [])]
theorem ck_X12_find_0 : mChk 201 0 bk_X12_find_0 = true := by decide +kernel
def bk_X12_find_28 : List mI := [(.aload_n 0, 1, 0, 0, 0, []), (.iconst 1, 1, 0, 0, 0, [(1, 0)]), (.invokevirtual 111, 3, 134, 0, 1010, []), (.ireturn, 1, 0, 0, 0, [])]
theorem ck_X12_find_28 : mChk 201 28 bk_X12_find_28 = true := by decide +kernel
def bk_X12_find_34 : List mI := [(.aload_n 0, 1, 0, 0, 0, []), (.getfield 7, 3, 12, 0, 937, []), (.iconst 3, 1, 0, 0, 0, [(3, 0)]), (.iaload, 1, 0, 0, 0, []), (.bipush 12, 2, 0, 0, 0, [(12, 0)]), (.if_icmp .ne 9, 3, 51, 0, 0, []), (.aload_n 0, 1, 0, 0, 0, []), (.iconst 4, 1, 0, 0, 0, [(4, 0)]), (.invokevirtual 111, 3, 134, 0, 1010, []), (.ireturn, 1, 0, 0, 0, [])]
theorem ck_X12_find_34 : mChk 201 34 bk_X12_find_34 = true := by decide +kernel
def bk_X12_find_51 : List mI := [(.bipush 106, 2, 0, 0, 0, [(106, 0)]), (.iconst 3, 1, 0, 0, 0, [(3, 0)]), (.aload_n 0, 1, 0, 0, 0, []), (.getfield 7, 3, 12, 0, 937, []), (.iconst 3, 1, 0, 0, 0, [(3, 0)]), (.iaload, 1, 0, 0, 0, []), (.imul, 1, 0, 0, 0, []), (.iadd, 1, 0, 0, 0, []), (.istore 4, 2, 0, 0, 0, []), (.aload_n 0, 1, 0, 0, 0, []), (.getfield 7, 3, 12, 0, 937, []), (.iload 4, 2, 0, 0, 0, []), (.iload_n 1, 1, 0, 0, 0, []), (.iastore, 1, 0, 0, 0, []), (.aload_n 0, 1, 0, 0, 0, []), (.getfield 7, 3, 12, 0, 937, []), (.iload 4, 2, 0, 0, 0, []), (.iconst 1, 1, 0, 0, 0, [(1, 0)]), (.iadd, 1, 0, 0, 0, []), (.iload_n 2, 1, 0, 0, 0, []), (.iastore, 1, 0, 0, 0, []), (.aload_n 0, 1, 0, 0, 0, []), (.getfield 7, 3, 12, 0, 937, []), (.iload 4, 2, 0, 0, 0, []), (.iconst 2, 1, 0, 0, 0, [(2, 0)]), (.iadd, 1, 0, 0, 0, []), (.iload_n 3, 1, 0, 0, 0, []), (.iastore, 1, 0, 0, 0, []), (.aload_n 0, 1, 0, 0, 0, []), (.getfield 7, 3, 12, 0, 937, []), (.iconst 3, 1, 0, 0, 0, [(3, 0)]), (.dup2, 1, 0, 0, 0, []), (.iaload, 1, 0, 0, 0, []), (.iconst 1, 1, 0, 0, 0, [(1, 0)]), (.iadd, 1, 0, 0, 0, []), (.iastore, 1, 0, 0, 0, []), (.aload_n 0, 1, 0, 0, 0, []), (.getfield 7, 3, 12, 0, 937, []), (.iconst 3, 1, 0, 0, 0, [(3, 0)]), (.iaload, 1, 0, 0, 0, []), (.iconst 1, 1, 0, 0, 0, [(1, 0)]), (.isub, 1, 0, 0, 0, []), (.ireturn, 1, 0, 0, 0, [])]
theorem ck_X12_find_51 : mChk 201 51 bk_X12_find_51 = true := by decide +kernel
def f_X12_find (p0 : Int32) (p1 : Int32) (p2 : Int32) (σ : Sg) : Option (Int32 × Sg) := ((f_X12_isWell p0 σ).bind fun q1 => (if q1 = 0 then ((f_X12_finds (1 : Int32) σ).bind fun q3 => (some (q3.1, q3.2))) else ((f_X12_isWell p1 σ).bind fun q4 => (if q4 = 0 then ((f_X12_finds (1 : Int32) σ).bind fun q6 => (some (q6.1, q6.2))) else ((f_X12_isIn (p2).toInt64 (1 : Int32).toInt64 (99 : Int32).toInt64 σ).bind fun q7 => (if q7 = 0 then ((f_X12_finds (1 : Int32) σ).bind fun q19 => (some (q19.1, q19.2))) else (if (σ 94 3) = (12 : Int32) then ((f_X12_finds (4 : Int32) σ).bind fun q18 => (some (q18.1, q18.2))) else (if ((106 : Int32) + ((3 : Int32) * (σ 94 3))) < 0 ∨ 320 ≤ (((106 : Int32) + ((3 : Int32) * (σ 94 3)))).toNatClampNeg then none else (if (((106 : Int32) + ((3 : Int32) * (σ 94 3))) + (1 : Int32)) < 0 ∨ 320 ≤ ((((106 : Int32) + ((3 : Int32) * (σ 94 3))) + (1 : Int32))).toNatClampNeg then none else (if (((106 : Int32) + ((3 : Int32) * (σ 94 3))) + (2 : Int32)) < 0 ∨ 320 ≤ ((((106 : Int32) + ((3 : Int32) * (σ 94 3))) + (2 : Int32))).toNatClampNeg then none else (some ((((mup (mup (mup (mup σ 94 (((106 : Int32) + ((3 : Int32) * (σ 94 3)))).toNatClampNeg p0) 94 ((((106 : Int32) + ((3 : Int32) * (σ 94 3))) + (1 : Int32))).toNatClampNeg p1) 94 ((((106 : Int32) + ((3 : Int32) * (σ 94 3))) + (2 : Int32))).toNatClampNeg p2) 94 3 (((mup (mup (mup σ 94 (((106 : Int32) + ((3 : Int32) * (σ 94 3)))).toNatClampNeg p0) 94 ((((106 : Int32) + ((3 : Int32) * (σ 94 3))) + (1 : Int32))).toNatClampNeg p1) 94 ((((106 : Int32) + ((3 : Int32) * (σ 94 3))) + (2 : Int32))).toNatClampNeg p2) 94 3) + (1 : Int32))) 94 3) - (1 : Int32)), (mup (mup (mup (mup σ 94 (((106 : Int32) + ((3 : Int32) * (σ 94 3)))).toNatClampNeg p0) 94 ((((106 : Int32) + ((3 : Int32) * (σ 94 3))) + (1 : Int32))).toNatClampNeg p1) 94 ((((106 : Int32) + ((3 : Int32) * (σ 94 3))) + (2 : Int32))).toNatClampNeg p2) 94 3 (((mup (mup (mup σ 94 (((106 : Int32) + ((3 : Int32) * (σ 94 3)))).toNatClampNeg p0) 94 ((((106 : Int32) + ((3 : Int32) * (σ 94 3))) + (1 : Int32))).toNatClampNeg p1) 94 ((((106 : Int32) + ((3 : Int32) * (σ 94 3))) + (2 : Int32))).toNatClampNeg p2) 94 3) + (1 : Int32)))))))))))))))
set_option maxHeartbeats 4000000 in
theorem ok_X12_find {L : Nat} {p0 : Int32} {p1 : Int32} {p2 : Int32} {σ : Sg} {R : Int32 × Sg} (h : f_X12_find p0 p1 p2 σ = some R) : mEv 2 201 [.ref 93, .int p0, .int p1, .int p2] (mSh, L, σ) (some (.int R.1)) (mSh, L, R.2) := by
  refine mEv.of (by decide) rfl rfl ?_
  unfold f_X12_find at h
  refine mAt.blk bk_X12_find_0 ck_X12_find_0 ?_
  refine q_aload_n rfl ?_
  refine q_iload_n rfl ?_
  obtain ⟨q1, e1, h⟩ := mbind h
  refine q_vI1 mcap_0 rfl rfl ob_93 rfl (by decide) (ok_X12_isWell  e1) ?_
  refine q_if_eq (fun c2 => ?_) (fun c2 => ?_)
  · rw [if_pos c2] at h
    refine mAt.blk bk_X12_find_28 ck_X12_find_28 ?_
    refine q_aload_n rfl ?_
    refine q_iconst ?_
    obtain ⟨q3, e3, h⟩ := mbind h
    refine q_vI1 mcap_0 rfl rfl ob_93 rfl (by decide) (ok_X12_finds  e3) ?_
    have h := Option.some.inj h
    subst h
    exact q_iretI mcap_0 rfl rfl
  · rw [if_neg c2] at h
    refine q_aload_n rfl ?_
    refine q_iload_n rfl ?_
    obtain ⟨q4, e4, h⟩ := mbind h
    refine q_vI1 mcap_0 rfl rfl ob_93 rfl (by decide) (ok_X12_isWell  e4) ?_
    refine q_if_eq (fun c5 => ?_) (fun c5 => ?_)
    · rw [if_pos c5] at h
      refine mAt.blk bk_X12_find_28 ck_X12_find_28 ?_
      refine q_aload_n rfl ?_
      refine q_iconst ?_
      obtain ⟨q6, e6, h⟩ := mbind h
      refine q_vI1 mcap_0 rfl rfl ob_93 rfl (by decide) (ok_X12_finds  e6) ?_
      have h := Option.some.inj h
      subst h
      exact q_iretI mcap_0 rfl rfl
    · rw [if_neg c5] at h
      refine q_iload_n rfl ?_
      refine q_i2l ?_
      refine q_lconst ?_
      refine q_ldc2_w ?_
      obtain ⟨q7, e7, h⟩ := mbind h
      refine q_sI3 mcap_0 rfl rfl rfl rfl (by decide) (ok_X12_isIn  e7) ?_
      refine q_if_ne (fun c8 => ?_) (fun c8 => ?_)
      · rw [if_pos c8] at h
        refine mAt.blk bk_X12_find_28 ck_X12_find_28 ?_
        refine q_aload_n rfl ?_
        refine q_iconst ?_
        obtain ⟨q19, e19, h⟩ := mbind h
        refine q_vI1 mcap_0 rfl rfl ob_93 rfl (by decide) (ok_X12_finds  e19) ?_
        have h := Option.some.inj h
        subst h
        exact q_iretI mcap_0 rfl rfl
      · rw [if_neg c8] at h
        refine mAt.blk bk_X12_find_34 ck_X12_find_34 ?_
        refine q_aload_n rfl ?_
        refine q_getR ob_93 rfl rfl ?_
        refine q_iconst ?_
        refine q_iald (j := 3) (mrd ar_94 _ _) (by decide) (by decide) ?_
        refine q_bipush ?_
        refine q_ic_ne (fun c10 => ?_) (fun c10 => ?_)
        · rw [if_pos c10] at h
          refine q_aload_n rfl ?_
          refine q_iconst ?_
          obtain ⟨q18, e18, h⟩ := mbind h
          refine q_vI1 mcap_0 rfl rfl ob_93 rfl (by decide) (ok_X12_finds  e18) ?_
          have h := Option.some.inj h
          subst h
          exact q_iretI mcap_0 rfl rfl
        · rw [if_neg c10] at h
          refine mAt.blk bk_X12_find_51 ck_X12_find_51 ?_
          refine q_bipush ?_
          refine q_iconst ?_
          refine q_aload_n rfl ?_
          refine q_getR ob_93 rfl rfl ?_
          refine q_iconst ?_
          refine q_iald (j := 3) (mrd ar_94 _ _) (by decide) (by decide) ?_
          refine q_imul ?_
          refine q_iadd ?_
          refine q_istore rfl rfl ?_
          refine q_aload_n rfl ?_
          refine q_getR ob_93 rfl rfl ?_
          refine q_iload rfl ?_
          refine q_iload_n rfl ?_
          obtain ⟨c12, h⟩ := mnone h
          refine q_iast rfl ar_94 c12 ?_
          refine q_aload_n rfl ?_
          refine q_getR ob_93 rfl rfl ?_
          refine q_iload rfl ?_
          refine q_iconst ?_
          refine q_iadd ?_
          refine q_iload_n rfl ?_
          obtain ⟨c13, h⟩ := mnone h
          refine q_iast rfl ar_94 c13 ?_
          refine q_aload_n rfl ?_
          refine q_getR ob_93 rfl rfl ?_
          refine q_iload rfl ?_
          refine q_iconst ?_
          refine q_iadd ?_
          refine q_iload_n rfl ?_
          obtain ⟨c14, h⟩ := mnone h
          refine q_iast rfl ar_94 c14 ?_
          refine q_aload_n rfl ?_
          refine q_getR ob_93 rfl rfl ?_
          refine q_iconst ?_
          refine q_dup2 ?_
          refine q_iald (j := 3) (mrd ar_94 _ _) (by decide) (by decide) ?_
          refine q_iconst ?_
          refine q_iadd ?_
          refine q_iast (j := 3) (by decide) ar_94 (by decide) ?_
          refine q_aload_n rfl ?_
          refine q_getR ob_93 rfl rfl ?_
          refine q_iconst ?_
          refine q_iald (j := 3) (mrd ar_94 _ _) (by decide) (by decide) ?_
          refine q_iconst ?_
          refine q_isub ?_
          have h := Option.some.inj h
          subst h
          exact q_iretI mcap_0 rfl rfl
