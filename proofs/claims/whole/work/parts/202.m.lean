def bk_X3_faultFor_0 : List mI := [(.aload_n 0, 1, 0, 0, 0, []), (.iload_n 1, 1, 0, 0, 0, []), (.putfield 22, 3, 3, 2, 279, []), (.aload_n 0, 1, 0, 0, 0, []), (.iconst 0, 1, 0, 0, 0, [(0, 0)]), (.putfield 26, 3, 3, 3, 280, []), (.aload_n 0, 1, 0, 0, 0, []), (.getfield 12, 3, 3, 0, 276, []), (.iconst 0, 1, 0, 0, 0, [(0, 0)]), (.putfield 29, 3, 6, 2, 120, []), (.aload_n 0, 1, 0, 0, 0, []), (.iconst 0, 1, 0, 0, 0, [(0, 0)]), (.iconst 0, 1, 0, 0, 0, [(0, 0)]), (.invokevirtual 32, 3, 15, 0, 595, []), (.ifCond .eq 21, 3, 45, 0, 0, []), (.aload_n 0, 1, 0, 0, 0, []), (.getfield 26, 3, 3, 3, 280, []), (.aload_n 0, 1, 0, 0, 0, []), (.getfield 18, 3, 3, 1, 278, []), (.getfield 36, 3, 4, 1, 142, []), (.if_icmp .ne 7, 3, 45, 0, 0, []), (.iconst (-1), 1, 0, 0, 0, [((-1), 0)]), (.goto 7, 3, 49, 0, 0, [])]
theorem ck_X3_faultFor_0 : mChk 14 0 bk_X3_faultFor_0 = true := by decide +kernel
def bk_X3_faultFor_45 : List mI := [(.aload_n 0, 1, 0, 0, 0, []), (.getfield 26, 3, 3, 3, 280, [])]
theorem ck_X3_faultFor_45 : mChk 14 45 bk_X3_faultFor_45 = true := by decide +kernel
def bk_X3_faultFor_49 : List mI := [(.ireturn, 1, 0, 0, 0, [])]
theorem ck_X3_faultFor_49 : mChk 14 49 bk_X3_faultFor_49 = true := by decide +kernel
def f_X3_faultFor (p0 : Int32) (σ : Sg) : Option (Int32 × Sg) := ((f_X3_reads 64 (0 : Int32) (0 : Int32) (mup (mup (mup σ 70 2 p0) 70 3 (0 : Int32)) 71 2 (0 : Int32))).bind fun q1 => (if q1.1 = 0 then (some ((q1.2 70 3), q1.2)) else (if (q1.2 70 3) = (q1.2 12 1) then (some ((-1 : Int32), q1.2)) else (some ((q1.2 70 3), q1.2)))))
set_option maxHeartbeats 4000000 in
theorem ok_X3_faultFor {L : Nat} {p0 : Int32} {σ : Sg} {R : Int32 × Sg} (h : f_X3_faultFor p0 σ = some R) : mEv 68 14 [.ref 70, .int p0] (mSh, L, σ) (some (.int R.1)) (mSh, L, R.2) := by
  refine mEv.of (by decide) rfl rfl ?_
  unfold f_X3_faultFor at h
  refine mAt.blk bk_X3_faultFor_0 ck_X3_faultFor_0 ?_
  refine q_aload_n rfl ?_
  refine q_iload_n rfl ?_
  refine q_putI ob_70 rfl ?_
  refine q_aload_n rfl ?_
  refine q_iconst ?_
  refine q_putI ob_70 rfl ?_
  refine q_aload_n rfl ?_
  refine q_getR ob_70 rfl rfl ?_
  refine q_iconst ?_
  refine q_putI ob_71 rfl ?_
  refine q_aload_n rfl ?_
  refine q_iconst ?_
  refine q_iconst ?_
  obtain ⟨q1, e1, h⟩ := mbind h
  refine q_vI2 mcap_0 rfl rfl ob_70 rfl (by decide) (ok_X3_reads  e1) ?_
  refine q_if_eq (fun c2 => ?_) (fun c2 => ?_)
  · rw [if_pos c2] at h
    refine mAt.blk bk_X3_faultFor_45 ck_X3_faultFor_45 ?_
    refine q_aload_n rfl ?_
    refine q_getI ob_70 rfl ?_
    refine mAt.blk bk_X3_faultFor_49 ck_X3_faultFor_49 ?_
    have h := Option.some.inj h
    subst h
    exact q_iretI mcap_0 rfl rfl
  · rw [if_neg c2] at h
    refine q_aload_n rfl ?_
    refine q_getI ob_70 rfl ?_
    refine q_aload_n rfl ?_
    refine q_getR ob_70 rfl rfl ?_
    refine q_getI ob_12 rfl ?_
    refine q_ic_ne (fun c3 => ?_) (fun c3 => ?_)
    · rw [if_pos c3] at h
      refine q_iconst ?_
      refine q_goto ?_
      refine mAt.blk bk_X3_faultFor_49 ck_X3_faultFor_49 ?_
      have h := Option.some.inj h
      subst h
      exact q_iretI mcap_0 rfl rfl
    · rw [if_neg c3] at h
      refine mAt.blk bk_X3_faultFor_45 ck_X3_faultFor_45 ?_
      refine q_aload_n rfl ?_
      refine q_getI ob_70 rfl ?_
      refine mAt.blk bk_X3_faultFor_49 ck_X3_faultFor_49 ?_
      have h := Option.some.inj h
      subst h
      exact q_iretI mcap_0 rfl rfl
def bk_X4_append_0 : List mI := [(.aload_n 0, 1, 0, 0, 0, []), (.getfield 13, 3, 4, 0, 138, []), (.aload_n 0, 1, 0, 0, 0, []), (.getfield 25, 3, 4, 1, 141, []), (.iload_n 1, 1, 0, 0, 0, []), (.invokestatic 29, 3, 131, 0, 583, []), (.aload_n 0, 1, 0, 0, 0, []), (.dup, 1, 0, 0, 0, []), (.getfield 25, 3, 4, 1, 141, []), (.iconst 1, 1, 0, 0, 0, [(1, 0)]), (.iadd, 1, 0, 0, 0, []), (.putfield 25, 3, 4, 1, 141, []), (.return_, 1, 0, 0, 0, [])]
theorem ck_X4_append_0 : mChk 26 0 bk_X4_append_0 = true := by decide +kernel
def f_X4_append (a a_n : Nat) (p0 : Int32) (σ : Sg) : Option (Sg) := ((f_X11_lay (a + 1) a_n (σ a 1) p0 σ).bind fun q1 => (some (mup q1 a 1 ((q1 a 1) + (1 : Int32)))))
set_option maxHeartbeats 4000000 in
theorem ok_X4_append {L : Nat} {a a_n : Nat} {p0 : Int32} {σ : Sg} {R : Sg} (ha : P4 a a_n) (h : f_X4_append a a_n p0 σ = some R) : mEv 1 26 [.ref a, .int p0] (mSh, L, σ) none (mSh, L, R) := by
  refine mEv.of (by decide) rfl rfl ?_
  unfold f_X4_append at h
  refine mAt.blk bk_X4_append_0 ck_X4_append_0 ?_
  refine q_aload_n rfl ?_
  refine q_getR (ha).1 rfl rfl ?_
  refine q_aload_n rfl ?_
  refine q_getI (ha).1 rfl ?_
  refine q_iload_n rfl ?_
  obtain ⟨q1, e1, h⟩ := mbind h
  refine q_sV3 mcap_0 rfl rfl rfl rfl (by decide) (ok_X11_lay (ha).2 e1) ?_
  refine q_aload_n rfl ?_
  refine q_dupR ?_
  refine q_getI (ha).1 rfl ?_
  refine q_iconst ?_
  refine q_iadd ?_
  refine q_putI (ha).1 rfl ?_
  have h := Option.some.inj h
  subst h
  exact q_vret mcap_0 rfl rfl
def bk_X5_clear_0 : List mI := [(.aload_n 0, 1, 0, 0, 0, []), (.iload_n 1, 1, 0, 0, 0, []), (.putfield 15, 3, 5, 1, 350, []), (.aload_n 0, 1, 0, 0, 0, []), (.iload_n 2, 1, 0, 0, 0, []), (.putfield 19, 3, 5, 2, 352, []), (.iconst 0, 1, 0, 0, 0, [(0, 0)]), (.istore_n 3, 1, 0, 0, 0, [])]
theorem ck_X5_clear_0 : mChk 28 0 bk_X5_clear_0 = true := by decide +kernel
def bk_X5_clear_12 : List mI := [(.iload_n 3, 1, 0, 0, 0, []), (.aload_n 0, 1, 0, 0, 0, []), (.getfield 9, 3, 5, 0, 348, []), (.arraylength, 1, 0, 0, 0, []), (.if_icmp .ge 16, 3, 34, 0, 0, []), (.aload_n 0, 1, 0, 0, 0, []), (.getfield 9, 3, 5, 0, 348, []), (.iload_n 3, 1, 0, 0, 0, []), (.iconst 0, 1, 0, 0, 0, [(0, 0)]), (.iastore, 1, 0, 0, 0, []), (.iinc 3 1, 3, 0, 0, 0, [(1, 0)]), (.goto (-19), 3, 12, 0, 0, [])]
theorem ck_X5_clear_12 : mChk 28 12 bk_X5_clear_12 = true := by decide +kernel
def bk_X5_clear_34 : List mI := [(.return_, 1, 0, 0, 0, [])]
theorem ck_X5_clear_34 : mChk 28 34 bk_X5_clear_34 = true := by decide +kernel
def c_X5_clear_12 (a : Nat) : Nat → Int32 → Sg → Option (Sg)
  | 0, _, _ => none
  | n + 1, x3, σ => (if (40 : Int32) ≤ x3 then (some σ) else (if x3 < 0 ∨ 40 ≤ (x3).toNatClampNeg then none else (c_X5_clear_12 a n (x3 + (1 : Int32)) (mup σ (a + 1) (x3).toNatClampNeg (0 : Int32)))))
set_option maxHeartbeats 4000000 in
theorem okc_X5_clear_12 {L : Nat} {a : Nat} {R : Sg} (ha : P5 a) {n : Nat} {x3 : Int32} {σ : Sg} {pl : mLoc} (h : c_X5_clear_12 a n x3 σ = some R) (hl : mlf [some (.ref a), none, none, some (.int x3)] pl) : mAt 0 28 (none, (mSh, L, R)) 12 pl [] (mSh, L, σ) 0 0 := by
  induction n generalizing x3 σ pl with
  | zero =>
    rw [c_X5_clear_12.eq_1] at h
    cases h
  | succ n ih =>
    refine mAt.less hl ?_
    rw [c_X5_clear_12.eq_2] at h
    refine mAt.blk bk_X5_clear_12 ck_X5_clear_12 ?_
    refine q_iload_n rfl ?_
    refine q_aload_n rfl ?_
    refine q_getR (ha).1 rfl rfl ?_
    refine q_alen (v := (40 : Int32)) rfl (ha).2 ?_
    refine q_ic_ge (fun c1 => ?_) (fun c1 => ?_)
    · rw [if_pos c1] at h
      refine mAt.blk bk_X5_clear_34 ck_X5_clear_34 ?_
      have h := Option.some.inj h
      subst h
      exact q_vret mcap_0 rfl rfl
    · rw [if_neg c1] at h
      refine q_aload_n rfl ?_
      refine q_getR (ha).1 rfl rfl ?_
      refine q_iload_n rfl ?_
      refine q_iconst ?_
      obtain ⟨c2, h⟩ := mnone h
      refine q_iast rfl (ha).2 c2 ?_
      refine q_iinc rfl rfl ?_
      refine q_goto ?_
      exact ih  h ⟨rfl, rfl, trivial⟩
def f_X5_clear (a : Nat) (p0 : Int32) (p1 : Int32) (σ : Sg) : Option (Sg) := (c_X5_clear_12  a 1000 (0 : Int32) (mup (mup σ a 1 p0) a 2 p1))
set_option maxHeartbeats 4000000 in
theorem ok_X5_clear {L : Nat} {a : Nat} {p0 : Int32} {p1 : Int32} {σ : Sg} {R : Sg} (ha : P5 a) (h : f_X5_clear a p0 p1 σ = some R) : mEv 0 28 [.ref a, .int p0, .int p1] (mSh, L, σ) none (mSh, L, R) := by
  refine mEv.of (by decide) rfl rfl ?_
  unfold f_X5_clear at h
  refine mAt.blk bk_X5_clear_0 ck_X5_clear_0 ?_
  refine q_aload_n rfl ?_
  refine q_iload_n rfl ?_
  refine q_putI (ha).1 rfl ?_
  refine q_aload_n rfl ?_
  refine q_iload_n rfl ?_
  refine q_putI (ha).1 rfl ?_
  refine q_iconst ?_
  refine q_istore_n rfl rfl ?_
  exact okc_X5_clear_12 ha h ⟨rfl, rfl, trivial⟩
def bk_X5_write_0 : List mI := [(.aload_n 0, 1, 0, 0, 0, []), (.getfield 9, 3, 5, 0, 348, []), (.iload_n 1, 1, 0, 0, 0, []), (.aload_n 0, 1, 0, 0, 0, []), (.getfield 15, 3, 5, 1, 350, []), (.bipush 8, 2, 0, 0, 0, [(8, 0)]), (.if_icmp .ne 8, 3, 19, 0, 0, []), (.iload_n 2, 1, 0, 0, 0, []), (.i2b, 1, 0, 0, 0, []), (.goto 18, 3, 34, 0, 0, [])]
theorem ck_X5_write_0 : mChk 29 0 bk_X5_write_0 = true := by decide +kernel
def bk_X5_write_19 : List mI := [(.aload_n 0, 1, 0, 0, 0, []), (.getfield 15, 3, 5, 1, 350, []), (.bipush 16, 2, 0, 0, 0, [(16, 0)]), (.if_icmp .ne 8, 3, 33, 0, 0, []), (.iload_n 2, 1, 0, 0, 0, []), (.i2s, 1, 0, 0, 0, []), (.goto 4, 3, 34, 0, 0, [])]
theorem ck_X5_write_19 : mChk 29 19 bk_X5_write_19 = true := by decide +kernel
def bk_X5_write_33 : List mI := [(.iload_n 2, 1, 0, 0, 0, [])]
theorem ck_X5_write_33 : mChk 29 33 bk_X5_write_33 = true := by decide +kernel
def bk_X5_write_34 : List mI := [(.invokestatic 22, 3, 131, 0, 879, []), (.return_, 1, 0, 0, 0, [])]
theorem ck_X5_write_34 : mChk 29 34 bk_X5_write_34 = true := by decide +kernel
def f_X5_write (a : Nat) (p0 : Int32) (p1 : Int32) (σ : Sg) : Option (Sg) := (if (σ a 1) = (8 : Int32) then ((f_X11_lay (a + 1) 40 p0 (p1).toInt8.toInt32 σ).bind fun q5 => (some q5)) else (if (σ a 1) = (16 : Int32) then ((f_X11_lay (a + 1) 40 p0 (p1).toInt16.toInt32 σ).bind fun q4 => (some q4)) else ((f_X11_lay (a + 1) 40 p0 p1 σ).bind fun q3 => (some q3))))
set_option maxHeartbeats 4000000 in
theorem ok_X5_write {L : Nat} {a : Nat} {p0 : Int32} {p1 : Int32} {σ : Sg} {R : Sg} (ha : P5 a) (h : f_X5_write a p0 p1 σ = some R) : mEv 1 29 [.ref a, .int p0, .int p1] (mSh, L, σ) none (mSh, L, R) := by
  refine mEv.of (by decide) rfl rfl ?_
  unfold f_X5_write at h
  refine mAt.blk bk_X5_write_0 ck_X5_write_0 ?_
  refine q_aload_n rfl ?_
  refine q_getR (ha).1 rfl rfl ?_
  refine q_iload_n rfl ?_
  refine q_aload_n rfl ?_
  refine q_getI (ha).1 rfl ?_
  refine q_bipush ?_
  refine q_ic_ne (fun c1 => ?_) (fun c1 => ?_)
  · rw [if_pos c1] at h
    refine q_iload_n rfl ?_
    refine q_i2b ?_
    refine q_goto ?_
    refine mAt.blk bk_X5_write_34 ck_X5_write_34 ?_
    obtain ⟨q5, e5, h⟩ := mbind h
    refine q_sV3 mcap_0 rfl rfl rfl rfl (by decide) (ok_X11_lay (ha).2 e5) ?_
    have h := Option.some.inj h
    subst h
    exact q_vret mcap_0 rfl rfl
  · rw [if_neg c1] at h
    refine mAt.blk bk_X5_write_19 ck_X5_write_19 ?_
    refine q_aload_n rfl ?_
    refine q_getI (ha).1 rfl ?_
    refine q_bipush ?_
    refine q_ic_ne (fun c2 => ?_) (fun c2 => ?_)
    · rw [if_pos c2] at h
      refine q_iload_n rfl ?_
      refine q_i2s ?_
      refine q_goto ?_
      refine mAt.blk bk_X5_write_34 ck_X5_write_34 ?_
      obtain ⟨q4, e4, h⟩ := mbind h
      refine q_sV3 mcap_0 rfl rfl rfl rfl (by decide) (ok_X11_lay (ha).2 e4) ?_
      have h := Option.some.inj h
      subst h
      exact q_vret mcap_0 rfl rfl
    · rw [if_neg c2] at h
      refine mAt.blk bk_X5_write_33 ck_X5_write_33 ?_
      refine q_iload_n rfl ?_
      refine mAt.blk bk_X5_write_34 ck_X5_write_34 ?_
      obtain ⟨q3, e3, h⟩ := mbind h
      refine q_sV3 mcap_0 rfl rfl rfl rfl (by decide) (ok_X11_lay (ha).2 e3) ?_
      have h := Option.some.inj h
      subst h
      exact q_vret mcap_0 rfl rfl
def bk_X5_hasSpan_0 : List mI := [(.iload_n 1, 1, 0, 0, 0, []), (.ifCond .lt 29, 3, 30, 0, 0, []), (.iload_n 2, 1, 0, 0, 0, []), (.ifCond .lt 25, 3, 30, 0, 0, []), (.iload_n 1, 1, 0, 0, 0, []), (.aload_n 0, 1, 0, 0, 0, []), (.getfield 19, 3, 5, 2, 352, []), (.if_icmp .gt 17, 3, 30, 0, 0, []), (.iload_n 2, 1, 0, 0, 0, []), (.aload_n 0, 1, 0, 0, 0, []), (.getfield 19, 3, 5, 2, 352, []), (.iload_n 1, 1, 0, 0, 0, []), (.isub, 1, 0, 0, 0, []), (.if_icmp .gt 7, 3, 30, 0, 0, []), (.iconst 1, 1, 0, 0, 0, [(1, 0)]), (.goto 4, 3, 31, 0, 0, [])]
theorem ck_X5_hasSpan_0 : mChk 30 0 bk_X5_hasSpan_0 = true := by decide +kernel
def bk_X5_hasSpan_30 : List mI := [(.iconst 0, 1, 0, 0, 0, [(0, 0)])]
theorem ck_X5_hasSpan_30 : mChk 30 30 bk_X5_hasSpan_30 = true := by decide +kernel
def bk_X5_hasSpan_31 : List mI := [(.ireturn, 1, 0, 0, 0, [])]
theorem ck_X5_hasSpan_31 : mChk 30 31 bk_X5_hasSpan_31 = true := by decide +kernel
def f_X5_hasSpan (a : Nat) (p0 : Int32) (p1 : Int32) (σ : Sg) : Option (Int32) := (if p0 < 0 then (some (0 : Int32)) else (if p1 < 0 then (some (0 : Int32)) else (if (σ a 2) < p0 then (some (0 : Int32)) else (if ((σ a 2) - p0) < p1 then (some (0 : Int32)) else (some (1 : Int32))))))
set_option maxHeartbeats 4000000 in
theorem ok_X5_hasSpan {L : Nat} {a : Nat} {p0 : Int32} {p1 : Int32} {σ : Sg} {R : Int32} (ha : P5 a) (h : f_X5_hasSpan a p0 p1 σ = some R) : mEv 0 30 [.ref a, .int p0, .int p1] (mSh, L, σ) (some (.int R)) (mSh, L, σ) := by
  refine mEv.of (by decide) rfl rfl ?_
  unfold f_X5_hasSpan at h
  refine mAt.blk bk_X5_hasSpan_0 ck_X5_hasSpan_0 ?_
  refine q_iload_n rfl ?_
  refine q_if_lt (fun c1 => ?_) (fun c1 => ?_)
  · rw [if_pos c1] at h
    refine mAt.blk bk_X5_hasSpan_30 ck_X5_hasSpan_30 ?_
    refine q_iconst ?_
    refine mAt.blk bk_X5_hasSpan_31 ck_X5_hasSpan_31 ?_
    have h := Option.some.inj h
    subst h
    exact q_iretZ mcap_0 rfl (by decide) rfl
  · rw [if_neg c1] at h
    refine q_iload_n rfl ?_
    refine q_if_lt (fun c2 => ?_) (fun c2 => ?_)
    · rw [if_pos c2] at h
      refine mAt.blk bk_X5_hasSpan_30 ck_X5_hasSpan_30 ?_
      refine q_iconst ?_
      refine mAt.blk bk_X5_hasSpan_31 ck_X5_hasSpan_31 ?_
      have h := Option.some.inj h
      subst h
      exact q_iretZ mcap_0 rfl (by decide) rfl
    · rw [if_neg c2] at h
      refine q_iload_n rfl ?_
      refine q_aload_n rfl ?_
      refine q_getI (ha).1 rfl ?_
      refine q_ic_gt (fun c3 => ?_) (fun c3 => ?_)
      · rw [if_pos c3] at h
        refine mAt.blk bk_X5_hasSpan_30 ck_X5_hasSpan_30 ?_
        refine q_iconst ?_
        refine mAt.blk bk_X5_hasSpan_31 ck_X5_hasSpan_31 ?_
        have h := Option.some.inj h
        subst h
        exact q_iretZ mcap_0 rfl (by decide) rfl
      · rw [if_neg c3] at h
        refine q_iload_n rfl ?_
        refine q_aload_n rfl ?_
        refine q_getI (ha).1 rfl ?_
        refine q_iload_n rfl ?_
        refine q_isub ?_
        refine q_ic_gt (fun c4 => ?_) (fun c4 => ?_)
        · rw [if_pos c4] at h
          refine mAt.blk bk_X5_hasSpan_30 ck_X5_hasSpan_30 ?_
          refine q_iconst ?_
          refine mAt.blk bk_X5_hasSpan_31 ck_X5_hasSpan_31 ?_
          have h := Option.some.inj h
          subst h
          exact q_iretZ mcap_0 rfl (by decide) rfl
        · rw [if_neg c4] at h
          refine q_iconst ?_
          refine q_goto ?_
          refine mAt.blk bk_X5_hasSpan_31 ck_X5_hasSpan_31 ?_
          have h := Option.some.inj h
          subst h
          exact q_iretZ mcap_0 rfl (by decide) rfl
def bk_X6_joined_0 : List mI := [(.iload_n 0, 1, 0, 0, 0, []), (.lookupswitch 168 #[(38, 97), (42, 152), (43, 144), (45, 148), (47, 156), (60, 111), (61, 122), (62, 133), (124, 83)], 83, 169, 0, 0, [(38, 98), (42, 153), (43, 145), (45, 149), (47, 157), (60, 112), (61, 123), (62, 134), (124, 84)])]
theorem ck_X6_joined_0 : mChk 36 0 bk_X6_joined_0 = true := by decide +kernel
def bk_X6_joined_84 : List mI := [(.iload_n 1, 1, 0, 0, 0, []), (.ifCond .ne 7, 3, 92, 0, 0, []), (.iload_n 2, 1, 0, 0, 0, []), (.ifCond .eq 7, 3, 96, 0, 0, [])]
theorem ck_X6_joined_84 : mChk 36 84 bk_X6_joined_84 = true := by decide +kernel
def bk_X6_joined_92 : List mI := [(.iconst 1, 1, 0, 0, 0, [(1, 0)]), (.goto 4, 3, 97, 0, 0, [])]
theorem ck_X6_joined_92 : mChk 36 92 bk_X6_joined_92 = true := by decide +kernel
def bk_X6_joined_96 : List mI := [(.iconst 0, 1, 0, 0, 0, [(0, 0)])]
theorem ck_X6_joined_96 : mChk 36 96 bk_X6_joined_96 = true := by decide +kernel
def bk_X6_joined_97 : List mI := [(.ireturn, 1, 0, 0, 0, [])]
theorem ck_X6_joined_97 : mChk 36 97 bk_X6_joined_97 = true := by decide +kernel
def bk_X6_joined_98 : List mI := [(.iload_n 1, 1, 0, 0, 0, []), (.ifCond .eq 11, 3, 110, 0, 0, []), (.iload_n 2, 1, 0, 0, 0, []), (.ifCond .eq 7, 3, 110, 0, 0, []), (.iconst 1, 1, 0, 0, 0, [(1, 0)]), (.goto 4, 3, 111, 0, 0, [])]
theorem ck_X6_joined_98 : mChk 36 98 bk_X6_joined_98 = true := by decide +kernel
def bk_X6_joined_110 : List mI := [(.iconst 0, 1, 0, 0, 0, [(0, 0)])]
theorem ck_X6_joined_110 : mChk 36 110 bk_X6_joined_110 = true := by decide +kernel
def bk_X6_joined_111 : List mI := [(.ireturn, 1, 0, 0, 0, [])]
theorem ck_X6_joined_111 : mChk 36 111 bk_X6_joined_111 = true := by decide +kernel
def bk_X6_joined_112 : List mI := [(.iload_n 1, 1, 0, 0, 0, []), (.iload_n 2, 1, 0, 0, 0, []), (.if_icmp .ge 7, 3, 121, 0, 0, []), (.iconst 1, 1, 0, 0, 0, [(1, 0)]), (.goto 4, 3, 122, 0, 0, [])]
theorem ck_X6_joined_112 : mChk 36 112 bk_X6_joined_112 = true := by decide +kernel
def bk_X6_joined_121 : List mI := [(.iconst 0, 1, 0, 0, 0, [(0, 0)])]
theorem ck_X6_joined_121 : mChk 36 121 bk_X6_joined_121 = true := by decide +kernel
def bk_X6_joined_122 : List mI := [(.ireturn, 1, 0, 0, 0, [])]
theorem ck_X6_joined_122 : mChk 36 122 bk_X6_joined_122 = true := by decide +kernel
def bk_X6_joined_123 : List mI := [(.iload_n 1, 1, 0, 0, 0, []), (.iload_n 2, 1, 0, 0, 0, []), (.if_icmp .ne 7, 3, 132, 0, 0, []), (.iconst 1, 1, 0, 0, 0, [(1, 0)]), (.goto 4, 3, 133, 0, 0, [])]
theorem ck_X6_joined_123 : mChk 36 123 bk_X6_joined_123 = true := by decide +kernel
def bk_X6_joined_132 : List mI := [(.iconst 0, 1, 0, 0, 0, [(0, 0)])]
theorem ck_X6_joined_132 : mChk 36 132 bk_X6_joined_132 = true := by decide +kernel
def bk_X6_joined_133 : List mI := [(.ireturn, 1, 0, 0, 0, [])]
theorem ck_X6_joined_133 : mChk 36 133 bk_X6_joined_133 = true := by decide +kernel
def bk_X6_joined_134 : List mI := [(.iload_n 1, 1, 0, 0, 0, []), (.iload_n 2, 1, 0, 0, 0, []), (.if_icmp .le 7, 3, 143, 0, 0, []), (.iconst 1, 1, 0, 0, 0, [(1, 0)]), (.goto 4, 3, 144, 0, 0, [])]
theorem ck_X6_joined_134 : mChk 36 134 bk_X6_joined_134 = true := by decide +kernel
def bk_X6_joined_143 : List mI := [(.iconst 0, 1, 0, 0, 0, [(0, 0)])]
theorem ck_X6_joined_143 : mChk 36 143 bk_X6_joined_143 = true := by decide +kernel
def bk_X6_joined_144 : List mI := [(.ireturn, 1, 0, 0, 0, [])]
theorem ck_X6_joined_144 : mChk 36 144 bk_X6_joined_144 = true := by decide +kernel
def bk_X6_joined_145 : List mI := [(.iload_n 1, 1, 0, 0, 0, []), (.iload_n 2, 1, 0, 0, 0, []), (.iadd, 1, 0, 0, 0, []), (.ireturn, 1, 0, 0, 0, [])]
theorem ck_X6_joined_145 : mChk 36 145 bk_X6_joined_145 = true := by decide +kernel
def bk_X6_joined_149 : List mI := [(.iload_n 1, 1, 0, 0, 0, []), (.iload_n 2, 1, 0, 0, 0, []), (.isub, 1, 0, 0, 0, []), (.ireturn, 1, 0, 0, 0, [])]
theorem ck_X6_joined_149 : mChk 36 149 bk_X6_joined_149 = true := by decide +kernel
def bk_X6_joined_153 : List mI := [(.iload_n 1, 1, 0, 0, 0, []), (.iload_n 2, 1, 0, 0, 0, []), (.imul, 1, 0, 0, 0, []), (.ireturn, 1, 0, 0, 0, [])]
theorem ck_X6_joined_153 : mChk 36 153 bk_X6_joined_153 = true := by decide +kernel
def bk_X6_joined_157 : List mI := [(.iload_n 2, 1, 0, 0, 0, []), (.ifCond .ne 7, 3, 165, 0, 0, []), (.iconst 0, 1, 0, 0, 0, [(0, 0)]), (.goto 6, 3, 168, 0, 0, [])]
theorem ck_X6_joined_157 : mChk 36 157 bk_X6_joined_157 = true := by decide +kernel
def bk_X6_joined_165 : List mI := [(.iload_n 1, 1, 0, 0, 0, []), (.iload_n 2, 1, 0, 0, 0, []), (.idiv, 1, 0, 0, 0, [])]
theorem ck_X6_joined_165 : mChk 36 165 bk_X6_joined_165 = true := by decide +kernel
def bk_X6_joined_168 : List mI := [(.ireturn, 1, 0, 0, 0, [])]
theorem ck_X6_joined_168 : mChk 36 168 bk_X6_joined_168 = true := by decide +kernel
def bk_X6_joined_169 : List mI := [(.iload_n 2, 1, 0, 0, 0, []), (.ifCond .ne 7, 3, 177, 0, 0, []), (.iconst 0, 1, 0, 0, 0, [(0, 0)]), (.goto 6, 3, 180, 0, 0, [])]
theorem ck_X6_joined_169 : mChk 36 169 bk_X6_joined_169 = true := by decide +kernel
def bk_X6_joined_177 : List mI := [(.iload_n 1, 1, 0, 0, 0, []), (.iload_n 2, 1, 0, 0, 0, []), (.irem, 1, 0, 0, 0, [])]
theorem ck_X6_joined_177 : mChk 36 177 bk_X6_joined_177 = true := by decide +kernel
def bk_X6_joined_180 : List mI := [(.ireturn, 1, 0, 0, 0, [])]
theorem ck_X6_joined_180 : mChk 36 180 bk_X6_joined_180 = true := by decide +kernel
def c_X6_joined_92 (σ : Sg) : Option (Int32) := (some (1 : Int32))
set_option maxHeartbeats 4000000 in
theorem okc_X6_joined_92 {L : Nat} {σ : Sg} {R : Int32} {pl : mLoc} (h : c_X6_joined_92 σ = some R) (hl : mlf [none, none, none] pl) : mAt 0 36 (some (.int R), (mSh, L, σ)) 92 pl [] (mSh, L, σ) 0 0 := by
  refine mAt.less hl ?_
  unfold c_X6_joined_92 at h
  refine mAt.blk bk_X6_joined_92 ck_X6_joined_92 ?_
  refine q_iconst ?_
  refine q_goto ?_
  refine mAt.blk bk_X6_joined_97 ck_X6_joined_97 ?_
  have h := Option.some.inj h
  subst h
  exact q_iretI mcap_0 rfl rfl
def f_X6_joined (p0 : Int32) (p1 : Int32) (p2 : Int32) (σ : Sg) : Option (Int32) := (if p0 = (38 : Int32) then (if p1 = 0 then (some (0 : Int32)) else (if p2 = 0 then (some (0 : Int32)) else (some (1 : Int32)))) else (if p0 = (42 : Int32) then (some (p1 * p2)) else (if p0 = (43 : Int32) then (some (p1 + p2)) else (if p0 = (45 : Int32) then (some (p1 - p2)) else (if p0 = (47 : Int32) then (if p2 = 0 then (some (0 : Int32)) else (if p2 = 0 then none else (some (p1 / p2)))) else (if p0 = (60 : Int32) then (if p2 ≤ p1 then (some (0 : Int32)) else (some (1 : Int32))) else (if p0 = (61 : Int32) then (if p1 = p2 then (some (1 : Int32)) else (some (0 : Int32))) else (if p0 = (62 : Int32) then (if p1 ≤ p2 then (some (0 : Int32)) else (some (1 : Int32))) else (if p0 = (124 : Int32) then (if p1 = 0 then (if p2 = 0 then (some (0 : Int32)) else (c_X6_joined_92  σ )) else (c_X6_joined_92  σ )) else (if p2 = 0 then (some (0 : Int32)) else (if p2 = 0 then none else (some (p1 - p1 / p2 * p2)))))))))))))
set_option maxHeartbeats 4000000 in
theorem ok_X6_joined {L : Nat} {p0 : Int32} {p1 : Int32} {p2 : Int32} {σ : Sg} {R : Int32} (h : f_X6_joined p0 p1 p2 σ = some R) : mEv 0 36 [.int p0, .int p1, .int p2] (mSh, L, σ) (some (.int R)) (mSh, L, σ) := by
  refine mEv.of (by decide) rfl rfl ?_
  unfold f_X6_joined at h
  refine mAt.blk bk_X6_joined_0 ck_X6_joined_0 ?_
  refine q_iload_n rfl ?_
  refine q_lsw ?_
  refine ⟨fun c20 => ?_, fun c20 => ?_⟩
  · rw [if_pos c20] at h
    refine mAt.blk bk_X6_joined_98 ck_X6_joined_98 ?_
    refine q_iload_n rfl ?_
    refine q_if_eq (fun c1 => ?_) (fun c1 => ?_)
    · rw [if_pos c1] at h
      refine mAt.blk bk_X6_joined_110 ck_X6_joined_110 ?_
      refine q_iconst ?_
      refine mAt.blk bk_X6_joined_111 ck_X6_joined_111 ?_
      have h := Option.some.inj h
      subst h
      exact q_iretI mcap_0 rfl rfl
    · rw [if_neg c1] at h
      refine q_iload_n rfl ?_
      refine q_if_eq (fun c2 => ?_) (fun c2 => ?_)
      · rw [if_pos c2] at h
        refine mAt.blk bk_X6_joined_110 ck_X6_joined_110 ?_
        refine q_iconst ?_
        refine mAt.blk bk_X6_joined_111 ck_X6_joined_111 ?_
        have h := Option.some.inj h
        subst h
        exact q_iretI mcap_0 rfl rfl
      · rw [if_neg c2] at h
        refine q_iconst ?_
        refine q_goto ?_
        refine mAt.blk bk_X6_joined_111 ck_X6_joined_111 ?_
        have h := Option.some.inj h
        subst h
        exact q_iretI mcap_0 rfl rfl
  · rw [if_neg c20] at h
    refine ⟨fun c19 => ?_, fun c19 => ?_⟩
    · rw [if_pos c19] at h
      refine mAt.blk bk_X6_joined_153 ck_X6_joined_153 ?_
      refine q_iload_n rfl ?_
      refine q_iload_n rfl ?_
      refine q_imul ?_
      have h := Option.some.inj h
      subst h
      exact q_iretI mcap_0 rfl rfl
    · rw [if_neg c19] at h
      refine ⟨fun c18 => ?_, fun c18 => ?_⟩
      · rw [if_pos c18] at h
        refine mAt.blk bk_X6_joined_145 ck_X6_joined_145 ?_
        refine q_iload_n rfl ?_
        refine q_iload_n rfl ?_
        refine q_iadd ?_
        have h := Option.some.inj h
        subst h
        exact q_iretI mcap_0 rfl rfl
      · rw [if_neg c18] at h
        refine ⟨fun c17 => ?_, fun c17 => ?_⟩
        · rw [if_pos c17] at h
          refine mAt.blk bk_X6_joined_149 ck_X6_joined_149 ?_
          refine q_iload_n rfl ?_
          refine q_iload_n rfl ?_
          refine q_isub ?_
          have h := Option.some.inj h
          subst h
          exact q_iretI mcap_0 rfl rfl
        · rw [if_neg c17] at h
          refine ⟨fun c16 => ?_, fun c16 => ?_⟩
          · rw [if_pos c16] at h
            refine mAt.blk bk_X6_joined_157 ck_X6_joined_157 ?_
            refine q_iload_n rfl ?_
            refine q_if_ne (fun c3 => ?_) (fun c3 => ?_)
            · rw [if_pos c3] at h
              refine q_iconst ?_
              refine q_goto ?_
              refine mAt.blk bk_X6_joined_168 ck_X6_joined_168 ?_
              have h := Option.some.inj h
              subst h
              exact q_iretI mcap_0 rfl rfl
            · rw [if_neg c3] at h
              refine mAt.blk bk_X6_joined_165 ck_X6_joined_165 ?_
              refine q_iload_n rfl ?_
              refine q_iload_n rfl ?_
              obtain ⟨c4, h⟩ := mnone h
              refine q_idiv c4 ?_
              refine mAt.blk bk_X6_joined_168 ck_X6_joined_168 ?_
              have h := Option.some.inj h
              subst h
              exact q_iretI mcap_0 rfl rfl
          · rw [if_neg c16] at h
            refine ⟨fun c15 => ?_, fun c15 => ?_⟩
            · rw [if_pos c15] at h
              refine mAt.blk bk_X6_joined_112 ck_X6_joined_112 ?_
              refine q_iload_n rfl ?_
              refine q_iload_n rfl ?_
              refine q_ic_ge (fun c5 => ?_) (fun c5 => ?_)
              · rw [if_pos c5] at h
                refine mAt.blk bk_X6_joined_121 ck_X6_joined_121 ?_
                refine q_iconst ?_
                refine mAt.blk bk_X6_joined_122 ck_X6_joined_122 ?_
                have h := Option.some.inj h
                subst h
                exact q_iretI mcap_0 rfl rfl
              · rw [if_neg c5] at h
                refine q_iconst ?_
                refine q_goto ?_
                refine mAt.blk bk_X6_joined_122 ck_X6_joined_122 ?_
                have h := Option.some.inj h
                subst h
                exact q_iretI mcap_0 rfl rfl
            · rw [if_neg c15] at h
              refine ⟨fun c14 => ?_, fun c14 => ?_⟩
              · rw [if_pos c14] at h
                refine mAt.blk bk_X6_joined_123 ck_X6_joined_123 ?_
                refine q_iload_n rfl ?_
                refine q_iload_n rfl ?_
                refine q_ic_ne (fun c6 => ?_) (fun c6 => ?_)
                · rw [if_pos c6] at h
                  refine q_iconst ?_
                  refine q_goto ?_
                  refine mAt.blk bk_X6_joined_133 ck_X6_joined_133 ?_
                  have h := Option.some.inj h
                  subst h
                  exact q_iretI mcap_0 rfl rfl
                · rw [if_neg c6] at h
                  refine mAt.blk bk_X6_joined_132 ck_X6_joined_132 ?_
                  refine q_iconst ?_
                  refine mAt.blk bk_X6_joined_133 ck_X6_joined_133 ?_
                  have h := Option.some.inj h
                  subst h
                  exact q_iretI mcap_0 rfl rfl
              · rw [if_neg c14] at h
                refine ⟨fun c13 => ?_, fun c13 => ?_⟩
                · rw [if_pos c13] at h
                  refine mAt.blk bk_X6_joined_134 ck_X6_joined_134 ?_
                  refine q_iload_n rfl ?_
                  refine q_iload_n rfl ?_
                  refine q_ic_le (fun c7 => ?_) (fun c7 => ?_)
                  · rw [if_pos c7] at h
                    refine mAt.blk bk_X6_joined_143 ck_X6_joined_143 ?_
                    refine q_iconst ?_
                    refine mAt.blk bk_X6_joined_144 ck_X6_joined_144 ?_
                    have h := Option.some.inj h
                    subst h
                    exact q_iretI mcap_0 rfl rfl
                  · rw [if_neg c7] at h
                    refine q_iconst ?_
                    refine q_goto ?_
                    refine mAt.blk bk_X6_joined_144 ck_X6_joined_144 ?_
                    have h := Option.some.inj h
                    subst h
                    exact q_iretI mcap_0 rfl rfl
                · rw [if_neg c13] at h
                  refine ⟨fun c12 => ?_, fun c12 => ?_⟩
                  · rw [if_pos c12] at h
                    refine mAt.blk bk_X6_joined_84 ck_X6_joined_84 ?_
                    refine q_iload_n rfl ?_
                    refine q_if_ne (fun c8 => ?_) (fun c8 => ?_)
                    · rw [if_pos c8] at h
                      refine q_iload_n rfl ?_
                      refine q_if_eq (fun c9 => ?_) (fun c9 => ?_)
                      · rw [if_pos c9] at h
                        refine mAt.blk bk_X6_joined_96 ck_X6_joined_96 ?_
                        refine q_iconst ?_
                        refine mAt.blk bk_X6_joined_97 ck_X6_joined_97 ?_
                        have h := Option.some.inj h
                        subst h
                        exact q_iretI mcap_0 rfl rfl
                      · rw [if_neg c9] at h
                        exact okc_X6_joined_92  h trivial
                    · rw [if_neg c8] at h
                      exact okc_X6_joined_92  h trivial
                  · rw [if_neg c12] at h
                    refine mAt.blk bk_X6_joined_169 ck_X6_joined_169 ?_
                    refine q_iload_n rfl ?_
                    refine q_if_ne (fun c10 => ?_) (fun c10 => ?_)
                    · rw [if_pos c10] at h
                      refine q_iconst ?_
                      refine q_goto ?_
                      refine mAt.blk bk_X6_joined_180 ck_X6_joined_180 ?_
                      have h := Option.some.inj h
                      subst h
                      exact q_iretI mcap_0 rfl rfl
                    · rw [if_neg c10] at h
                      refine mAt.blk bk_X6_joined_177 ck_X6_joined_177 ?_
                      refine q_iload_n rfl ?_
                      refine q_iload_n rfl ?_
                      obtain ⟨c11, h⟩ := mnone h
                      refine q_irem c11 ?_
                      refine mAt.blk bk_X6_joined_180 ck_X6_joined_180 ?_
                      have h := Option.some.inj h
                      subst h
                      exact q_iretI mcap_0 rfl rfl
def bk_X6_named_0 : List mI := [(.iload_n 0, 1, 0, 0, 0, []), (.tableswitch 33 0 2 #[27, 29, 31], 27, 34, 0, 0, [(0, 28), (1, 30), (2, 32)])]
theorem ck_X6_named_0 : mChk 35 0 bk_X6_named_0 = true := by decide +kernel
def bk_X6_named_28 : List mI := [(.iload_n 1, 1, 0, 0, 0, []), (.ireturn, 1, 0, 0, 0, [])]
theorem ck_X6_named_28 : mChk 35 28 bk_X6_named_28 = true := by decide +kernel
def bk_X6_named_30 : List mI := [(.iload_n 2, 1, 0, 0, 0, []), (.ireturn, 1, 0, 0, 0, [])]
theorem ck_X6_named_30 : mChk 35 30 bk_X6_named_30 = true := by decide +kernel
def bk_X6_named_32 : List mI := [(.iload_n 3, 1, 0, 0, 0, []), (.ireturn, 1, 0, 0, 0, [])]
theorem ck_X6_named_32 : mChk 35 32 bk_X6_named_32 = true := by decide +kernel
def bk_X6_named_34 : List mI := [(.iload 4, 2, 0, 0, 0, []), (.ireturn, 1, 0, 0, 0, [])]
theorem ck_X6_named_34 : mChk 35 34 bk_X6_named_34 = true := by decide +kernel
def f_X6_named (p0 : Int32) (p1 : Int32) (p2 : Int32) (p3 : Int32) (p4 : Int32) (σ : Sg) : Option (Int32) := (if p0 = (0 : Int32) then (some p1) else (if p0 = (1 : Int32) then (some p2) else (if p0 = (2 : Int32) then (some p3) else (some p4))))
set_option maxHeartbeats 4000000 in
theorem ok_X6_named {L : Nat} {p0 : Int32} {p1 : Int32} {p2 : Int32} {p3 : Int32} {p4 : Int32} {σ : Sg} {R : Int32} (h : f_X6_named p0 p1 p2 p3 p4 σ = some R) : mEv 0 35 [.int p0, .int p1, .int p2, .int p3, .int p4] (mSh, L, σ) (some (.int R)) (mSh, L, σ) := by
  refine mEv.of (by decide) rfl rfl ?_
  unfold f_X6_named at h
  refine mAt.blk bk_X6_named_0 ck_X6_named_0 ?_
  refine q_iload_n rfl ?_
  refine q_tsw ?_
  refine ⟨fun c3 => ?_, fun c3 => ?_⟩
  · rw [if_pos c3] at h
    refine mAt.blk bk_X6_named_28 ck_X6_named_28 ?_
    refine q_iload_n rfl ?_
    have h := Option.some.inj h
    subst h
    exact q_iretI mcap_0 rfl rfl
  · rw [if_neg c3] at h
    refine ⟨fun c2 => ?_, fun c2 => ?_⟩
    · rw [if_pos c2] at h
      refine mAt.blk bk_X6_named_30 ck_X6_named_30 ?_
      refine q_iload_n rfl ?_
      have h := Option.some.inj h
      subst h
      exact q_iretI mcap_0 rfl rfl
    · rw [if_neg c2] at h
      refine ⟨fun c1 => ?_, fun c1 => ?_⟩
      · rw [if_pos c1] at h
        refine mAt.blk bk_X6_named_32 ck_X6_named_32 ?_
        refine q_iload_n rfl ?_
        have h := Option.some.inj h
        subst h
        exact q_iretI mcap_0 rfl rfl
      · rw [if_neg c1] at h
        refine mAt.blk bk_X6_named_34 ck_X6_named_34 ?_
        refine q_iload rfl ?_
        have h := Option.some.inj h
        subst h
        exact q_iretI mcap_0 rfl rfl
def bk_X6_worth_0 : List mI := [(.iconst (-1), 1, 0, 0, 0, [((-1), 0)]), (.istore 5, 2, 0, 0, 0, []), (.iconst 0, 1, 0, 0, 0, [(0, 0)]), (.istore 6, 2, 0, 0, 0, [])]
theorem ck_X6_worth_0 : mChk 34 0 bk_X6_worth_0 = true := by decide +kernel
def bk_X6_worth_6 : List mI := [(.iload 6, 2, 0, 0, 0, []), (.aload_n 0, 1, 0, 0, 0, []), (.getfield 22, 3, 6, 2, 119, []), (.if_icmp .ge 138, 3, 150, 0, 0, []), (.aload_n 0, 1, 0, 0, 0, []), (.getfield 9, 3, 6, 0, 117, []), (.iload 6, 2, 0, 0, 0, []), (.invokestatic 30, 3, 130, 0, 538, []), (.istore 7, 2, 0, 0, 0, []), (.iload 7, 2, 0, 0, 0, []), (.bipush (-4), 2, 0, 0, 0, [((-4), 0)]), (.if_icmp .lt 40, 3, 70, 0, 0, []), (.iinc 5 1, 3, 0, 0, 0, [(1, 0)]), (.aload_n 0, 1, 0, 0, 0, []), (.getfield 15, 3, 6, 1, 118, []), (.iload 5, 2, 0, 0, 0, []), (.iload 7, 2, 0, 0, 0, []), (.ifCond .lt 8, 3, 52, 0, 0, []), (.iload 7, 2, 0, 0, 0, []), (.goto 15, 3, 64, 0, 0, [])]
theorem ck_X6_worth_6 : mChk 34 6 bk_X6_worth_6 = true := by decide +kernel
def bk_X6_worth_52 : List mI := [(.iconst (-1), 1, 0, 0, 0, [((-1), 0)]), (.iload 7, 2, 0, 0, 0, []), (.isub, 1, 0, 0, 0, []), (.iload_n 1, 1, 0, 0, 0, []), (.iload_n 2, 1, 0, 0, 0, []), (.iload_n 3, 1, 0, 0, 0, []), (.iload 4, 2, 0, 0, 0, []), (.invokestatic 34, 3, 35, 0, 539, [])]
theorem ck_X6_worth_52 : mChk 34 52 bk_X6_worth_52 = true := by decide +kernel
def bk_X6_worth_64 : List mI := [(.invokestatic 26, 3, 131, 0, 542, []), (.goto 77, 3, 144, 0, 0, [])]
theorem ck_X6_worth_64 : mChk 34 64 bk_X6_worth_64 = true := by decide +kernel
def bk_X6_worth_70 : List mI := [(.iload 7, 2, 0, 0, 0, []), (.bipush (-33), 2, 0, 0, 0, [((-33), 0)]), (.if_icmp .ne 32, 3, 106, 0, 0, []), (.aload_n 0, 1, 0, 0, 0, []), (.getfield 15, 3, 6, 1, 118, []), (.iload 5, 2, 0, 0, 0, []), (.aload_n 0, 1, 0, 0, 0, []), (.getfield 15, 3, 6, 1, 118, []), (.iload 5, 2, 0, 0, 0, []), (.invokestatic 30, 3, 130, 0, 538, []), (.ifCond .ne 7, 3, 99, 0, 0, []), (.iconst 1, 1, 0, 0, 0, [(1, 0)]), (.goto 4, 3, 100, 0, 0, [])]
theorem ck_X6_worth_70 : mChk 34 70 bk_X6_worth_70 = true := by decide +kernel
def bk_X6_worth_99 : List mI := [(.iconst 0, 1, 0, 0, 0, [(0, 0)])]
theorem ck_X6_worth_99 : mChk 34 99 bk_X6_worth_99 = true := by decide +kernel
def bk_X6_worth_100 : List mI := [(.invokestatic 26, 3, 131, 0, 542, []), (.goto 41, 3, 144, 0, 0, [])]
theorem ck_X6_worth_100 : mChk 34 100 bk_X6_worth_100 = true := by decide +kernel
def bk_X6_worth_106 : List mI := [(.iinc 5 (-1), 3, 0, 0, 0, [((-1), 0)]), (.aload_n 0, 1, 0, 0, 0, []), (.getfield 15, 3, 6, 1, 118, []), (.iload 5, 2, 0, 0, 0, []), (.iload 7, 2, 0, 0, 0, []), (.ineg, 1, 0, 0, 0, []), (.aload_n 0, 1, 0, 0, 0, []), (.getfield 15, 3, 6, 1, 118, []), (.iload 5, 2, 0, 0, 0, []), (.invokestatic 30, 3, 130, 0, 538, []), (.aload_n 0, 1, 0, 0, 0, []), (.getfield 15, 3, 6, 1, 118, []), (.iload 5, 2, 0, 0, 0, []), (.iconst 1, 1, 0, 0, 0, [(1, 0)]), (.iadd, 1, 0, 0, 0, []), (.invokestatic 30, 3, 130, 0, 538, []), (.invokestatic 38, 3, 36, 0, 543, []), (.invokestatic 26, 3, 131, 0, 542, [])]
theorem ck_X6_worth_106 : mChk 34 106 bk_X6_worth_106 = true := by decide +kernel
def bk_X6_worth_144 : List mI := [(.iinc 6 1, 3, 0, 0, 0, [(1, 0)]), (.goto (-141), 3, 6, 0, 0, [])]
theorem ck_X6_worth_144 : mChk 34 144 bk_X6_worth_144 = true := by decide +kernel
def bk_X6_worth_150 : List mI := [(.aload_n 0, 1, 0, 0, 0, []), (.getfield 15, 3, 6, 1, 118, []), (.iload 5, 2, 0, 0, 0, []), (.invokestatic 30, 3, 130, 0, 538, []), (.ireturn, 1, 0, 0, 0, [])]
theorem ck_X6_worth_150 : mChk 34 150 bk_X6_worth_150 = true := by decide +kernel
def c_X6_worth_144 (k6 : Int32 → Int32 → Int32 → Int32 → Int32 → Int32 → Sg → Option (Int32 × Sg)) (a : Nat) (x1 : Int32) (x2 : Int32) (x3 : Int32) (x4 : Int32) (x5 : Int32) (x6 : Int32) (σ : Sg) : Option (Int32 × Sg) := (k6 x1 x2 x3 x4 x5 (x6 + (1 : Int32)) σ)
set_option maxHeartbeats 4000000 in
theorem okc_X6_worth_144 {L : Nat} {k6 : Int32 → Int32 → Int32 → Int32 → Int32 → Int32 → Sg → Option (Int32 × Sg)} {a : Nat} {R : Int32 × Sg} (ha : P6 a) (Hk6 : ∀ (x1 : Int32) (x2 : Int32) (x3 : Int32) (x4 : Int32) (x5 : Int32) (x6 : Int32) (σ : Sg) (pl : mLoc), k6 x1 x2 x3 x4 x5 x6 σ = some R → mlf [some (.ref a), some (.int x1), some (.int x2), some (.int x3), some (.int x4), some (.int x5), some (.int x6), none] pl → mAt 1 34 (some (.int R.1), (mSh, L, R.2)) 6 pl [] (mSh, L, σ) 0 0) {x1 : Int32} {x2 : Int32} {x3 : Int32} {x4 : Int32} {x5 : Int32} {x6 : Int32} {σ : Sg} {pl : mLoc} (h : c_X6_worth_144 k6 a x1 x2 x3 x4 x5 x6 σ = some R) (hl : mlf [some (.ref a), some (.int x1), some (.int x2), some (.int x3), some (.int x4), some (.int x5), some (.int x6), none] pl) : mAt 1 34 (some (.int R.1), (mSh, L, R.2)) 144 pl [] (mSh, L, σ) 0 0 := by
  refine mAt.less hl ?_
  unfold c_X6_worth_144 at h
  refine mAt.blk bk_X6_worth_144 ck_X6_worth_144 ?_
  refine q_iinc rfl rfl ?_
  refine q_goto ?_
  exact Hk6 _ _ _ _ _ _ _ _  h ⟨rfl, rfl, rfl, rfl, rfl, rfl, rfl, trivial⟩
def c_X6_worth_64 (k6 : Int32 → Int32 → Int32 → Int32 → Int32 → Int32 → Sg → Option (Int32 × Sg)) (a : Nat) (x1 : Int32) (x2 : Int32) (x3 : Int32) (x4 : Int32) (x5 : Int32) (x6 : Int32) (s1 : Int32) (s2 : Int32) (σ : Sg) : Option (Int32 × Sg) := ((f_X11_lay (a + 2) 50 s1 s2 σ).bind fun q14 => (c_X6_worth_144 k6 a x1 x2 x3 x4 x5 x6 q14))
set_option maxHeartbeats 4000000 in
theorem okc_X6_worth_64 {L : Nat} {k6 : Int32 → Int32 → Int32 → Int32 → Int32 → Int32 → Sg → Option (Int32 × Sg)} {a : Nat} {R : Int32 × Sg} (ha : P6 a) (Hk6 : ∀ (x1 : Int32) (x2 : Int32) (x3 : Int32) (x4 : Int32) (x5 : Int32) (x6 : Int32) (σ : Sg) (pl : mLoc), k6 x1 x2 x3 x4 x5 x6 σ = some R → mlf [some (.ref a), some (.int x1), some (.int x2), some (.int x3), some (.int x4), some (.int x5), some (.int x6), none] pl → mAt 1 34 (some (.int R.1), (mSh, L, R.2)) 6 pl [] (mSh, L, σ) 0 0) {x1 : Int32} {x2 : Int32} {x3 : Int32} {x4 : Int32} {x5 : Int32} {x6 : Int32} {s1 : Int32} {s2 : Int32} {σ : Sg} {pl : mLoc} (h : c_X6_worth_64 k6 a x1 x2 x3 x4 x5 x6 s1 s2 σ = some R) (hl : mlf [some (.ref a), some (.int x1), some (.int x2), some (.int x3), some (.int x4), some (.int x5), some (.int x6), none] pl) : mAt 1 34 (some (.int R.1), (mSh, L, R.2)) 64 pl [.int s2, .int s1, .ref (a + 2)] (mSh, L, σ) 0 0 := by
  refine mAt.less hl ?_
  unfold c_X6_worth_64 at h
  refine mAt.blk bk_X6_worth_64 ck_X6_worth_64 ?_
  obtain ⟨q14, e14, h⟩ := mbind h
  refine q_sV3 mcap_0 rfl rfl rfl rfl (by decide) (ok_X11_lay (ha).2.2 e14) ?_
  refine q_goto ?_
  exact okc_X6_worth_144 ha Hk6 h ⟨rfl, rfl, rfl, rfl, rfl, rfl, rfl, trivial⟩
def c_X6_worth_100 (k6 : Int32 → Int32 → Int32 → Int32 → Int32 → Int32 → Sg → Option (Int32 × Sg)) (a : Nat) (x1 : Int32) (x2 : Int32) (x3 : Int32) (x4 : Int32) (x5 : Int32) (x6 : Int32) (s1 : Int32) (s2 : Int32) (σ : Sg) : Option (Int32 × Sg) := ((f_X11_lay (a + 2) 50 s1 s2 σ).bind fun q15 => (c_X6_worth_144 k6 a x1 x2 x3 x4 x5 x6 q15))
set_option maxHeartbeats 4000000 in
theorem okc_X6_worth_100 {L : Nat} {k6 : Int32 → Int32 → Int32 → Int32 → Int32 → Int32 → Sg → Option (Int32 × Sg)} {a : Nat} {R : Int32 × Sg} (ha : P6 a) (Hk6 : ∀ (x1 : Int32) (x2 : Int32) (x3 : Int32) (x4 : Int32) (x5 : Int32) (x6 : Int32) (σ : Sg) (pl : mLoc), k6 x1 x2 x3 x4 x5 x6 σ = some R → mlf [some (.ref a), some (.int x1), some (.int x2), some (.int x3), some (.int x4), some (.int x5), some (.int x6), none] pl → mAt 1 34 (some (.int R.1), (mSh, L, R.2)) 6 pl [] (mSh, L, σ) 0 0) {x1 : Int32} {x2 : Int32} {x3 : Int32} {x4 : Int32} {x5 : Int32} {x6 : Int32} {s1 : Int32} {s2 : Int32} {σ : Sg} {pl : mLoc} (h : c_X6_worth_100 k6 a x1 x2 x3 x4 x5 x6 s1 s2 σ = some R) (hl : mlf [some (.ref a), some (.int x1), some (.int x2), some (.int x3), some (.int x4), some (.int x5), some (.int x6), none] pl) : mAt 1 34 (some (.int R.1), (mSh, L, R.2)) 100 pl [.int s2, .int s1, .ref (a + 2)] (mSh, L, σ) 0 0 := by
  refine mAt.less hl ?_
  unfold c_X6_worth_100 at h
  refine mAt.blk bk_X6_worth_100 ck_X6_worth_100 ?_
  obtain ⟨q15, e15, h⟩ := mbind h
  refine q_sV3 mcap_0 rfl rfl rfl rfl (by decide) (ok_X11_lay (ha).2.2 e15) ?_
  refine q_goto ?_
  exact okc_X6_worth_144 ha Hk6 h ⟨rfl, rfl, rfl, rfl, rfl, rfl, rfl, trivial⟩
def c_X6_worth_6 (a : Nat) : Nat → Int32 → Int32 → Int32 → Int32 → Int32 → Int32 → Sg → Option (Int32 × Sg)
  | 0, _, _, _, _, _, _, _ => none
  | n + 1, x1, x2, x3, x4, x5, x6, σ => (if (σ a 2) ≤ x6 then ((f_X11_pick (a + 2) 50 x5 σ).bind fun q2 => (some (q2, σ))) else ((f_X11_pick (a + 1) 50 x6 σ).bind fun q3 => (if q3 < (-4 : Int32) then (if q3 = (-33 : Int32) then ((f_X11_pick (a + 2) 50 x5 σ).bind fun q10 => (if q10 = 0 then (c_X6_worth_100 (c_X6_worth_6 a n) a x1 x2 x3 x4 x5 x6 x5 (1 : Int32) σ) else (c_X6_worth_100 (c_X6_worth_6 a n) a x1 x2 x3 x4 x5 x6 x5 (0 : Int32) σ))) else ((f_X11_pick (a + 2) 50 (x5 + (-1 : Int32)) σ).bind fun q6 => ((f_X11_pick (a + 2) 50 ((x5 + (-1 : Int32)) + (1 : Int32)) σ).bind fun q7 => ((f_X6_joined (-q3) q6 q7 σ).bind fun q8 => ((f_X11_lay (a + 2) 50 (x5 + (-1 : Int32)) q8 σ).bind fun q9 => (c_X6_worth_144 (c_X6_worth_6 a n) a x1 x2 x3 x4 (x5 + (-1 : Int32)) x6 q9)))))) else (if q3 < 0 then ((f_X6_named ((-1 : Int32) - q3) x1 x2 x3 x4 σ).bind fun q13 => (c_X6_worth_64 (c_X6_worth_6 a n) a x1 x2 x3 x4 (x5 + (1 : Int32)) x6 (x5 + (1 : Int32)) q13 σ)) else (c_X6_worth_64 (c_X6_worth_6 a n) a x1 x2 x3 x4 (x5 + (1 : Int32)) x6 (x5 + (1 : Int32)) q3 σ)))))
set_option maxHeartbeats 4000000 in
theorem okc_X6_worth_6 {L : Nat} {a : Nat} {R : Int32 × Sg} (ha : P6 a) {n : Nat} {x1 : Int32} {x2 : Int32} {x3 : Int32} {x4 : Int32} {x5 : Int32} {x6 : Int32} {σ : Sg} {pl : mLoc} (h : c_X6_worth_6 a n x1 x2 x3 x4 x5 x6 σ = some R) (hl : mlf [some (.ref a), some (.int x1), some (.int x2), some (.int x3), some (.int x4), some (.int x5), some (.int x6), none] pl) : mAt 1 34 (some (.int R.1), (mSh, L, R.2)) 6 pl [] (mSh, L, σ) 0 0 := by
  induction n generalizing x1 x2 x3 x4 x5 x6 σ pl with
  | zero =>
    rw [c_X6_worth_6.eq_1] at h
    cases h
  | succ n ih =>
    refine mAt.less hl ?_
    rw [c_X6_worth_6.eq_2] at h
    refine mAt.blk bk_X6_worth_6 ck_X6_worth_6 ?_
    refine q_iload rfl ?_
    refine q_aload_n rfl ?_
    refine q_getI (ha).1 rfl ?_
    refine q_ic_ge (fun c1 => ?_) (fun c1 => ?_)
    · rw [if_pos c1] at h
      refine mAt.blk bk_X6_worth_150 ck_X6_worth_150 ?_
      refine q_aload_n rfl ?_
      refine q_getR (ha).1 rfl rfl ?_
      refine q_iload rfl ?_
      obtain ⟨q2, e2, h⟩ := mbind h
      refine q_sI2 mcap_0 rfl rfl rfl rfl (by decide) (ok_X11_pick (mrd (ha).2.2) e2) ?_
      have h := Option.some.inj h
      subst h
      exact q_iretI mcap_0 rfl rfl
    · rw [if_neg c1] at h
      refine q_aload_n rfl ?_
      refine q_getR (ha).1 rfl rfl ?_
      refine q_iload rfl ?_
      obtain ⟨q3, e3, h⟩ := mbind h
      refine q_sI2 mcap_0 rfl rfl rfl rfl (by decide) (ok_X11_pick (mrd (ha).2.1) e3) ?_
      refine q_istore rfl rfl ?_
      refine q_iload rfl ?_
      refine q_bipush ?_
      refine q_ic_lt (fun c4 => ?_) (fun c4 => ?_)
      · rw [if_pos c4] at h
        refine mAt.blk bk_X6_worth_70 ck_X6_worth_70 ?_
        refine q_iload rfl ?_
        refine q_bipush ?_
        refine q_ic_ne (fun c5 => ?_) (fun c5 => ?_)
        · rw [if_pos c5] at h
          refine q_aload_n rfl ?_
          refine q_getR (ha).1 rfl rfl ?_
          refine q_iload rfl ?_
          refine q_aload_n rfl ?_
          refine q_getR (ha).1 rfl rfl ?_
          refine q_iload rfl ?_
          obtain ⟨q10, e10, h⟩ := mbind h
          refine q_sI2 mcap_0 rfl rfl rfl rfl (by decide) (ok_X11_pick (mrd (ha).2.2) e10) ?_
          refine q_if_ne (fun c11 => ?_) (fun c11 => ?_)
          · rw [if_pos c11] at h
            refine q_iconst ?_
            refine q_goto ?_
            exact okc_X6_worth_100 ha (fun _ _ _ _ _ _ _ _ e hl => ih  e hl) h ⟨rfl, rfl, rfl, rfl, rfl, rfl, rfl, trivial⟩
          · rw [if_neg c11] at h
            refine mAt.blk bk_X6_worth_99 ck_X6_worth_99 ?_
            refine q_iconst ?_
            exact okc_X6_worth_100 ha (fun _ _ _ _ _ _ _ _ e hl => ih  e hl) h ⟨rfl, rfl, rfl, rfl, rfl, rfl, rfl, trivial⟩
        · rw [if_neg c5] at h
          refine mAt.blk bk_X6_worth_106 ck_X6_worth_106 ?_
          refine q_iinc rfl rfl ?_
          refine q_aload_n rfl ?_
          refine q_getR (ha).1 rfl rfl ?_
          refine q_iload rfl ?_
          refine q_iload rfl ?_
          refine q_ineg ?_
          refine q_aload_n rfl ?_
          refine q_getR (ha).1 rfl rfl ?_
          refine q_iload rfl ?_
          obtain ⟨q6, e6, h⟩ := mbind h
          refine q_sI2 mcap_0 rfl rfl rfl rfl (by decide) (ok_X11_pick (mrd (ha).2.2) e6) ?_
          refine q_aload_n rfl ?_
          refine q_getR (ha).1 rfl rfl ?_
          refine q_iload rfl ?_
          refine q_iconst ?_
          refine q_iadd ?_
          obtain ⟨q7, e7, h⟩ := mbind h
          refine q_sI2 mcap_0 rfl rfl rfl rfl (by decide) (ok_X11_pick (mrd (ha).2.2) e7) ?_
          obtain ⟨q8, e8, h⟩ := mbind h
          refine q_sI3 mcap_0 rfl rfl rfl rfl (by decide) (ok_X6_joined  e8) ?_
          obtain ⟨q9, e9, h⟩ := mbind h
          refine q_sV3 mcap_0 rfl rfl rfl rfl (by decide) (ok_X11_lay (ha).2.2 e9) ?_
          exact okc_X6_worth_144 ha (fun _ _ _ _ _ _ _ _ e hl => ih  e hl) h ⟨rfl, rfl, rfl, rfl, rfl, rfl, rfl, trivial⟩
      · rw [if_neg c4] at h
        refine q_iinc rfl rfl ?_
        refine q_aload_n rfl ?_
        refine q_getR (ha).1 rfl rfl ?_
        refine q_iload rfl ?_
        refine q_iload rfl ?_
        refine q_if_lt (fun c12 => ?_) (fun c12 => ?_)
        · rw [if_pos c12] at h
          refine mAt.blk bk_X6_worth_52 ck_X6_worth_52 ?_
          refine q_iconst ?_
          refine q_iload rfl ?_
          refine q_isub ?_
          refine q_iload_n rfl ?_
          refine q_iload_n rfl ?_
          refine q_iload_n rfl ?_
          refine q_iload rfl ?_
          obtain ⟨q13, e13, h⟩ := mbind h
          refine q_sI5 mcap_0 rfl rfl rfl rfl (by decide) (ok_X6_named  e13) ?_
          exact okc_X6_worth_64 ha (fun _ _ _ _ _ _ _ _ e hl => ih  e hl) h ⟨rfl, rfl, rfl, rfl, rfl, rfl, rfl, trivial⟩
        · rw [if_neg c12] at h
          refine q_iload rfl ?_
          refine q_goto ?_
          exact okc_X6_worth_64 ha (fun _ _ _ _ _ _ _ _ e hl => ih  e hl) h ⟨rfl, rfl, rfl, rfl, rfl, rfl, rfl, trivial⟩
def f_X6_worth (a : Nat) (p0 : Int32) (p1 : Int32) (p2 : Int32) (p3 : Int32) (σ : Sg) : Option (Int32 × Sg) := (c_X6_worth_6  a 1000 p0 p1 p2 p3 (-1 : Int32) (0 : Int32) σ)
set_option maxHeartbeats 4000000 in
theorem ok_X6_worth {L : Nat} {a : Nat} {p0 : Int32} {p1 : Int32} {p2 : Int32} {p3 : Int32} {σ : Sg} {R : Int32 × Sg} (ha : P6 a) (h : f_X6_worth a p0 p1 p2 p3 σ = some R) : mEv 1 34 [.ref a, .int p0, .int p1, .int p2, .int p3] (mSh, L, σ) (some (.int R.1)) (mSh, L, R.2) := by
  refine mEv.of (by decide) rfl rfl ?_
  unfold f_X6_worth at h
  refine mAt.blk bk_X6_worth_0 ck_X6_worth_0 ?_
  refine q_iconst ?_
  refine q_istore rfl rfl ?_
  refine q_iconst ?_
  refine q_istore rfl rfl ?_
  exact okc_X6_worth_6 ha h ⟨rfl, rfl, rfl, rfl, rfl, rfl, rfl, trivial⟩
def bk_X7_copyFrom_0 : List mI := [(.aload_n 1, 1, 0, 0, 0, []), (.getfield 9, 3, 7, 0, 215, []), (.aload_n 0, 1, 0, 0, 0, []), (.getfield 9, 3, 7, 0, 215, []), (.invokestatic 30, 3, 132, 0, 702, []), (.aload_n 1, 1, 0, 0, 0, []), (.getfield 15, 3, 7, 1, 218, []), (.aload_n 0, 1, 0, 0, 0, []), (.getfield 15, 3, 7, 1, 218, []), (.invokestatic 30, 3, 132, 0, 702, []), (.aload_n 1, 1, 0, 0, 0, []), (.getfield 18, 3, 7, 2, 221, []), (.aload_n 0, 1, 0, 0, 0, []), (.getfield 18, 3, 7, 2, 221, []), (.invokestatic 30, 3, 132, 0, 702, []), (.aload_n 1, 1, 0, 0, 0, []), (.getfield 21, 3, 7, 3, 224, []), (.aload_n 0, 1, 0, 0, 0, []), (.getfield 21, 3, 7, 3, 224, []), (.invokestatic 30, 3, 132, 0, 702, []), (.aload_n 1, 1, 0, 0, 0, []), (.getfield 24, 3, 7, 4, 227, []), (.aload_n 0, 1, 0, 0, 0, []), (.getfield 24, 3, 7, 4, 227, []), (.invokestatic 30, 3, 132, 0, 702, []), (.aload_n 1, 1, 0, 0, 0, []), (.getfield 27, 3, 7, 5, 229, []), (.aload_n 0, 1, 0, 0, 0, []), (.getfield 27, 3, 7, 5, 229, []), (.invokestatic 30, 3, 132, 0, 702, []), (.aload_n 0, 1, 0, 0, 0, []), (.aload_n 1, 1, 0, 0, 0, []), (.getfield 34, 3, 7, 6, 231, []), (.putfield 34, 3, 7, 6, 231, []), (.return_, 1, 0, 0, 0, [])]
theorem ck_X7_copyFrom_0 : mChk 38 0 bk_X7_copyFrom_0 = true := by decide +kernel
def f_X7_copyFrom (a r0 : Nat) (σ : Sg) : Option (Sg) := ((f_X11_copyRow (r0 + 1) 10 (a + 1) 10 σ).bind fun q1 => ((f_X11_copyRow (r0 + 2) 10 (a + 2) 10 q1).bind fun q2 => ((f_X11_copyRow (r0 + 3) 10 (a + 3) 10 q2).bind fun q3 => ((f_X11_copyRow (r0 + 4) 10 (a + 4) 10 q3).bind fun q4 => ((f_X11_copyRow (r0 + 5) 10 (a + 5) 10 q4).bind fun q5 => ((f_X11_copyRow (r0 + 6) 10 (a + 6) 10 q5).bind fun q6 => (some (mup q6 a 6 (q6 r0 6)))))))))
set_option maxHeartbeats 4000000 in
theorem ok_X7_copyFrom {L : Nat} {a r0 : Nat} {σ : Sg} {R : Sg} (ha : P7 a) (hr0 : P7 r0) (h : f_X7_copyFrom a r0 σ = some R) : mEv 2 38 [.ref a, .ref r0] (mSh, L, σ) none (mSh, L, R) := by
  refine mEv.of (by decide) rfl rfl ?_
  unfold f_X7_copyFrom at h
  refine mAt.blk bk_X7_copyFrom_0 ck_X7_copyFrom_0 ?_
  refine q_aload_n rfl ?_
  refine q_getR (hr0).1 rfl rfl ?_
  refine q_aload_n rfl ?_
  refine q_getR (ha).1 rfl rfl ?_
  obtain ⟨q1, e1, h⟩ := mbind h
  refine q_sV2 mcap_0 rfl rfl rfl rfl (by decide) (ok_X11_copyRow (hr0).2.1 (ha).2.1 e1) ?_
  refine q_aload_n rfl ?_
  refine q_getR (hr0).1 rfl rfl ?_
  refine q_aload_n rfl ?_
  refine q_getR (ha).1 rfl rfl ?_
  obtain ⟨q2, e2, h⟩ := mbind h
  refine q_sV2 mcap_0 rfl rfl rfl rfl (by decide) (ok_X11_copyRow (hr0).2.2.1 (ha).2.2.1 e2) ?_
  refine q_aload_n rfl ?_
  refine q_getR (hr0).1 rfl rfl ?_
  refine q_aload_n rfl ?_
  refine q_getR (ha).1 rfl rfl ?_
  obtain ⟨q3, e3, h⟩ := mbind h
  refine q_sV2 mcap_0 rfl rfl rfl rfl (by decide) (ok_X11_copyRow (hr0).2.2.2.1 (ha).2.2.2.1 e3) ?_
  refine q_aload_n rfl ?_
  refine q_getR (hr0).1 rfl rfl ?_
  refine q_aload_n rfl ?_
  refine q_getR (ha).1 rfl rfl ?_
  obtain ⟨q4, e4, h⟩ := mbind h
  refine q_sV2 mcap_0 rfl rfl rfl rfl (by decide) (ok_X11_copyRow (hr0).2.2.2.2.1 (ha).2.2.2.2.1 e4) ?_
  refine q_aload_n rfl ?_
  refine q_getR (hr0).1 rfl rfl ?_
  refine q_aload_n rfl ?_
  refine q_getR (ha).1 rfl rfl ?_
  obtain ⟨q5, e5, h⟩ := mbind h
  refine q_sV2 mcap_0 rfl rfl rfl rfl (by decide) (ok_X11_copyRow (hr0).2.2.2.2.2.1 (ha).2.2.2.2.2.1 e5) ?_
  refine q_aload_n rfl ?_
  refine q_getR (hr0).1 rfl rfl ?_
  refine q_aload_n rfl ?_
  refine q_getR (ha).1 rfl rfl ?_
  obtain ⟨q6, e6, h⟩ := mbind h
  refine q_sV2 mcap_0 rfl rfl rfl rfl (by decide) (ok_X11_copyRow (hr0).2.2.2.2.2.2 (ha).2.2.2.2.2.2 e6) ?_
  refine q_aload_n rfl ?_
  refine q_aload_n rfl ?_
  refine q_getI (hr0).1 rfl ?_
  refine q_putI (ha).1 rfl ?_
  have h := Option.some.inj h
  subst h
  exact q_vret mcap_0 rfl rfl
def bk_X7_has_0 : List mI := [(.iload_n 1, 1, 0, 0, 0, []), (.ifCond .lt 15, 3, 16, 0, 0, []), (.iload_n 1, 1, 0, 0, 0, []), (.aload_n 0, 1, 0, 0, 0, []), (.getfield 34, 3, 7, 6, 231, []), (.if_icmp .ge 7, 3, 16, 0, 0, []), (.iconst 1, 1, 0, 0, 0, [(1, 0)]), (.goto 4, 3, 17, 0, 0, [])]
theorem ck_X7_has_0 : mChk 39 0 bk_X7_has_0 = true := by decide +kernel
def bk_X7_has_16 : List mI := [(.iconst 0, 1, 0, 0, 0, [(0, 0)])]
theorem ck_X7_has_16 : mChk 39 16 bk_X7_has_16 = true := by decide +kernel
def bk_X7_has_17 : List mI := [(.ireturn, 1, 0, 0, 0, [])]
theorem ck_X7_has_17 : mChk 39 17 bk_X7_has_17 = true := by decide +kernel
def f_X7_has (a : Nat) (p0 : Int32) (σ : Sg) : Option (Int32) := (if p0 < 0 then (some (0 : Int32)) else (if (σ a 6) ≤ p0 then (some (0 : Int32)) else (some (1 : Int32))))
set_option maxHeartbeats 4000000 in
theorem ok_X7_has {L : Nat} {a : Nat} {p0 : Int32} {σ : Sg} {R : Int32} (ha : P7 a) (h : f_X7_has a p0 σ = some R) : mEv 0 39 [.ref a, .int p0] (mSh, L, σ) (some (.int R)) (mSh, L, σ) := by
  refine mEv.of (by decide) rfl rfl ?_
  unfold f_X7_has at h
  refine mAt.blk bk_X7_has_0 ck_X7_has_0 ?_
  refine q_iload_n rfl ?_
  refine q_if_lt (fun c1 => ?_) (fun c1 => ?_)
  · rw [if_pos c1] at h
    refine mAt.blk bk_X7_has_16 ck_X7_has_16 ?_
    refine q_iconst ?_
    refine mAt.blk bk_X7_has_17 ck_X7_has_17 ?_
    have h := Option.some.inj h
    subst h
    exact q_iretZ mcap_0 rfl (by decide) rfl
  · rw [if_neg c1] at h
    refine q_iload_n rfl ?_
    refine q_aload_n rfl ?_
    refine q_getI (ha).1 rfl ?_
    refine q_ic_ge (fun c2 => ?_) (fun c2 => ?_)
    · rw [if_pos c2] at h
      refine mAt.blk bk_X7_has_16 ck_X7_has_16 ?_
      refine q_iconst ?_
      refine mAt.blk bk_X7_has_17 ck_X7_has_17 ?_
      have h := Option.some.inj h
      subst h
      exact q_iretZ mcap_0 rfl (by decide) rfl
    · rw [if_neg c2] at h
      refine q_iconst ?_
      refine q_goto ?_
      refine mAt.blk bk_X7_has_17 ck_X7_has_17 ?_
      have h := Option.some.inj h
      subst h
      exact q_iretZ mcap_0 rfl (by decide) rfl
def bk_X7_place_0 : List mI := [(.aload_n 0, 1, 0, 0, 0, []), (.getfield 18, 3, 7, 2, 221, []), (.iload_n 1, 1, 0, 0, 0, []), (.iload_n 2, 1, 0, 0, 0, []), (.invokestatic 38, 3, 131, 0, 477, []), (.aload_n 0, 1, 0, 0, 0, []), (.getfield 21, 3, 7, 3, 224, []), (.iload_n 1, 1, 0, 0, 0, []), (.iload_n 3, 1, 0, 0, 0, []), (.invokestatic 38, 3, 131, 0, 477, []), (.aload_n 0, 1, 0, 0, 0, []), (.getfield 24, 3, 7, 4, 227, []), (.iload_n 1, 1, 0, 0, 0, []), (.iload 4, 2, 0, 0, 0, []), (.invokestatic 38, 3, 131, 0, 477, []), (.return_, 1, 0, 0, 0, [])]
theorem ck_X7_place_0 : mChk 41 0 bk_X7_place_0 = true := by decide +kernel
def f_X7_place (a : Nat) (p0 : Int32) (p1 : Int32) (p2 : Int32) (p3 : Int32) (σ : Sg) : Option (Sg) := ((f_X11_lay (a + 3) 10 p0 p1 σ).bind fun q1 => ((f_X11_lay (a + 4) 10 p0 p2 q1).bind fun q2 => ((f_X11_lay (a + 5) 10 p0 p3 q2).bind fun q3 => (some q3))))
set_option maxHeartbeats 4000000 in
theorem ok_X7_place {L : Nat} {a : Nat} {p0 : Int32} {p1 : Int32} {p2 : Int32} {p3 : Int32} {σ : Sg} {R : Sg} (ha : P7 a) (h : f_X7_place a p0 p1 p2 p3 σ = some R) : mEv 1 41 [.ref a, .int p0, .int p1, .int p2, .int p3] (mSh, L, σ) none (mSh, L, R) := by
  refine mEv.of (by decide) rfl rfl ?_
  unfold f_X7_place at h
  refine mAt.blk bk_X7_place_0 ck_X7_place_0 ?_
  refine q_aload_n rfl ?_
  refine q_getR (ha).1 rfl rfl ?_
  refine q_iload_n rfl ?_
  refine q_iload_n rfl ?_
  obtain ⟨q1, e1, h⟩ := mbind h
  refine q_sV3 mcap_0 rfl rfl rfl rfl (by decide) (ok_X11_lay (ha).2.2.2.1 e1) ?_
  refine q_aload_n rfl ?_
  refine q_getR (ha).1 rfl rfl ?_
  refine q_iload_n rfl ?_
  refine q_iload_n rfl ?_
  obtain ⟨q2, e2, h⟩ := mbind h
  refine q_sV3 mcap_0 rfl rfl rfl rfl (by decide) (ok_X11_lay (ha).2.2.2.2.1 e2) ?_
  refine q_aload_n rfl ?_
  refine q_getR (ha).1 rfl rfl ?_
  refine q_iload_n rfl ?_
  refine q_iload rfl ?_
  obtain ⟨q3, e3, h⟩ := mbind h
  refine q_sV3 mcap_0 rfl rfl rfl rfl (by decide) (ok_X11_lay (ha).2.2.2.2.2.1 e3) ?_
  have h := Option.some.inj h
  subst h
  exact q_vret mcap_0 rfl rfl
def bk_X7_make_0 : List mI := [(.aload_n 0, 1, 0, 0, 0, []), (.getfield 34, 3, 7, 6, 231, []), (.istore_n 3, 1, 0, 0, 0, []), (.aload_n 0, 1, 0, 0, 0, []), (.dup, 1, 0, 0, 0, []), (.getfield 34, 3, 7, 6, 231, []), (.iconst 1, 1, 0, 0, 0, [(1, 0)]), (.iadd, 1, 0, 0, 0, []), (.putfield 34, 3, 7, 6, 231, []), (.aload_n 0, 1, 0, 0, 0, []), (.getfield 9, 3, 7, 0, 215, []), (.iload_n 3, 1, 0, 0, 0, []), (.iload_n 1, 1, 0, 0, 0, []), (.invokestatic 38, 3, 131, 0, 477, []), (.aload_n 0, 1, 0, 0, 0, []), (.getfield 15, 3, 7, 1, 218, []), (.iload_n 3, 1, 0, 0, 0, []), (.iload_n 2, 1, 0, 0, 0, []), (.invokestatic 38, 3, 131, 0, 477, []), (.aload_n 0, 1, 0, 0, 0, []), (.getfield 27, 3, 7, 5, 229, []), (.iload_n 3, 1, 0, 0, 0, []), (.iconst 0, 1, 0, 0, 0, [(0, 0)]), (.invokestatic 38, 3, 131, 0, 477, []), (.aload_n 0, 1, 0, 0, 0, []), (.iload_n 3, 1, 0, 0, 0, []), (.iconst 2, 1, 0, 0, 0, [(2, 0)]), (.iconst (-1), 1, 0, 0, 0, [((-1), 0)]), (.iconst 0, 1, 0, 0, 0, [(0, 0)]), (.invokevirtual 42, 3, 41, 0, 478, []), (.iload_n 3, 1, 0, 0, 0, []), (.ireturn, 1, 0, 0, 0, [])]
theorem ck_X7_make_0 : mChk 40 0 bk_X7_make_0 = true := by decide +kernel
def f_X7_make (a : Nat) (p0 : Int32) (p1 : Int32) (σ : Sg) : Option (Int32 × Sg) := ((f_X11_lay (a + 1) 10 (σ a 6) p0 (mup σ a 6 ((σ a 6) + (1 : Int32)))).bind fun q1 => ((f_X11_lay (a + 2) 10 (σ a 6) p1 q1).bind fun q2 => ((f_X11_lay (a + 6) 10 (σ a 6) (0 : Int32) q2).bind fun q3 => ((f_X7_place a (σ a 6) (2 : Int32) (-1 : Int32) (0 : Int32) q3).bind fun q4 => (some ((σ a 6), q4))))))
set_option maxHeartbeats 4000000 in
theorem ok_X7_make {L : Nat} {a : Nat} {p0 : Int32} {p1 : Int32} {σ : Sg} {R : Int32 × Sg} (ha : P7 a) (h : f_X7_make a p0 p1 σ = some R) : mEv 2 40 [.ref a, .int p0, .int p1] (mSh, L, σ) (some (.int R.1)) (mSh, L, R.2) := by
  refine mEv.of (by decide) rfl rfl ?_
  unfold f_X7_make at h
  refine mAt.blk bk_X7_make_0 ck_X7_make_0 ?_
  refine q_aload_n rfl ?_
  refine q_getI (ha).1 rfl ?_
  refine q_istore_n rfl rfl ?_
  refine q_aload_n rfl ?_
  refine q_dupR ?_
  refine q_getI (ha).1 rfl ?_
  refine q_iconst ?_
  refine q_iadd ?_
  refine q_putI (ha).1 rfl ?_
  refine q_aload_n rfl ?_
  refine q_getR (ha).1 rfl rfl ?_
  refine q_iload_n rfl ?_
  refine q_iload_n rfl ?_
  obtain ⟨q1, e1, h⟩ := mbind h
  refine q_sV3 mcap_0 rfl rfl rfl rfl (by decide) (ok_X11_lay (ha).2.1 e1) ?_
  refine q_aload_n rfl ?_
  refine q_getR (ha).1 rfl rfl ?_
  refine q_iload_n rfl ?_
  refine q_iload_n rfl ?_
  obtain ⟨q2, e2, h⟩ := mbind h
  refine q_sV3 mcap_0 rfl rfl rfl rfl (by decide) (ok_X11_lay (ha).2.2.1 e2) ?_
  refine q_aload_n rfl ?_
  refine q_getR (ha).1 rfl rfl ?_
  refine q_iload_n rfl ?_
  refine q_iconst ?_
  obtain ⟨q3, e3, h⟩ := mbind h
  refine q_sV3 mcap_0 rfl rfl rfl rfl (by decide) (ok_X11_lay (ha).2.2.2.2.2.2 e3) ?_
  refine q_aload_n rfl ?_
  refine q_iload_n rfl ?_
  refine q_iconst ?_
  refine q_iconst ?_
  refine q_iconst ?_
  obtain ⟨q4, e4, h⟩ := mbind h
  refine q_vV4 mcap_0 rfl rfl (ha).1 rfl (by decide) (ok_X7_place ha e4) ?_
  refine q_iload_n rfl ?_
  have h := Option.some.inj h
  subst h
  exact q_iretI mcap_0 rfl rfl
def bk_X7_wellOf_0 : List mI := [(.aload_n 0, 1, 0, 0, 0, []), (.getfield 18, 3, 7, 2, 221, []), (.iload_n 1, 1, 0, 0, 0, []), (.invokestatic 46, 3, 130, 0, 501, []), (.ifCond .ne 14, 3, 22, 0, 0, []), (.aload_n 0, 1, 0, 0, 0, []), (.getfield 21, 3, 7, 3, 224, []), (.iload_n 1, 1, 0, 0, 0, []), (.invokestatic 46, 3, 130, 0, 501, []), (.goto 4, 3, 23, 0, 0, [])]
theorem ck_X7_wellOf_0 : mChk 42 0 bk_X7_wellOf_0 = true := by decide +kernel
def bk_X7_wellOf_22 : List mI := [(.iconst (-1), 1, 0, 0, 0, [((-1), 0)])]
theorem ck_X7_wellOf_22 : mChk 42 22 bk_X7_wellOf_22 = true := by decide +kernel
def bk_X7_wellOf_23 : List mI := [(.ireturn, 1, 0, 0, 0, [])]
theorem ck_X7_wellOf_23 : mChk 42 23 bk_X7_wellOf_23 = true := by decide +kernel
def f_X7_wellOf (a : Nat) (p0 : Int32) (σ : Sg) : Option (Int32) := ((f_X11_pick (a + 3) 10 p0 σ).bind fun q1 => (if q1 = 0 then ((f_X11_pick (a + 4) 10 p0 σ).bind fun q3 => (some q3)) else (some (-1 : Int32))))
set_option maxHeartbeats 4000000 in
theorem ok_X7_wellOf {L : Nat} {a : Nat} {p0 : Int32} {σ : Sg} {R : Int32} (ha : P7 a) (h : f_X7_wellOf a p0 σ = some R) : mEv 1 42 [.ref a, .int p0] (mSh, L, σ) (some (.int R)) (mSh, L, σ) := by
  refine mEv.of (by decide) rfl rfl ?_
  unfold f_X7_wellOf at h
  refine mAt.blk bk_X7_wellOf_0 ck_X7_wellOf_0 ?_
  refine q_aload_n rfl ?_
  refine q_getR (ha).1 rfl rfl ?_
  refine q_iload_n rfl ?_
  obtain ⟨q1, e1, h⟩ := mbind h
  refine q_sI2 mcap_0 rfl rfl rfl rfl (by decide) (ok_X11_pick (mrd (ha).2.2.2.1) e1) ?_
  refine q_if_ne (fun c2 => ?_) (fun c2 => ?_)
  · rw [if_pos c2] at h
    refine q_aload_n rfl ?_
    refine q_getR (ha).1 rfl rfl ?_
    refine q_iload_n rfl ?_
    obtain ⟨q3, e3, h⟩ := mbind h
    refine q_sI2 mcap_0 rfl rfl rfl rfl (by decide) (ok_X11_pick (mrd (ha).2.2.2.2.1) e3) ?_
    refine q_goto ?_
    refine mAt.blk bk_X7_wellOf_23 ck_X7_wellOf_23 ?_
    have h := Option.some.inj h
    subst h
    exact q_iretI mcap_0 rfl rfl
  · rw [if_neg c2] at h
    refine mAt.blk bk_X7_wellOf_22 ck_X7_wellOf_22 ?_
    refine q_iconst ?_
    refine mAt.blk bk_X7_wellOf_23 ck_X7_wellOf_23 ?_
    have h := Option.some.inj h
    subst h
    exact q_iretI mcap_0 rfl rfl
