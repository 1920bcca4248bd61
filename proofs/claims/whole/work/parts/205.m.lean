def bk_X10_waitsForMore_0 : List mI := [(.aload_n 0, 1, 0, 0, 0, []), (.getfield 21, 3, 10, 1, 251, []), (.getfield 125, 3, 7, 1, 219, []), (.iload_n 1, 1, 0, 0, 0, []), (.invokestatic 79, 3, 130, 0, 502, []), (.istore_n 2, 1, 0, 0, 0, []), (.iload_n 2, 1, 0, 0, 0, []), (.iconst 3, 1, 0, 0, 0, [(3, 0)]), (.if_icmp .gt 31, 3, 45, 0, 0, []), (.aload_n 0, 1, 0, 0, 0, []), (.getfield 21, 3, 10, 1, 251, []), (.iload_n 1, 1, 0, 0, 0, []), (.iconst 0, 1, 0, 0, 0, [(0, 0)]), (.aload_n 0, 1, 0, 0, 0, []), (.getfield 21, 3, 10, 1, 251, []), (.getfield 75, 3, 7, 3, 225, []), (.iload_n 1, 1, 0, 0, 0, []), (.invokestatic 79, 3, 130, 0, 502, []), (.invokevirtual 137, 3, 44, 0, 514, []), (.iload_n 2, 1, 0, 0, 0, []), (.if_icmp .ge 7, 3, 45, 0, 0, []), (.iconst 1, 1, 0, 0, 0, [(1, 0)]), (.goto 4, 3, 46, 0, 0, [])]
theorem ck_X10_waitsForMore_0 : mChk 78 0 bk_X10_waitsForMore_0 = true := by decide +kernel
def bk_X10_waitsForMore_45 : List mI := [(.iconst 0, 1, 0, 0, 0, [(0, 0)])]
theorem ck_X10_waitsForMore_45 : mChk 78 45 bk_X10_waitsForMore_45 = true := by decide +kernel
def bk_X10_waitsForMore_46 : List mI := [(.ireturn, 1, 0, 0, 0, [])]
theorem ck_X10_waitsForMore_46 : mChk 78 46 bk_X10_waitsForMore_46 = true := by decide +kernel
def f_X10_waitsForMore (a a_sl a_tk : Nat) (p0 : Int32) (σ : Sg) : Option (Int32) := ((f_X11_pick ((a + 6) + 2) 10 p0 σ).bind fun q1 => (if (3 : Int32) < q1 then (some (0 : Int32)) else ((f_X11_pick ((a + 6) + 4) 10 p0 σ).bind fun q3 => ((f_X7_others (a + 6) p0 (0 : Int32) q3 σ).bind fun q4 => (if q1 ≤ q4 then (some (0 : Int32)) else (some (1 : Int32)))))))
set_option maxHeartbeats 4000000 in
theorem ok_X10_waitsForMore {L : Nat} {a a_sl a_tk : Nat} {p0 : Int32} {σ : Sg} {R : Int32} (ha : P10 a a_sl a_tk) (h : f_X10_waitsForMore a a_sl a_tk p0 σ = some R) : mEv 2 78 [.ref a, .int p0] (mSh, L, σ) (some (.int R)) (mSh, L, σ) := by
  refine mEv.of (by decide) rfl rfl ?_
  unfold f_X10_waitsForMore at h
  refine mAt.blk bk_X10_waitsForMore_0 ck_X10_waitsForMore_0 ?_
  refine q_aload_n rfl ?_
  refine q_getR (ha).1 rfl rfl ?_
  refine q_getR ((ha).2.2.1).1 rfl rfl ?_
  refine q_iload_n rfl ?_
  obtain ⟨q1, e1, h⟩ := mbind h
  refine q_sI2 mcap_0 rfl rfl rfl rfl (by decide) (ok_X11_pick (mrd ((ha).2.2.1).2.2.1) e1) ?_
  refine q_istore_n rfl rfl ?_
  refine q_iload_n rfl ?_
  refine q_iconst ?_
  refine q_ic_gt (fun c2 => ?_) (fun c2 => ?_)
  · rw [if_pos c2] at h
    refine mAt.blk bk_X10_waitsForMore_45 ck_X10_waitsForMore_45 ?_
    refine q_iconst ?_
    refine mAt.blk bk_X10_waitsForMore_46 ck_X10_waitsForMore_46 ?_
    have h := Option.some.inj h
    subst h
    exact q_iretZ mcap_0 rfl (by decide) rfl
  · rw [if_neg c2] at h
    refine q_aload_n rfl ?_
    refine q_getR (ha).1 rfl rfl ?_
    refine q_iload_n rfl ?_
    refine q_iconst ?_
    refine q_aload_n rfl ?_
    refine q_getR (ha).1 rfl rfl ?_
    refine q_getR ((ha).2.2.1).1 rfl rfl ?_
    refine q_iload_n rfl ?_
    obtain ⟨q3, e3, h⟩ := mbind h
    refine q_sI2 mcap_0 rfl rfl rfl rfl (by decide) (ok_X11_pick (mrd ((ha).2.2.1).2.2.2.2.1) e3) ?_
    obtain ⟨q4, e4, h⟩ := mbind h
    refine q_vI3 mcap_0 rfl rfl ((ha).2.2.1).1 rfl (by decide) (ok_X7_others (ha).2.2.1 e4) ?_
    refine q_iload_n rfl ?_
    refine q_ic_ge (fun c5 => ?_) (fun c5 => ?_)
    · rw [if_pos c5] at h
      refine mAt.blk bk_X10_waitsForMore_45 ck_X10_waitsForMore_45 ?_
      refine q_iconst ?_
      refine mAt.blk bk_X10_waitsForMore_46 ck_X10_waitsForMore_46 ?_
      have h := Option.some.inj h
      subst h
      exact q_iretZ mcap_0 rfl (by decide) rfl
    · rw [if_neg c5] at h
      refine q_iconst ?_
      refine q_goto ?_
      refine mAt.blk bk_X10_waitsForMore_46 ck_X10_waitsForMore_46 ?_
      have h := Option.some.inj h
      subst h
      exact q_iretZ mcap_0 rfl (by decide) rfl
def bk_X10_stays_0 : List mI := [(.aload_n 0, 1, 0, 0, 0, []), (.getfield 21, 3, 10, 1, 251, []), (.getfield 106, 3, 7, 0, 216, []), (.iload_n 1, 1, 0, 0, 0, []), (.invokestatic 79, 3, 130, 0, 502, []), (.tableswitch 86 2 6 #[33, 39, 86, 86, 62], 33, 97, 0, 0, [(2, 44), (3, 50), (4, 97), (5, 97), (6, 73)])]
theorem ck_X10_stays_0 : mChk 77 0 bk_X10_stays_0 = true := by decide +kernel
def bk_X10_stays_44 : List mI := [(.aload_n 0, 1, 0, 0, 0, []), (.iload_n 1, 1, 0, 0, 0, []), (.invokevirtual 148, 3, 78, 0, 553, []), (.ireturn, 1, 0, 0, 0, [])]
theorem ck_X10_stays_44 : mChk 77 44 bk_X10_stays_44 = true := by decide +kernel
def bk_X10_stays_50 : List mI := [(.aload_n 0, 1, 0, 0, 0, []), (.invokevirtual 141, 3, 74, 0, 525, []), (.iconst 1, 1, 0, 0, 0, [(1, 0)]), (.if_icmp .le 12, 3, 67, 0, 0, []), (.aload_n 0, 1, 0, 0, 0, []), (.invokevirtual 141, 3, 74, 0, 525, []), (.bipush 11, 2, 0, 0, 0, [(11, 0)]), (.if_icmp .ne 7, 3, 71, 0, 0, [])]
theorem ck_X10_stays_50 : mChk 77 50 bk_X10_stays_50 = true := by decide +kernel
def bk_X10_stays_67 : List mI := [(.iconst 1, 1, 0, 0, 0, [(1, 0)]), (.goto 4, 3, 72, 0, 0, [])]
theorem ck_X10_stays_67 : mChk 77 67 bk_X10_stays_67 = true := by decide +kernel
def bk_X10_stays_71 : List mI := [(.iconst 0, 1, 0, 0, 0, [(0, 0)])]
theorem ck_X10_stays_71 : mChk 77 71 bk_X10_stays_71 = true := by decide +kernel
def bk_X10_stays_72 : List mI := [(.ireturn, 1, 0, 0, 0, [])]
theorem ck_X10_stays_72 : mChk 77 72 bk_X10_stays_72 = true := by decide +kernel
def bk_X10_stays_73 : List mI := [(.aload_n 0, 1, 0, 0, 0, []), (.iload_n 1, 1, 0, 0, 0, []), (.invokevirtual 148, 3, 78, 0, 553, []), (.ifCond .ne 13, 3, 91, 0, 0, []), (.aload_n 0, 1, 0, 0, 0, []), (.getfield 39, 3, 10, 4, 255, []), (.bipush 7, 2, 0, 0, 0, [(7, 0)]), (.irem, 1, 0, 0, 0, []), (.ifCond .ne 7, 3, 95, 0, 0, [])]
theorem ck_X10_stays_73 : mChk 77 73 bk_X10_stays_73 = true := by decide +kernel
def bk_X10_stays_91 : List mI := [(.iconst 1, 1, 0, 0, 0, [(1, 0)]), (.goto 4, 3, 96, 0, 0, [])]
theorem ck_X10_stays_91 : mChk 77 91 bk_X10_stays_91 = true := by decide +kernel
def bk_X10_stays_95 : List mI := [(.iconst 0, 1, 0, 0, 0, [(0, 0)])]
theorem ck_X10_stays_95 : mChk 77 95 bk_X10_stays_95 = true := by decide +kernel
def bk_X10_stays_96 : List mI := [(.ireturn, 1, 0, 0, 0, [])]
theorem ck_X10_stays_96 : mChk 77 96 bk_X10_stays_96 = true := by decide +kernel
def bk_X10_stays_97 : List mI := [(.iconst 0, 1, 0, 0, 0, [(0, 0)]), (.ireturn, 1, 0, 0, 0, [])]
theorem ck_X10_stays_97 : mChk 77 97 bk_X10_stays_97 = true := by decide +kernel
def c_X10_stays_67 (a a_sl a_tk : Nat) (σ : Sg) : Option (Int32) := (some (1 : Int32))
set_option maxHeartbeats 4000000 in
theorem okc_X10_stays_67 {L : Nat} {a a_sl a_tk : Nat} {σ : Sg} {R : Int32} (ha : P10 a a_sl a_tk) {pl : mLoc} (h : c_X10_stays_67 a a_sl a_tk σ = some R) (hl : mlf [none, none] pl) : mAt 3 77 (some (.int R), (mSh, L, σ)) 67 pl [] (mSh, L, σ) 0 0 := by
  refine mAt.less hl ?_
  unfold c_X10_stays_67 at h
  refine mAt.blk bk_X10_stays_67 ck_X10_stays_67 ?_
  refine q_iconst ?_
  refine q_goto ?_
  refine mAt.blk bk_X10_stays_72 ck_X10_stays_72 ?_
  have h := Option.some.inj h
  subst h
  exact q_iretZ mcap_0 rfl (by decide) rfl
def c_X10_stays_91 (a a_sl a_tk : Nat) (σ : Sg) : Option (Int32) := (some (1 : Int32))
set_option maxHeartbeats 4000000 in
theorem okc_X10_stays_91 {L : Nat} {a a_sl a_tk : Nat} {σ : Sg} {R : Int32} (ha : P10 a a_sl a_tk) {pl : mLoc} (h : c_X10_stays_91 a a_sl a_tk σ = some R) (hl : mlf [none, none] pl) : mAt 3 77 (some (.int R), (mSh, L, σ)) 91 pl [] (mSh, L, σ) 0 0 := by
  refine mAt.less hl ?_
  unfold c_X10_stays_91 at h
  refine mAt.blk bk_X10_stays_91 ck_X10_stays_91 ?_
  refine q_iconst ?_
  refine q_goto ?_
  refine mAt.blk bk_X10_stays_96 ck_X10_stays_96 ?_
  have h := Option.some.inj h
  subst h
  exact q_iretZ mcap_0 rfl (by decide) rfl
def f_X10_stays (a a_sl a_tk : Nat) (p0 : Int32) (σ : Sg) : Option (Int32) := ((f_X11_pick ((a + 6) + 1) 10 p0 σ).bind fun q1 => (if q1 = (2 : Int32) then ((f_X10_waitsForMore a a_sl a_tk p0 σ).bind fun q2 => (if q2 = 0 ∨ q2 = 1 then some q2 else none)) else (if q1 = (3 : Int32) then ((f_X10_month a a_sl a_tk σ).bind fun q4 => (if q4 ≤ (1 : Int32) then (c_X10_stays_67  a a_sl a_tk σ ) else ((f_X10_month a a_sl a_tk σ).bind fun q6 => (if q6 = (11 : Int32) then (c_X10_stays_67  a a_sl a_tk σ ) else (some (0 : Int32)))))) else (if q1 = (4 : Int32) then (some (0 : Int32)) else (if q1 = (5 : Int32) then (some (0 : Int32)) else (if q1 = (6 : Int32) then ((f_X10_waitsForMore a a_sl a_tk p0 σ).bind fun q8 => (if q8 = 0 then (if ((σ a 4) - (σ a 4) / (7 : Int32) * (7 : Int32)) = 0 then (c_X10_stays_91  a a_sl a_tk σ ) else (some (0 : Int32))) else (c_X10_stays_91  a a_sl a_tk σ ))) else (some (0 : Int32))))))))
set_option maxHeartbeats 4000000 in
theorem ok_X10_stays {L : Nat} {a a_sl a_tk : Nat} {p0 : Int32} {σ : Sg} {R : Int32} (ha : P10 a a_sl a_tk) (h : f_X10_stays a a_sl a_tk p0 σ = some R) : mEv 3 77 [.ref a, .int p0] (mSh, L, σ) (some (.int R)) (mSh, L, σ) := by
  refine mEv.of (by decide) rfl rfl ?_
  unfold f_X10_stays at h
  refine mAt.blk bk_X10_stays_0 ck_X10_stays_0 ?_
  refine q_aload_n rfl ?_
  refine q_getR (ha).1 rfl rfl ?_
  refine q_getR ((ha).2.2.1).1 rfl rfl ?_
  refine q_iload_n rfl ?_
  obtain ⟨q1, e1, h⟩ := mbind h
  refine q_sI2 mcap_0 rfl rfl rfl rfl (by decide) (ok_X11_pick (mrd ((ha).2.2.1).2.1) e1) ?_
  refine q_tsw ?_
  refine ⟨fun c15 => ?_, fun c15 => ?_⟩
  · rw [if_pos c15] at h
    refine mAt.blk bk_X10_stays_44 ck_X10_stays_44 ?_
    refine q_aload_n rfl ?_
    refine q_iload_n rfl ?_
    obtain ⟨q2, e2, h⟩ := mbind h
    refine q_vI1 mcap_0 rfl rfl (ha).1 rfl (by decide) (ok_X10_waitsForMore ha e2) ?_
    obtain ⟨c3, h⟩ := msome h
    have h := Option.some.inj h
    subst h
    exact q_iretZ mcap_0 rfl c3 rfl
  · rw [if_neg c15] at h
    refine ⟨fun c14 => ?_, fun c14 => ?_⟩
    · rw [if_pos c14] at h
      refine mAt.blk bk_X10_stays_50 ck_X10_stays_50 ?_
      refine q_aload_n rfl ?_
      obtain ⟨q4, e4, h⟩ := mbind h
      refine q_vI0 mcap_0 rfl rfl (ha).1 rfl (by decide) (ok_X10_month ha e4) ?_
      refine q_iconst ?_
      refine q_ic_le (fun c5 => ?_) (fun c5 => ?_)
      · rw [if_pos c5] at h
        exact okc_X10_stays_67 ha h trivial
      · rw [if_neg c5] at h
        refine q_aload_n rfl ?_
        obtain ⟨q6, e6, h⟩ := mbind h
        refine q_vI0 mcap_0 rfl rfl (ha).1 rfl (by decide) (ok_X10_month ha e6) ?_
        refine q_bipush ?_
        refine q_ic_ne (fun c7 => ?_) (fun c7 => ?_)
        · rw [if_pos c7] at h
          exact okc_X10_stays_67 ha h trivial
        · rw [if_neg c7] at h
          refine mAt.blk bk_X10_stays_71 ck_X10_stays_71 ?_
          refine q_iconst ?_
          refine mAt.blk bk_X10_stays_72 ck_X10_stays_72 ?_
          have h := Option.some.inj h
          subst h
          exact q_iretZ mcap_0 rfl (by decide) rfl
    · rw [if_neg c14] at h
      refine ⟨fun c13 => ?_, fun c13 => ?_⟩
      · rw [if_pos c13] at h
        refine mAt.blk bk_X10_stays_97 ck_X10_stays_97 ?_
        refine q_iconst ?_
        have h := Option.some.inj h
        subst h
        exact q_iretZ mcap_0 rfl (by decide) rfl
      · rw [if_neg c13] at h
        refine ⟨fun c12 => ?_, fun c12 => ?_⟩
        · rw [if_pos c12] at h
          refine mAt.blk bk_X10_stays_97 ck_X10_stays_97 ?_
          refine q_iconst ?_
          have h := Option.some.inj h
          subst h
          exact q_iretZ mcap_0 rfl (by decide) rfl
        · rw [if_neg c12] at h
          refine ⟨fun c11 => ?_, fun c11 => ?_⟩
          · rw [if_pos c11] at h
            refine mAt.blk bk_X10_stays_73 ck_X10_stays_73 ?_
            refine q_aload_n rfl ?_
            refine q_iload_n rfl ?_
            obtain ⟨q8, e8, h⟩ := mbind h
            refine q_vI1 mcap_0 rfl rfl (ha).1 rfl (by decide) (ok_X10_waitsForMore ha e8) ?_
            refine q_if_ne (fun c9 => ?_) (fun c9 => ?_)
            · rw [if_pos c9] at h
              refine q_aload_n rfl ?_
              refine q_getI (ha).1 rfl ?_
              refine q_bipush ?_
              refine q_irem (by decide) ?_
              refine q_if_ne (fun c10 => ?_) (fun c10 => ?_)
              · rw [if_pos c10] at h
                exact okc_X10_stays_91 ha h trivial
              · rw [if_neg c10] at h
                refine mAt.blk bk_X10_stays_95 ck_X10_stays_95 ?_
                refine q_iconst ?_
                refine mAt.blk bk_X10_stays_96 ck_X10_stays_96 ?_
                have h := Option.some.inj h
                subst h
                exact q_iretZ mcap_0 rfl (by decide) rfl
            · rw [if_neg c9] at h
              exact okc_X10_stays_91 ha h trivial
          · rw [if_neg c11] at h
            refine mAt.blk bk_X10_stays_97 ck_X10_stays_97 ?_
            refine q_iconst ?_
            have h := Option.some.inj h
            subst h
            exact q_iretZ mcap_0 rfl (by decide) rfl
def bk_X10_goDown_0 : List mI := [(.aload_n 0, 1, 0, 0, 0, []), (.getfield 12, 3, 10, 0, 249, []), (.aload_n 0, 1, 0, 0, 0, []), (.getfield 21, 3, 10, 1, 251, []), (.iload_n 1, 1, 0, 0, 0, []), (.invokevirtual 57, 3, 42, 0, 497, []), (.invokevirtual 61, 3, 58, 0, 503, []), (.istore_n 2, 1, 0, 0, 0, []), (.iload_n 2, 1, 0, 0, 0, []), (.ifCond .lt 26, 3, 43, 0, 0, []), (.aload_n 0, 1, 0, 0, 0, []), (.iload_n 1, 1, 0, 0, 0, []), (.invokevirtual 64, 3, 77, 0, 549, []), (.ifCond .ne 18, 3, 43, 0, 0, []), (.aload_n 0, 1, 0, 0, 0, []), (.getfield 21, 3, 10, 1, 251, []), (.iload_n 1, 1, 0, 0, 0, []), (.iconst 1, 1, 0, 0, 0, [(1, 0)]), (.iload_n 2, 1, 0, 0, 0, []), (.aload_n 0, 1, 0, 0, 0, []), (.iload_n 1, 1, 0, 0, 0, []), (.invokevirtual 68, 3, 75, 0, 504, []), (.invokevirtual 71, 3, 41, 0, 665, [])]
theorem ck_X10_goDown_0 : mChk 70 0 bk_X10_goDown_0 = true := by decide +kernel
def bk_X10_goDown_43 : List mI := [(.return_, 1, 0, 0, 0, [])]
theorem ck_X10_goDown_43 : mChk 70 43 bk_X10_goDown_43 = true := by decide +kernel
def f_X10_goDown (a a_sl a_tk : Nat) (p0 : Int32) (σ : Sg) : Option (Sg) := ((f_X7_wellOf (a + 6) p0 σ).bind fun q1 => ((f_X9_leadsTo (a + 1) q1 σ).bind fun q2 => (if q2 < 0 then (some σ) else ((f_X10_stays a a_sl a_tk p0 σ).bind fun q4 => (if q4 = 0 then ((f_X10_lasts a a_sl a_tk p0 σ).bind fun q6 => ((f_X7_place (a + 6) p0 (1 : Int32) q2 q6.1 q6.2).bind fun q7 => (some q7))) else (some σ))))))
set_option maxHeartbeats 4000000 in
theorem ok_X10_goDown {L : Nat} {a a_sl a_tk : Nat} {p0 : Int32} {σ : Sg} {R : Sg} (ha : P10 a a_sl a_tk) (h : f_X10_goDown a a_sl a_tk p0 σ = some R) : mEv 4 70 [.ref a, .int p0] (mSh, L, σ) none (mSh, L, R) := by
  refine mEv.of (by decide) rfl rfl ?_
  unfold f_X10_goDown at h
  refine mAt.blk bk_X10_goDown_0 ck_X10_goDown_0 ?_
  refine q_aload_n rfl ?_
  refine q_getR (ha).1 rfl rfl ?_
  refine q_aload_n rfl ?_
  refine q_getR (ha).1 rfl rfl ?_
  refine q_iload_n rfl ?_
  obtain ⟨q1, e1, h⟩ := mbind h
  refine q_vI1 mcap_0 rfl rfl ((ha).2.2.1).1 rfl (by decide) (ok_X7_wellOf (ha).2.2.1 e1) ?_
  obtain ⟨q2, e2, h⟩ := mbind h
  refine q_vI1 mcap_0 rfl rfl ((ha).2.1).1 rfl (by decide) (ok_X9_leadsTo (ha).2.1 e2) ?_
  refine q_istore_n rfl rfl ?_
  refine q_iload_n rfl ?_
  refine q_if_lt (fun c3 => ?_) (fun c3 => ?_)
  · rw [if_pos c3] at h
    refine mAt.blk bk_X10_goDown_43 ck_X10_goDown_43 ?_
    have h := Option.some.inj h
    subst h
    exact q_vret mcap_0 rfl rfl
  · rw [if_neg c3] at h
    refine q_aload_n rfl ?_
    refine q_iload_n rfl ?_
    obtain ⟨q4, e4, h⟩ := mbind h
    refine q_vI1 mcap_0 rfl rfl (ha).1 rfl (by decide) (ok_X10_stays ha e4) ?_
    refine q_if_ne (fun c5 => ?_) (fun c5 => ?_)
    · rw [if_pos c5] at h
      refine q_aload_n rfl ?_
      refine q_getR (ha).1 rfl rfl ?_
      refine q_iload_n rfl ?_
      refine q_iconst ?_
      refine q_iload_n rfl ?_
      refine q_aload_n rfl ?_
      refine q_iload_n rfl ?_
      obtain ⟨q6, e6, h⟩ := mbind h
      refine q_vI1 mcap_0 rfl rfl (ha).1 rfl (by decide) (ok_X10_lasts ha e6) ?_
      obtain ⟨q7, e7, h⟩ := mbind h
      refine q_vV4 mcap_0 rfl rfl ((ha).2.2.1).1 rfl (by decide) (ok_X7_place (ha).2.2.1 e7) ?_
      refine mAt.blk bk_X10_goDown_43 ck_X10_goDown_43 ?_
      have h := Option.some.inj h
      subst h
      exact q_vret mcap_0 rfl rfl
    · rw [if_neg c5] at h
      refine mAt.blk bk_X10_goDown_43 ck_X10_goDown_43 ?_
      have h := Option.some.inj h
      subst h
      exact q_vret mcap_0 rfl rfl
def bk_X10_goBy_0 : List mI := [(.iconst 0, 1, 0, 0, 0, [(0, 0)]), (.istore_n 2, 1, 0, 0, 0, [])]
theorem ck_X10_goBy_0 : mChk 69 0 bk_X10_goBy_0 = true := by decide +kernel
def bk_X10_goBy_2 : List mI := [(.iload_n 2, 1, 0, 0, 0, []), (.iload_n 1, 1, 0, 0, 0, []), (.if_icmp .ge 90, 3, 94, 0, 0, []), (.aload_n 0, 1, 0, 0, 0, []), (.getfield 21, 3, 10, 1, 251, []), (.invokevirtual 43, 3, 45, 0, 657, []), (.istore_n 3, 1, 0, 0, 0, []), (.iconst 0, 1, 0, 0, 0, [(0, 0)]), (.istore 4, 2, 0, 0, 0, [])]
theorem ck_X10_goBy_2 : mChk 69 2 bk_X10_goBy_2 = true := by decide +kernel
def bk_X10_goBy_18 : List mI := [(.iload 4, 2, 0, 0, 0, []), (.aload_n 0, 1, 0, 0, 0, []), (.getfield 21, 3, 10, 1, 251, []), (.getfield 47, 3, 7, 6, 232, []), (.if_icmp .ge 15, 3, 42, 0, 0, []), (.aload_n 0, 1, 0, 0, 0, []), (.iload 4, 2, 0, 0, 0, []), (.invokevirtual 50, 3, 70, 0, 661, []), (.iinc 4 1, 3, 0, 0, 0, [(1, 0)]), (.goto (-21), 3, 18, 0, 0, [])]
theorem ck_X10_goBy_18 : mChk 69 18 bk_X10_goBy_18 = true := by decide +kernel
def bk_X10_goBy_42 : List mI := [(.iconst 0, 1, 0, 0, 0, [(0, 0)]), (.istore 4, 2, 0, 0, 0, [])]
theorem ck_X10_goBy_42 : mChk 69 42 bk_X10_goBy_42 = true := by decide +kernel
def bk_X10_goBy_45 : List mI := [(.iload 4, 2, 0, 0, 0, []), (.aload_n 0, 1, 0, 0, 0, []), (.getfield 21, 3, 10, 1, 251, []), (.getfield 47, 3, 7, 6, 232, []), (.if_icmp .ge 24, 3, 78, 0, 0, []), (.iload_n 3, 1, 0, 0, 0, []), (.iload 4, 2, 0, 0, 0, []), (.ishr, 1, 0, 0, 0, []), (.iconst 1, 1, 0, 0, 0, [(1, 0)]), (.iand, 1, 0, 0, 0, []), (.ifCond .eq 9, 3, 72, 0, 0, []), (.aload_n 0, 1, 0, 0, 0, []), (.iload 4, 2, 0, 0, 0, []), (.invokevirtual 54, 3, 71, 0, 666, [])]
theorem ck_X10_goBy_45 : mChk 69 45 bk_X10_goBy_45 = true := by decide +kernel
def bk_X10_goBy_72 : List mI := [(.iinc 4 1, 3, 0, 0, 0, [(1, 0)]), (.goto (-30), 3, 45, 0, 0, [])]
theorem ck_X10_goBy_72 : mChk 69 72 bk_X10_goBy_72 = true := by decide +kernel
def bk_X10_goBy_78 : List mI := [(.aload_n 0, 1, 0, 0, 0, []), (.dup, 1, 0, 0, 0, []), (.getfield 39, 3, 10, 4, 255, []), (.iconst 1, 1, 0, 0, 0, [(1, 0)]), (.iadd, 1, 0, 0, 0, []), (.putfield 39, 3, 10, 4, 255, []), (.iinc 2 1, 3, 0, 0, 0, [(1, 0)]), (.goto (-89), 3, 2, 0, 0, [])]
theorem ck_X10_goBy_78 : mChk 69 78 bk_X10_goBy_78 = true := by decide +kernel
def bk_X10_goBy_94 : List mI := [(.return_, 1, 0, 0, 0, [])]
theorem ck_X10_goBy_94 : mChk 69 94 bk_X10_goBy_94 = true := by decide +kernel
def c_X10_goBy_72 (k2 : Int32 → Int32 → Sg → Option (Sg)) (k45 : Int32 → Int32 → Int32 → Int32 → Sg → Option (Sg)) (a a_sl a_tk : Nat) (x1 : Int32) (x2 : Int32) (x3 : Int32) (x4 : Int32) (σ : Sg) : Option (Sg) := (k45 x1 x2 x3 (x4 + (1 : Int32)) σ)
set_option maxHeartbeats 4000000 in
theorem okc_X10_goBy_72 {L : Nat} {k2 : Int32 → Int32 → Sg → Option (Sg)} {k45 : Int32 → Int32 → Int32 → Int32 → Sg → Option (Sg)} {a a_sl a_tk : Nat} {R : Sg} (ha : P10 a a_sl a_tk) (Hk2 : ∀ (x1 : Int32) (x2 : Int32) (σ : Sg) (pl : mLoc), k2 x1 x2 σ = some R → mlf [some (.ref a), some (.int x1), some (.int x2), none, none] pl → mAt 5 69 (none, (mSh, L, R)) 2 pl [] (mSh, L, σ) 0 0) (Hk45 : ∀ (x1 : Int32) (x2 : Int32) (x3 : Int32) (x4 : Int32) (σ : Sg) (pl : mLoc), k45 x1 x2 x3 x4 σ = some R → mlf [some (.ref a), some (.int x1), some (.int x2), some (.int x3), some (.int x4)] pl → mAt 5 69 (none, (mSh, L, R)) 45 pl [] (mSh, L, σ) 0 0) {x1 : Int32} {x2 : Int32} {x3 : Int32} {x4 : Int32} {σ : Sg} {pl : mLoc} (h : c_X10_goBy_72 k2 k45 a a_sl a_tk x1 x2 x3 x4 σ = some R) (hl : mlf [some (.ref a), some (.int x1), some (.int x2), some (.int x3), some (.int x4)] pl) : mAt 5 69 (none, (mSh, L, R)) 72 pl [] (mSh, L, σ) 0 0 := by
  refine mAt.less hl ?_
  unfold c_X10_goBy_72 at h
  refine mAt.blk bk_X10_goBy_72 ck_X10_goBy_72 ?_
  refine q_iinc rfl rfl ?_
  refine q_goto ?_
  exact Hk45 _ _ _ _ _ _  h ⟨rfl, rfl, rfl, rfl, rfl, trivial⟩
def c_X10_goBy_78 (k2 : Int32 → Int32 → Sg → Option (Sg)) (a a_sl a_tk : Nat) (x1 : Int32) (x2 : Int32) (σ : Sg) : Option (Sg) := (k2 x1 (x2 + (1 : Int32)) (mup σ a 4 ((σ a 4) + (1 : Int32))))
set_option maxHeartbeats 4000000 in
theorem okc_X10_goBy_78 {L : Nat} {k2 : Int32 → Int32 → Sg → Option (Sg)} {a a_sl a_tk : Nat} {R : Sg} (ha : P10 a a_sl a_tk) (Hk2 : ∀ (x1 : Int32) (x2 : Int32) (σ : Sg) (pl : mLoc), k2 x1 x2 σ = some R → mlf [some (.ref a), some (.int x1), some (.int x2), none, none] pl → mAt 5 69 (none, (mSh, L, R)) 2 pl [] (mSh, L, σ) 0 0) {x1 : Int32} {x2 : Int32} {σ : Sg} {pl : mLoc} (h : c_X10_goBy_78 k2 a a_sl a_tk x1 x2 σ = some R) (hl : mlf [some (.ref a), some (.int x1), some (.int x2), none, none] pl) : mAt 5 69 (none, (mSh, L, R)) 78 pl [] (mSh, L, σ) 0 0 := by
  refine mAt.less hl ?_
  unfold c_X10_goBy_78 at h
  refine mAt.blk bk_X10_goBy_78 ck_X10_goBy_78 ?_
  refine q_aload_n rfl ?_
  refine q_dupR ?_
  refine q_getI (ha).1 rfl ?_
  refine q_iconst ?_
  refine q_iadd ?_
  refine q_putI (ha).1 rfl ?_
  refine q_iinc rfl rfl ?_
  refine q_goto ?_
  exact Hk2 _ _ _ _  h ⟨rfl, rfl, rfl, trivial⟩
def c_X10_goBy_45 (k2 : Int32 → Int32 → Sg → Option (Sg)) (a a_sl a_tk : Nat) : Nat → Int32 → Int32 → Int32 → Int32 → Sg → Option (Sg)
  | 0, _, _, _, _, _ => none
  | n + 1, x1, x2, x3, x4, σ => (if (σ (a + 6) 6) ≤ x4 then (c_X10_goBy_78 k2 a a_sl a_tk x1 x2 σ) else (if ((x3 >>> (x4 &&& 31)) &&& (1 : Int32)) = 0 then (c_X10_goBy_72 k2 (c_X10_goBy_45 k2 a a_sl a_tk n) a a_sl a_tk x1 x2 x3 x4 σ) else ((f_X10_comeNearer a a_sl a_tk x4 σ).bind fun q7 => (c_X10_goBy_72 k2 (c_X10_goBy_45 k2 a a_sl a_tk n) a a_sl a_tk x1 x2 x3 x4 q7))))
set_option maxHeartbeats 4000000 in
theorem okc_X10_goBy_45 {L : Nat} {k2 : Int32 → Int32 → Sg → Option (Sg)} {a a_sl a_tk : Nat} {R : Sg} (ha : P10 a a_sl a_tk) (Hk2 : ∀ (x1 : Int32) (x2 : Int32) (σ : Sg) (pl : mLoc), k2 x1 x2 σ = some R → mlf [some (.ref a), some (.int x1), some (.int x2), none, none] pl → mAt 5 69 (none, (mSh, L, R)) 2 pl [] (mSh, L, σ) 0 0) {n : Nat} {x1 : Int32} {x2 : Int32} {x3 : Int32} {x4 : Int32} {σ : Sg} {pl : mLoc} (h : c_X10_goBy_45 k2 a a_sl a_tk n x1 x2 x3 x4 σ = some R) (hl : mlf [some (.ref a), some (.int x1), some (.int x2), some (.int x3), some (.int x4)] pl) : mAt 5 69 (none, (mSh, L, R)) 45 pl [] (mSh, L, σ) 0 0 := by
  induction n generalizing x1 x2 x3 x4 σ pl with
  | zero =>
    rw [c_X10_goBy_45.eq_1] at h
    cases h
  | succ n ih =>
    refine mAt.less hl ?_
    rw [c_X10_goBy_45.eq_2] at h
    refine mAt.blk bk_X10_goBy_45 ck_X10_goBy_45 ?_
    refine q_iload rfl ?_
    refine q_aload_n rfl ?_
    refine q_getR (ha).1 rfl rfl ?_
    refine q_getI ((ha).2.2.1).1 rfl ?_
    refine q_ic_ge (fun c5 => ?_) (fun c5 => ?_)
    · rw [if_pos c5] at h
      exact okc_X10_goBy_78 ha Hk2 h ⟨rfl, rfl, rfl, trivial⟩
    · rw [if_neg c5] at h
      refine q_iload_n rfl ?_
      refine q_iload rfl ?_
      refine q_ishr ?_
      refine q_iconst ?_
      refine q_iand ?_
      refine q_if_eq (fun c6 => ?_) (fun c6 => ?_)
      · rw [if_pos c6] at h
        exact okc_X10_goBy_72 ha Hk2 (fun _ _ _ _ _ _ e hl => ih  e hl) h ⟨rfl, rfl, rfl, rfl, rfl, trivial⟩
      · rw [if_neg c6] at h
        refine q_aload_n rfl ?_
        refine q_iload rfl ?_
        obtain ⟨q7, e7, h⟩ := mbind h
        refine q_vV1 mcap_0 rfl rfl (ha).1 rfl (by decide) (ok_X10_comeNearer ha e7) ?_
        exact okc_X10_goBy_72 ha Hk2 (fun _ _ _ _ _ _ e hl => ih  e hl) h ⟨rfl, rfl, rfl, rfl, rfl, trivial⟩
def c_X10_goBy_42 (k2 : Int32 → Int32 → Sg → Option (Sg)) (a a_sl a_tk : Nat) (x1 : Int32) (x2 : Int32) (x3 : Int32) (σ : Sg) : Option (Sg) := (c_X10_goBy_45 k2 a a_sl a_tk 1000 x1 x2 x3 (0 : Int32) σ)
set_option maxHeartbeats 4000000 in
theorem okc_X10_goBy_42 {L : Nat} {k2 : Int32 → Int32 → Sg → Option (Sg)} {a a_sl a_tk : Nat} {R : Sg} (ha : P10 a a_sl a_tk) (Hk2 : ∀ (x1 : Int32) (x2 : Int32) (σ : Sg) (pl : mLoc), k2 x1 x2 σ = some R → mlf [some (.ref a), some (.int x1), some (.int x2), none, none] pl → mAt 5 69 (none, (mSh, L, R)) 2 pl [] (mSh, L, σ) 0 0) {x1 : Int32} {x2 : Int32} {x3 : Int32} {σ : Sg} {pl : mLoc} (h : c_X10_goBy_42 k2 a a_sl a_tk x1 x2 x3 σ = some R) (hl : mlf [some (.ref a), some (.int x1), some (.int x2), some (.int x3), none] pl) : mAt 5 69 (none, (mSh, L, R)) 42 pl [] (mSh, L, σ) 0 0 := by
  refine mAt.less hl ?_
  unfold c_X10_goBy_42 at h
  refine mAt.blk bk_X10_goBy_42 ck_X10_goBy_42 ?_
  refine q_iconst ?_
  refine q_istore rfl rfl ?_
  exact okc_X10_goBy_45 ha Hk2 h ⟨rfl, rfl, rfl, rfl, rfl, trivial⟩
def c_X10_goBy_18 (k2 : Int32 → Int32 → Sg → Option (Sg)) (a a_sl a_tk : Nat) : Nat → Int32 → Int32 → Int32 → Int32 → Sg → Option (Sg)
  | 0, _, _, _, _, _ => none
  | n + 1, x1, x2, x3, x4, σ => (if (σ (a + 6) 6) ≤ x4 then (c_X10_goBy_42 k2 a a_sl a_tk x1 x2 x3 σ) else ((f_X10_goDown a a_sl a_tk x4 σ).bind fun q4 => (c_X10_goBy_18 k2 a a_sl a_tk n x1 x2 x3 (x4 + (1 : Int32)) q4)))
set_option maxHeartbeats 4000000 in
theorem okc_X10_goBy_18 {L : Nat} {k2 : Int32 → Int32 → Sg → Option (Sg)} {a a_sl a_tk : Nat} {R : Sg} (ha : P10 a a_sl a_tk) (Hk2 : ∀ (x1 : Int32) (x2 : Int32) (σ : Sg) (pl : mLoc), k2 x1 x2 σ = some R → mlf [some (.ref a), some (.int x1), some (.int x2), none, none] pl → mAt 5 69 (none, (mSh, L, R)) 2 pl [] (mSh, L, σ) 0 0) {n : Nat} {x1 : Int32} {x2 : Int32} {x3 : Int32} {x4 : Int32} {σ : Sg} {pl : mLoc} (h : c_X10_goBy_18 k2 a a_sl a_tk n x1 x2 x3 x4 σ = some R) (hl : mlf [some (.ref a), some (.int x1), some (.int x2), some (.int x3), some (.int x4)] pl) : mAt 5 69 (none, (mSh, L, R)) 18 pl [] (mSh, L, σ) 0 0 := by
  induction n generalizing x1 x2 x3 x4 σ pl with
  | zero =>
    rw [c_X10_goBy_18.eq_1] at h
    cases h
  | succ n ih =>
    refine mAt.less hl ?_
    rw [c_X10_goBy_18.eq_2] at h
    refine mAt.blk bk_X10_goBy_18 ck_X10_goBy_18 ?_
    refine q_iload rfl ?_
    refine q_aload_n rfl ?_
    refine q_getR (ha).1 rfl rfl ?_
    refine q_getI ((ha).2.2.1).1 rfl ?_
    refine q_ic_ge (fun c3 => ?_) (fun c3 => ?_)
    · rw [if_pos c3] at h
      exact okc_X10_goBy_42 ha Hk2 h ⟨rfl, rfl, rfl, rfl, trivial⟩
    · rw [if_neg c3] at h
      refine q_aload_n rfl ?_
      refine q_iload rfl ?_
      obtain ⟨q4, e4, h⟩ := mbind h
      refine q_vV1 mcap_0 rfl rfl (ha).1 rfl (by decide) (ok_X10_goDown ha e4) ?_
      refine q_iinc rfl rfl ?_
      refine q_goto ?_
      exact ih  h ⟨rfl, rfl, rfl, rfl, rfl, trivial⟩
def c_X10_goBy_2 (a a_sl a_tk : Nat) : Nat → Int32 → Int32 → Sg → Option (Sg)
  | 0, _, _, _ => none
  | n + 1, x1, x2, σ => (if x1 ≤ x2 then (some σ) else ((f_X7_belowBits (a + 6) σ).bind fun q2 => (c_X10_goBy_18 (c_X10_goBy_2 a a_sl a_tk n) a a_sl a_tk 1000 x1 x2 q2 (0 : Int32) σ)))
set_option maxHeartbeats 4000000 in
theorem okc_X10_goBy_2 {L : Nat} {a a_sl a_tk : Nat} {R : Sg} (ha : P10 a a_sl a_tk) {n : Nat} {x1 : Int32} {x2 : Int32} {σ : Sg} {pl : mLoc} (h : c_X10_goBy_2 a a_sl a_tk n x1 x2 σ = some R) (hl : mlf [some (.ref a), some (.int x1), some (.int x2), none, none] pl) : mAt 5 69 (none, (mSh, L, R)) 2 pl [] (mSh, L, σ) 0 0 := by
  induction n generalizing x1 x2 σ pl with
  | zero =>
    rw [c_X10_goBy_2.eq_1] at h
    cases h
  | succ n ih =>
    refine mAt.less hl ?_
    rw [c_X10_goBy_2.eq_2] at h
    refine mAt.blk bk_X10_goBy_2 ck_X10_goBy_2 ?_
    refine q_iload_n rfl ?_
    refine q_iload_n rfl ?_
    refine q_ic_ge (fun c1 => ?_) (fun c1 => ?_)
    · rw [if_pos c1] at h
      refine mAt.blk bk_X10_goBy_94 ck_X10_goBy_94 ?_
      have h := Option.some.inj h
      subst h
      exact q_vret mcap_0 rfl rfl
    · rw [if_neg c1] at h
      refine q_aload_n rfl ?_
      refine q_getR (ha).1 rfl rfl ?_
      obtain ⟨q2, e2, h⟩ := mbind h
      refine q_vI0 mcap_0 rfl rfl ((ha).2.2.1).1 rfl (by decide) (ok_X7_belowBits (ha).2.2.1 e2) ?_
      refine q_istore_n rfl rfl ?_
      refine q_iconst ?_
      refine q_istore rfl rfl ?_
      exact okc_X10_goBy_18 ha (fun _ _ _ _ e hl => ih  e hl) h ⟨rfl, rfl, rfl, rfl, rfl, trivial⟩
def f_X10_goBy (a a_sl a_tk : Nat) (p0 : Int32) (σ : Sg) : Option (Sg) := (c_X10_goBy_2  a a_sl a_tk 1000 p0 (0 : Int32) σ)
set_option maxHeartbeats 4000000 in
theorem ok_X10_goBy {L : Nat} {a a_sl a_tk : Nat} {p0 : Int32} {σ : Sg} {R : Sg} (ha : P10 a a_sl a_tk) (h : f_X10_goBy a a_sl a_tk p0 σ = some R) : mEv 5 69 [.ref a, .int p0] (mSh, L, σ) none (mSh, L, R) := by
  refine mEv.of (by decide) rfl rfl ?_
  unfold f_X10_goBy at h
  refine mAt.blk bk_X10_goBy_0 ck_X10_goBy_0 ?_
  refine q_iconst ?_
  refine q_istore_n rfl rfl ?_
  exact okc_X10_goBy_2 ha h ⟨rfl, rfl, rfl, trivial⟩
def bk_X10_detail_0 : List mI := [(.aload_n 0, 1, 0, 0, 0, []), (.getfield 21, 3, 10, 1, 251, []), (.iload_n 1, 1, 0, 0, 0, []), (.invokevirtual 57, 3, 42, 0, 497, []), (.istore_n 3, 1, 0, 0, 0, []), (.iload_n 2, 1, 0, 0, 0, []), (.tableswitch 135 0 6 #[42, 54, 66, 78, 90, 102, 114], 42, 145, 0, 0, [(0, 52), (1, 64), (2, 76), (3, 88), (4, 100), (5, 112), (6, 124)])]
theorem ck_X10_detail_0 : mChk 73 0 bk_X10_detail_0 = true := by decide +kernel
def bk_X10_detail_52 : List mI := [(.aload_n 0, 1, 0, 0, 0, []), (.getfield 21, 3, 10, 1, 251, []), (.getfield 106, 3, 7, 0, 216, []), (.iload_n 1, 1, 0, 0, 0, []), (.invokestatic 79, 3, 130, 0, 502, []), (.ireturn, 1, 0, 0, 0, [])]
theorem ck_X10_detail_52 : mChk 73 52 bk_X10_detail_52 = true := by decide +kernel
def bk_X10_detail_64 : List mI := [(.aload_n 0, 1, 0, 0, 0, []), (.getfield 21, 3, 10, 1, 251, []), (.getfield 125, 3, 7, 1, 219, []), (.iload_n 1, 1, 0, 0, 0, []), (.invokestatic 79, 3, 130, 0, 502, []), (.ireturn, 1, 0, 0, 0, [])]
theorem ck_X10_detail_64 : mChk 73 64 bk_X10_detail_64 = true := by decide +kernel
def bk_X10_detail_76 : List mI := [(.aload_n 0, 1, 0, 0, 0, []), (.getfield 21, 3, 10, 1, 251, []), (.getfield 128, 3, 7, 2, 222, []), (.iload_n 1, 1, 0, 0, 0, []), (.invokestatic 79, 3, 130, 0, 502, []), (.ireturn, 1, 0, 0, 0, [])]
theorem ck_X10_detail_76 : mChk 73 76 bk_X10_detail_76 = true := by decide +kernel
def bk_X10_detail_88 : List mI := [(.aload_n 0, 1, 0, 0, 0, []), (.getfield 21, 3, 10, 1, 251, []), (.getfield 75, 3, 7, 3, 225, []), (.iload_n 1, 1, 0, 0, 0, []), (.invokestatic 79, 3, 130, 0, 502, []), (.ireturn, 1, 0, 0, 0, [])]
theorem ck_X10_detail_88 : mChk 73 88 bk_X10_detail_88 = true := by decide +kernel
def bk_X10_detail_100 : List mI := [(.aload_n 0, 1, 0, 0, 0, []), (.getfield 21, 3, 10, 1, 251, []), (.getfield 83, 3, 7, 4, 228, []), (.iload_n 1, 1, 0, 0, 0, []), (.invokestatic 79, 3, 130, 0, 502, []), (.ireturn, 1, 0, 0, 0, [])]
theorem ck_X10_detail_100 : mChk 73 100 bk_X10_detail_100 = true := by decide +kernel
def bk_X10_detail_112 : List mI := [(.aload_n 0, 1, 0, 0, 0, []), (.getfield 21, 3, 10, 1, 251, []), (.getfield 87, 3, 7, 5, 230, []), (.iload_n 1, 1, 0, 0, 0, []), (.invokestatic 79, 3, 130, 0, 502, []), (.ireturn, 1, 0, 0, 0, [])]
theorem ck_X10_detail_112 : mChk 73 112 bk_X10_detail_112 = true := by decide +kernel
def bk_X10_detail_124 : List mI := [(.aload_n 0, 1, 0, 0, 0, []), (.getfield 12, 3, 10, 0, 249, []), (.iload_n 3, 1, 0, 0, 0, []), (.invokevirtual 61, 3, 58, 0, 503, []), (.ifCond .lt 11, 3, 143, 0, 0, []), (.aload_n 0, 1, 0, 0, 0, []), (.iload_n 1, 1, 0, 0, 0, []), (.invokevirtual 68, 3, 75, 0, 504, []), (.goto 4, 3, 144, 0, 0, [])]
theorem ck_X10_detail_124 : mChk 73 124 bk_X10_detail_124 = true := by decide +kernel
def bk_X10_detail_143 : List mI := [(.iconst (-1), 1, 0, 0, 0, [((-1), 0)])]
theorem ck_X10_detail_143 : mChk 73 143 bk_X10_detail_143 = true := by decide +kernel
def bk_X10_detail_144 : List mI := [(.ireturn, 1, 0, 0, 0, [])]
theorem ck_X10_detail_144 : mChk 73 144 bk_X10_detail_144 = true := by decide +kernel
def bk_X10_detail_145 : List mI := [(.iload_n 3, 1, 0, 0, 0, []), (.ifCond .lt 15, 3, 161, 0, 0, []), (.aload_n 0, 1, 0, 0, 0, []), (.iload_n 1, 1, 0, 0, 0, []), (.invokevirtual 64, 3, 77, 0, 549, []), (.ifCond .eq 7, 3, 161, 0, 0, []), (.iconst 1, 1, 0, 0, 0, [(1, 0)]), (.goto 4, 3, 162, 0, 0, [])]
theorem ck_X10_detail_145 : mChk 73 145 bk_X10_detail_145 = true := by decide +kernel
def bk_X10_detail_161 : List mI := [(.iconst 0, 1, 0, 0, 0, [(0, 0)])]
theorem ck_X10_detail_161 : mChk 73 161 bk_X10_detail_161 = true := by decide +kernel
def bk_X10_detail_162 : List mI := [(.ireturn, 1, 0, 0, 0, [])]
theorem ck_X10_detail_162 : mChk 73 162 bk_X10_detail_162 = true := by decide +kernel
def f_X10_detail (a a_sl a_tk : Nat) (p0 : Int32) (p1 : Int32) (σ : Sg) : Option (Int32 × Sg) := ((f_X7_wellOf (a + 6) p0 σ).bind fun q1 => (if p1 = (0 : Int32) then ((f_X11_pick ((a + 6) + 1) 10 p0 σ).bind fun q2 => (some (q2, σ))) else (if p1 = (1 : Int32) then ((f_X11_pick ((a + 6) + 2) 10 p0 σ).bind fun q3 => (some (q3, σ))) else (if p1 = (2 : Int32) then ((f_X11_pick ((a + 6) + 3) 10 p0 σ).bind fun q4 => (some (q4, σ))) else (if p1 = (3 : Int32) then ((f_X11_pick ((a + 6) + 4) 10 p0 σ).bind fun q5 => (some (q5, σ))) else (if p1 = (4 : Int32) then ((f_X11_pick ((a + 6) + 5) 10 p0 σ).bind fun q6 => (some (q6, σ))) else (if p1 = (5 : Int32) then ((f_X11_pick ((a + 6) + 6) 10 p0 σ).bind fun q7 => (some (q7, σ))) else (if p1 = (6 : Int32) then ((f_X9_leadsTo (a + 1) q1 σ).bind fun q8 => (if q8 < 0 then (some ((-1 : Int32), σ)) else ((f_X10_lasts a a_sl a_tk p0 σ).bind fun q10 => (some (q10.1, q10.2))))) else (if q1 < 0 then (some ((0 : Int32), σ)) else ((f_X10_stays a a_sl a_tk p0 σ).bind fun q12 => (if q12 = 0 then (some ((0 : Int32), σ)) else (some ((1 : Int32), σ)))))))))))))
set_option maxHeartbeats 4000000 in
theorem ok_X10_detail {L : Nat} {a a_sl a_tk : Nat} {p0 : Int32} {p1 : Int32} {σ : Sg} {R : Int32 × Sg} (ha : P10 a a_sl a_tk) (h : f_X10_detail a a_sl a_tk p0 p1 σ = some R) : mEv 4 73 [.ref a, .int p0, .int p1] (mSh, L, σ) (some (.int R.1)) (mSh, L, R.2) := by
  refine mEv.of (by decide) rfl rfl ?_
  unfold f_X10_detail at h
  refine mAt.blk bk_X10_detail_0 ck_X10_detail_0 ?_
  refine q_aload_n rfl ?_
  refine q_getR (ha).1 rfl rfl ?_
  refine q_iload_n rfl ?_
  obtain ⟨q1, e1, h⟩ := mbind h
  refine q_vI1 mcap_0 rfl rfl ((ha).2.2.1).1 rfl (by decide) (ok_X7_wellOf (ha).2.2.1 e1) ?_
  refine q_istore_n rfl rfl ?_
  refine q_iload_n rfl ?_
  refine q_tsw ?_
  refine ⟨fun c20 => ?_, fun c20 => ?_⟩
  · rw [if_pos c20] at h
    refine mAt.blk bk_X10_detail_52 ck_X10_detail_52 ?_
    refine q_aload_n rfl ?_
    refine q_getR (ha).1 rfl rfl ?_
    refine q_getR ((ha).2.2.1).1 rfl rfl ?_
    refine q_iload_n rfl ?_
    obtain ⟨q2, e2, h⟩ := mbind h
    refine q_sI2 mcap_0 rfl rfl rfl rfl (by decide) (ok_X11_pick (mrd ((ha).2.2.1).2.1) e2) ?_
    have h := Option.some.inj h
    subst h
    exact q_iretI mcap_0 rfl rfl
  · rw [if_neg c20] at h
    refine ⟨fun c19 => ?_, fun c19 => ?_⟩
    · rw [if_pos c19] at h
      refine mAt.blk bk_X10_detail_64 ck_X10_detail_64 ?_
      refine q_aload_n rfl ?_
      refine q_getR (ha).1 rfl rfl ?_
      refine q_getR ((ha).2.2.1).1 rfl rfl ?_
      refine q_iload_n rfl ?_
      obtain ⟨q3, e3, h⟩ := mbind h
      refine q_sI2 mcap_0 rfl rfl rfl rfl (by decide) (ok_X11_pick (mrd ((ha).2.2.1).2.2.1) e3) ?_
      have h := Option.some.inj h
      subst h
      exact q_iretI mcap_0 rfl rfl
    · rw [if_neg c19] at h
      refine ⟨fun c18 => ?_, fun c18 => ?_⟩
      · rw [if_pos c18] at h
        refine mAt.blk bk_X10_detail_76 ck_X10_detail_76 ?_
        refine q_aload_n rfl ?_
        refine q_getR (ha).1 rfl rfl ?_
        refine q_getR ((ha).2.2.1).1 rfl rfl ?_
        refine q_iload_n rfl ?_
        obtain ⟨q4, e4, h⟩ := mbind h
        refine q_sI2 mcap_0 rfl rfl rfl rfl (by decide) (ok_X11_pick (mrd ((ha).2.2.1).2.2.2.1) e4) ?_
        have h := Option.some.inj h
        subst h
        exact q_iretI mcap_0 rfl rfl
      · rw [if_neg c18] at h
        refine ⟨fun c17 => ?_, fun c17 => ?_⟩
        · rw [if_pos c17] at h
          refine mAt.blk bk_X10_detail_88 ck_X10_detail_88 ?_
          refine q_aload_n rfl ?_
          refine q_getR (ha).1 rfl rfl ?_
          refine q_getR ((ha).2.2.1).1 rfl rfl ?_
          refine q_iload_n rfl ?_
          obtain ⟨q5, e5, h⟩ := mbind h
          refine q_sI2 mcap_0 rfl rfl rfl rfl (by decide) (ok_X11_pick (mrd ((ha).2.2.1).2.2.2.2.1) e5) ?_
          have h := Option.some.inj h
          subst h
          exact q_iretI mcap_0 rfl rfl
        · rw [if_neg c17] at h
          refine ⟨fun c16 => ?_, fun c16 => ?_⟩
          · rw [if_pos c16] at h
            refine mAt.blk bk_X10_detail_100 ck_X10_detail_100 ?_
            refine q_aload_n rfl ?_
            refine q_getR (ha).1 rfl rfl ?_
            refine q_getR ((ha).2.2.1).1 rfl rfl ?_
            refine q_iload_n rfl ?_
            obtain ⟨q6, e6, h⟩ := mbind h
            refine q_sI2 mcap_0 rfl rfl rfl rfl (by decide) (ok_X11_pick (mrd ((ha).2.2.1).2.2.2.2.2.1) e6) ?_
            have h := Option.some.inj h
            subst h
            exact q_iretI mcap_0 rfl rfl
          · rw [if_neg c16] at h
            refine ⟨fun c15 => ?_, fun c15 => ?_⟩
            · rw [if_pos c15] at h
              refine mAt.blk bk_X10_detail_112 ck_X10_detail_112 ?_
              refine q_aload_n rfl ?_
              refine q_getR (ha).1 rfl rfl ?_
              refine q_getR ((ha).2.2.1).1 rfl rfl ?_
              refine q_iload_n rfl ?_
              obtain ⟨q7, e7, h⟩ := mbind h
              refine q_sI2 mcap_0 rfl rfl rfl rfl (by decide) (ok_X11_pick (mrd ((ha).2.2.1).2.2.2.2.2.2) e7) ?_
              have h := Option.some.inj h
              subst h
              exact q_iretI mcap_0 rfl rfl
            · rw [if_neg c15] at h
              refine ⟨fun c14 => ?_, fun c14 => ?_⟩
              · rw [if_pos c14] at h
                refine mAt.blk bk_X10_detail_124 ck_X10_detail_124 ?_
                refine q_aload_n rfl ?_
                refine q_getR (ha).1 rfl rfl ?_
                refine q_iload_n rfl ?_
                obtain ⟨q8, e8, h⟩ := mbind h
                refine q_vI1 mcap_0 rfl rfl ((ha).2.1).1 rfl (by decide) (ok_X9_leadsTo (ha).2.1 e8) ?_
                refine q_if_lt (fun c9 => ?_) (fun c9 => ?_)
                · rw [if_pos c9] at h
                  refine mAt.blk bk_X10_detail_143 ck_X10_detail_143 ?_
                  refine q_iconst ?_
                  refine mAt.blk bk_X10_detail_144 ck_X10_detail_144 ?_
                  have h := Option.some.inj h
                  subst h
                  exact q_iretI mcap_0 rfl rfl
                · rw [if_neg c9] at h
                  refine q_aload_n rfl ?_
                  refine q_iload_n rfl ?_
                  obtain ⟨q10, e10, h⟩ := mbind h
                  refine q_vI1 mcap_0 rfl rfl (ha).1 rfl (by decide) (ok_X10_lasts ha e10) ?_
                  refine q_goto ?_
                  refine mAt.blk bk_X10_detail_144 ck_X10_detail_144 ?_
                  have h := Option.some.inj h
                  subst h
                  exact q_iretI mcap_0 rfl rfl
              · rw [if_neg c14] at h
                refine mAt.blk bk_X10_detail_145 ck_X10_detail_145 ?_
                refine q_iload_n rfl ?_
                refine q_if_lt (fun c11 => ?_) (fun c11 => ?_)
                · rw [if_pos c11] at h
                  refine mAt.blk bk_X10_detail_161 ck_X10_detail_161 ?_
                  refine q_iconst ?_
                  refine mAt.blk bk_X10_detail_162 ck_X10_detail_162 ?_
                  have h := Option.some.inj h
                  subst h
                  exact q_iretI mcap_0 rfl rfl
                · rw [if_neg c11] at h
                  refine q_aload_n rfl ?_
                  refine q_iload_n rfl ?_
                  obtain ⟨q12, e12, h⟩ := mbind h
                  refine q_vI1 mcap_0 rfl rfl (ha).1 rfl (by decide) (ok_X10_stays ha e12) ?_
                  refine q_if_eq (fun c13 => ?_) (fun c13 => ?_)
                  · rw [if_pos c13] at h
                    refine mAt.blk bk_X10_detail_161 ck_X10_detail_161 ?_
                    refine q_iconst ?_
                    refine mAt.blk bk_X10_detail_162 ck_X10_detail_162 ?_
                    have h := Option.some.inj h
                    subst h
                    exact q_iretI mcap_0 rfl rfl
                  · rw [if_neg c13] at h
                    refine q_iconst ?_
                    refine q_goto ?_
                    refine mAt.blk bk_X10_detail_162 ck_X10_detail_162 ?_
                    have h := Option.some.inj h
                    subst h
                    exact q_iretI mcap_0 rfl rfl
def bk_X10_leaveAlone_0 : List mI := [(.iconst 0, 1, 0, 0, 0, [(0, 0)]), (.istore_n 3, 1, 0, 0, 0, [])]
theorem ck_X10_leaveAlone_0 : mChk 79 0 bk_X10_leaveAlone_0 = true := by decide +kernel
def bk_X10_leaveAlone_2 : List mI := [(.iload_n 3, 1, 0, 0, 0, []), (.aload_n 0, 1, 0, 0, 0, []), (.getfield 21, 3, 10, 1, 251, []), (.getfield 47, 3, 7, 6, 232, []), (.if_icmp .ge 20, 3, 30, 0, 0, []), (.aload_n 0, 1, 0, 0, 0, []), (.getfield 21, 3, 10, 1, 251, []), (.iload_n 3, 1, 0, 0, 0, []), (.iconst 2, 1, 0, 0, 0, [(2, 0)]), (.iconst (-1), 1, 0, 0, 0, [((-1), 0)]), (.iconst 0, 1, 0, 0, 0, [(0, 0)]), (.invokevirtual 71, 3, 41, 0, 665, []), (.iinc 3 1, 3, 0, 0, 0, [(1, 0)]), (.goto (-25), 3, 2, 0, 0, [])]
theorem ck_X10_leaveAlone_2 : mChk 79 2 bk_X10_leaveAlone_2 = true := by decide +kernel
def bk_X10_leaveAlone_30 : List mI := [(.aload_n 0, 1, 0, 0, 0, []), (.getfield 21, 3, 10, 1, 251, []), (.iload_n 1, 1, 0, 0, 0, []), (.iconst 0, 1, 0, 0, 0, [(0, 0)]), (.iload_n 2, 1, 0, 0, 0, []), (.iconst 0, 1, 0, 0, 0, [(0, 0)]), (.invokevirtual 71, 3, 41, 0, 665, []), (.iconst 0, 1, 0, 0, 0, [(0, 0)]), (.istore_n 3, 1, 0, 0, 0, [])]
theorem ck_X10_leaveAlone_30 : mChk 79 30 bk_X10_leaveAlone_30 = true := by decide +kernel
def bk_X10_leaveAlone_43 : List mI := [(.iload_n 3, 1, 0, 0, 0, []), (.aload_n 0, 1, 0, 0, 0, []), (.getfield 12, 3, 10, 0, 249, []), (.getfield 151, 3, 9, 4, 197, []), (.if_icmp .ge 21, 3, 72, 0, 0, []), (.aload_n 0, 1, 0, 0, 0, []), (.getfield 12, 3, 10, 0, 249, []), (.getfield 103, 3, 9, 3, 193, []), (.iload_n 3, 1, 0, 0, 0, []), (.iconst 0, 1, 0, 0, 0, [(0, 0)]), (.invokestatic 99, 3, 131, 0, 671, []), (.iinc 3 1, 3, 0, 0, 0, [(1, 0)]), (.goto (-26), 3, 43, 0, 0, [])]
theorem ck_X10_leaveAlone_43 : mChk 79 43 bk_X10_leaveAlone_43 = true := by decide +kernel
def bk_X10_leaveAlone_72 : List mI := [(.return_, 1, 0, 0, 0, [])]
theorem ck_X10_leaveAlone_72 : mChk 79 72 bk_X10_leaveAlone_72 = true := by decide +kernel
def c_X10_leaveAlone_43 (a a_sl a_tk : Nat) : Nat → Int32 → Sg → Option (Sg)
  | 0, _, _ => none
  | n + 1, x3, σ => (if (σ (a + 1) 4) ≤ x3 then (some σ) else ((f_X11_lay ((a + 1) + 4) 9 x3 (0 : Int32) σ).bind fun q5 => (c_X10_leaveAlone_43 a a_sl a_tk n (x3 + (1 : Int32)) q5)))
set_option maxHeartbeats 4000000 in
theorem okc_X10_leaveAlone_43 {L : Nat} {a a_sl a_tk : Nat} {R : Sg} (ha : P10 a a_sl a_tk) {n : Nat} {x3 : Int32} {σ : Sg} {pl : mLoc} (h : c_X10_leaveAlone_43 a a_sl a_tk n x3 σ = some R) (hl : mlf [some (.ref a), none, none, some (.int x3)] pl) : mAt 2 79 (none, (mSh, L, R)) 43 pl [] (mSh, L, σ) 0 0 := by
  induction n generalizing x3 σ pl with
  | zero =>
    rw [c_X10_leaveAlone_43.eq_1] at h
    cases h
  | succ n ih =>
    refine mAt.less hl ?_
    rw [c_X10_leaveAlone_43.eq_2] at h
    refine mAt.blk bk_X10_leaveAlone_43 ck_X10_leaveAlone_43 ?_
    refine q_iload_n rfl ?_
    refine q_aload_n rfl ?_
    refine q_getR (ha).1 rfl rfl ?_
    refine q_getI ((ha).2.1).1 rfl ?_
    refine q_ic_ge (fun c4 => ?_) (fun c4 => ?_)
    · rw [if_pos c4] at h
      refine mAt.blk bk_X10_leaveAlone_72 ck_X10_leaveAlone_72 ?_
      have h := Option.some.inj h
      subst h
      exact q_vret mcap_0 rfl rfl
    · rw [if_neg c4] at h
      refine q_aload_n rfl ?_
      refine q_getR (ha).1 rfl rfl ?_
      refine q_getR ((ha).2.1).1 rfl rfl ?_
      refine q_iload_n rfl ?_
      refine q_iconst ?_
      obtain ⟨q5, e5, h⟩ := mbind h
      refine q_sV3 mcap_0 rfl rfl rfl rfl (by decide) (ok_X11_lay ((ha).2.1).2.2.2.2 e5) ?_
      refine q_iinc rfl rfl ?_
      refine q_goto ?_
      exact ih  h ⟨rfl, rfl, trivial⟩
def c_X10_leaveAlone_30 (a a_sl a_tk : Nat) (x1 : Int32) (x2 : Int32) (σ : Sg) : Option (Sg) := ((f_X7_place (a + 6) x1 (0 : Int32) x2 (0 : Int32) σ).bind fun q3 => (c_X10_leaveAlone_43  a a_sl a_tk 1000 (0 : Int32) q3))
set_option maxHeartbeats 4000000 in
theorem okc_X10_leaveAlone_30 {L : Nat} {a a_sl a_tk : Nat} {R : Sg} (ha : P10 a a_sl a_tk) {x1 : Int32} {x2 : Int32} {σ : Sg} {pl : mLoc} (h : c_X10_leaveAlone_30 a a_sl a_tk x1 x2 σ = some R) (hl : mlf [some (.ref a), some (.int x1), some (.int x2), none] pl) : mAt 2 79 (none, (mSh, L, R)) 30 pl [] (mSh, L, σ) 0 0 := by
  refine mAt.less hl ?_
  unfold c_X10_leaveAlone_30 at h
  refine mAt.blk bk_X10_leaveAlone_30 ck_X10_leaveAlone_30 ?_
  refine q_aload_n rfl ?_
  refine q_getR (ha).1 rfl rfl ?_
  refine q_iload_n rfl ?_
  refine q_iconst ?_
  refine q_iload_n rfl ?_
  refine q_iconst ?_
  obtain ⟨q3, e3, h⟩ := mbind h
  refine q_vV4 mcap_0 rfl rfl ((ha).2.2.1).1 rfl (by decide) (ok_X7_place (ha).2.2.1 e3) ?_
  refine q_iconst ?_
  refine q_istore_n rfl rfl ?_
  exact okc_X10_leaveAlone_43 ha h ⟨rfl, rfl, trivial⟩
def c_X10_leaveAlone_2 (a a_sl a_tk : Nat) : Nat → Int32 → Int32 → Int32 → Sg → Option (Sg)
  | 0, _, _, _, _ => none
  | n + 1, x1, x2, x3, σ => (if (σ (a + 6) 6) ≤ x3 then (c_X10_leaveAlone_30  a a_sl a_tk x1 x2 σ) else ((f_X7_place (a + 6) x3 (2 : Int32) (-1 : Int32) (0 : Int32) σ).bind fun q2 => (c_X10_leaveAlone_2 a a_sl a_tk n x1 x2 (x3 + (1 : Int32)) q2)))
set_option maxHeartbeats 4000000 in
theorem okc_X10_leaveAlone_2 {L : Nat} {a a_sl a_tk : Nat} {R : Sg} (ha : P10 a a_sl a_tk) {n : Nat} {x1 : Int32} {x2 : Int32} {x3 : Int32} {σ : Sg} {pl : mLoc} (h : c_X10_leaveAlone_2 a a_sl a_tk n x1 x2 x3 σ = some R) (hl : mlf [some (.ref a), some (.int x1), some (.int x2), some (.int x3)] pl) : mAt 2 79 (none, (mSh, L, R)) 2 pl [] (mSh, L, σ) 0 0 := by
  induction n generalizing x1 x2 x3 σ pl with
  | zero =>
    rw [c_X10_leaveAlone_2.eq_1] at h
    cases h
  | succ n ih =>
    refine mAt.less hl ?_
    rw [c_X10_leaveAlone_2.eq_2] at h
    refine mAt.blk bk_X10_leaveAlone_2 ck_X10_leaveAlone_2 ?_
    refine q_iload_n rfl ?_
    refine q_aload_n rfl ?_
    refine q_getR (ha).1 rfl rfl ?_
    refine q_getI ((ha).2.2.1).1 rfl ?_
    refine q_ic_ge (fun c1 => ?_) (fun c1 => ?_)
    · rw [if_pos c1] at h
      exact okc_X10_leaveAlone_30 ha h ⟨rfl, rfl, rfl, trivial⟩
    · rw [if_neg c1] at h
      refine q_aload_n rfl ?_
      refine q_getR (ha).1 rfl rfl ?_
      refine q_iload_n rfl ?_
      refine q_iconst ?_
      refine q_iconst ?_
      refine q_iconst ?_
      obtain ⟨q2, e2, h⟩ := mbind h
      refine q_vV4 mcap_0 rfl rfl ((ha).2.2.1).1 rfl (by decide) (ok_X7_place (ha).2.2.1 e2) ?_
      refine q_iinc rfl rfl ?_
      refine q_goto ?_
      exact ih  h ⟨rfl, rfl, rfl, rfl, trivial⟩
def f_X10_leaveAlone (a a_sl a_tk : Nat) (p0 : Int32) (p1 : Int32) (σ : Sg) : Option (Sg) := (c_X10_leaveAlone_2  a a_sl a_tk 1000 p0 p1 (0 : Int32) σ)
set_option maxHeartbeats 4000000 in
theorem ok_X10_leaveAlone {L : Nat} {a a_sl a_tk : Nat} {p0 : Int32} {p1 : Int32} {σ : Sg} {R : Sg} (ha : P10 a a_sl a_tk) (h : f_X10_leaveAlone a a_sl a_tk p0 p1 σ = some R) : mEv 2 79 [.ref a, .int p0, .int p1] (mSh, L, σ) none (mSh, L, R) := by
  refine mEv.of (by decide) rfl rfl ?_
  unfold f_X10_leaveAlone at h
  refine mAt.blk bk_X10_leaveAlone_0 ck_X10_leaveAlone_0 ?_
  refine q_iconst ?_
  refine q_istore_n rfl rfl ?_
  exact okc_X10_leaveAlone_2 ha h ⟨rfl, rfl, rfl, rfl, trivial⟩
def bk_X11_error_0 : List mI := [(.aload_n 0, 1, 0, 0, 0, []), (.getfield 75, 3, 11, 9, 370, []), (.iload_n 1, 1, 0, 0, 0, []), (.aload_n 0, 1, 0, 0, 0, []), (.getfield 75, 3, 11, 9, 370, []), (.iload_n 1, 1, 0, 0, 0, []), (.invokestatic 122, 3, 130, 0, 403, []), (.iconst 1, 1, 0, 0, 0, [(1, 0)]), (.iadd, 1, 0, 0, 0, []), (.invokestatic 126, 3, 131, 0, 406, []), (.ldc_w 326, 3, 0, 0, 409, [((-1000000000), 0)]), (.iload_n 1, 1, 0, 0, 0, []), (.isub, 1, 0, 0, 0, []), (.ireturn, 1, 0, 0, 0, [])]
theorem ck_X11_error_0 : mChk 123 0 bk_X11_error_0 = true := by decide +kernel
def f_X11_error (p0 : Int32) (σ : Sg) : Option (Int32 × Sg) := ((f_X11_pick 92 6 p0 σ).bind fun q1 => ((f_X11_lay 92 6 p0 (q1 + (1 : Int32)) σ).bind fun q2 => (some (((-1000000000 : Int32) - p0), q2))))
set_option maxHeartbeats 4000000 in
theorem ok_X11_error {L : Nat} {p0 : Int32} {σ : Sg} {R : Int32 × Sg} (h : f_X11_error p0 σ = some R) : mEv 1 123 [.ref 0, .int p0] (mSh, L, σ) (some (.int R.1)) (mSh, L, R.2) := by
  refine mEv.of (by decide) rfl rfl ?_
  unfold f_X11_error at h
  refine mAt.blk bk_X11_error_0 ck_X11_error_0 ?_
  refine q_aload_n rfl ?_
  refine q_getR ob_0 rfl rfl ?_
  refine q_iload_n rfl ?_
  refine q_aload_n rfl ?_
  refine q_getR ob_0 rfl rfl ?_
  refine q_iload_n rfl ?_
  obtain ⟨q1, e1, h⟩ := mbind h
  refine q_sI2 mcap_0 rfl rfl rfl rfl (by decide) (ok_X11_pick (mrd ar_92) e1) ?_
  refine q_iconst ?_
  refine q_iadd ?_
  obtain ⟨q2, e2, h⟩ := mbind h
  refine q_sV3 mcap_0 rfl rfl rfl rfl (by decide) (ok_X11_lay ar_92 e2) ?_
  refine q_ldc_w ?_
  refine q_iload_n rfl ?_
  refine q_isub ?_
  have h := Option.some.inj h
  subst h
  exact q_iretI mcap_0 rfl rfl
def bk_X11_well_0 : List mI := [(.aload_n 0, 1, 0, 0, 0, []), (.getfield 31, 3, 11, 0, 361, []), (.getfield 79, 3, 10, 0, 250, []), (.getfield 83, 3, 9, 4, 194, []), (.bipush 9, 2, 0, 0, 0, [(9, 0)]), (.if_icmp .lt 9, 3, 21, 0, 0, []), (.aload_n 0, 1, 0, 0, 0, []), (.iconst 4, 1, 0, 0, 0, [(4, 0)]), (.invokevirtual 89, 3, 123, 0, 399, []), (.ireturn, 1, 0, 0, 0, [])]
theorem ck_X11_well_0 : mChk 81 0 bk_X11_well_0 = true := by decide +kernel
def bk_X11_well_21 : List mI := [(.aload_n 0, 1, 0, 0, 0, []), (.getfield 31, 3, 11, 0, 361, []), (.getfield 79, 3, 10, 0, 250, []), (.invokevirtual 93, 3, 55, 0, 410, []), (.ireturn, 1, 0, 0, 0, [])]
theorem ck_X11_well_21 : mChk 81 21 bk_X11_well_21 = true := by decide +kernel
def f_X11_well (σ : Sg) : Option (Int32 × Sg) := (if (σ 32 4) < (9 : Int32) then ((f_X9_dig 32 σ).bind fun q2 => (some (q2.1, q2.2))) else ((f_X11_error (4 : Int32) σ).bind fun q3 => (some (q3.1, q3.2))))
set_option maxHeartbeats 4000000 in
theorem ok_X11_well {L : Nat} {σ : Sg} {R : Int32 × Sg} (h : f_X11_well σ = some R) : mEv 3 81 [.ref 0] (mSh, L, σ) (some (.int R.1)) (mSh, L, R.2) := by
  refine mEv.of (by decide) rfl rfl ?_
  unfold f_X11_well at h
  refine mAt.blk bk_X11_well_0 ck_X11_well_0 ?_
  refine q_aload_n rfl ?_
  refine q_getR ob_0 rfl rfl ?_
  refine q_getR ob_31 rfl rfl ?_
  refine q_getI ob_32 rfl ?_
  refine q_bipush ?_
  refine q_ic_lt (fun c1 => ?_) (fun c1 => ?_)
  · rw [if_pos c1] at h
    refine mAt.blk bk_X11_well_21 ck_X11_well_21 ?_
    refine q_aload_n rfl ?_
    refine q_getR ob_0 rfl rfl ?_
    refine q_getR ob_31 rfl rfl ?_
    obtain ⟨q2, e2, h⟩ := mbind h
    refine q_vI0 mcap_0 rfl rfl ob_32 rfl (by decide) (ok_X9_dig p9_32 e2) ?_
    have h := Option.some.inj h
    subst h
    exact q_iretI mcap_0 rfl rfl
  · rw [if_neg c1] at h
    refine q_aload_n rfl ?_
    refine q_iconst ?_
    obtain ⟨q3, e3, h⟩ := mbind h
    refine q_vI1 mcap_0 rfl rfl ob_0 rfl (by decide) (ok_X11_error  e3) ?_
    have h := Option.some.inj h
    subst h
    exact q_iretI mcap_0 rfl rfl
def bk_X11_going_0 : List mI := [(.aload_n 0, 1, 0, 0, 0, []), (.getfield 31, 3, 11, 0, 361, []), (.getfield 79, 3, 10, 0, 250, []), (.astore 4, 2, 0, 0, 0, []), (.aload 4, 2, 0, 0, 0, []), (.iload_n 1, 1, 0, 0, 0, []), (.invokevirtual 97, 3, 54, 0, 423, []), (.ifCond .eq 13, 3, 28, 0, 0, []), (.aload 4, 2, 0, 0, 0, []), (.iload_n 2, 1, 0, 0, 0, []), (.iload_n 3, 1, 0, 0, 0, []), (.invokevirtual 101, 3, 56, 0, 427, []), (.ifCond .ne 9, 3, 34, 0, 0, [])]
theorem ck_X11_going_0 : mChk 82 0 bk_X11_going_0 = true := by decide +kernel
def bk_X11_going_28 : List mI := [(.aload_n 0, 1, 0, 0, 0, []), (.iconst 1, 1, 0, 0, 0, [(1, 0)]), (.invokevirtual 89, 3, 123, 0, 399, []), (.ireturn, 1, 0, 0, 0, [])]
theorem ck_X11_going_28 : mChk 82 28 bk_X11_going_28 = true := by decide +kernel
def bk_X11_going_34 : List mI := [(.aload 4, 2, 0, 0, 0, []), (.iload_n 1, 1, 0, 0, 0, []), (.invokevirtual 105, 3, 58, 0, 435, []), (.istore 5, 2, 0, 0, 0, []), (.aload 4, 2, 0, 0, 0, []), (.iload_n 1, 1, 0, 0, 0, []), (.iload_n 2, 1, 0, 0, 0, []), (.iload_n 3, 1, 0, 0, 0, []), (.invokevirtual 108, 3, 57, 0, 440, []), (.iload 5, 2, 0, 0, 0, []), (.ireturn, 1, 0, 0, 0, [])]
theorem ck_X11_going_34 : mChk 82 34 bk_X11_going_34 = true := by decide +kernel
def f_X11_going (p0 : Int32) (p1 : Int32) (p2 : Int32) (σ : Sg) : Option (Int32 × Sg) := ((f_X9_has 32 p0 σ).bind fun q1 => (if q1 = 0 then ((f_X11_error (1 : Int32) σ).bind fun q3 => (some (q3.1, q3.2))) else ((f_X9_allows 32 p1 p2 σ).bind fun q4 => (if q4 = 0 then ((f_X11_error (1 : Int32) σ).bind fun q8 => (some (q8.1, q8.2))) else ((f_X9_leadsTo 32 p0 σ).bind fun q6 => ((f_X9_lead 32 p0 p1 p2 σ).bind fun q7 => (some (q6, q7))))))))
set_option maxHeartbeats 4000000 in
theorem ok_X11_going {L : Nat} {p0 : Int32} {p1 : Int32} {p2 : Int32} {σ : Sg} {R : Int32 × Sg} (h : f_X11_going p0 p1 p2 σ = some R) : mEv 2 82 [.ref 0, .int p0, .int p1, .int p2] (mSh, L, σ) (some (.int R.1)) (mSh, L, R.2) := by
  refine mEv.of (by decide) rfl rfl ?_
  unfold f_X11_going at h
  refine mAt.blk bk_X11_going_0 ck_X11_going_0 ?_
  refine q_aload_n rfl ?_
  refine q_getR ob_0 rfl rfl ?_
  refine q_getR ob_31 rfl rfl ?_
  refine q_astore rfl rfl ?_
  refine q_aload rfl ?_
  refine q_iload_n rfl ?_
  obtain ⟨q1, e1, h⟩ := mbind h
  refine q_vI1 mcap_0 rfl rfl ob_32 rfl (by decide) (ok_X9_has p9_32 e1) ?_
  refine q_if_eq (fun c2 => ?_) (fun c2 => ?_)
  · rw [if_pos c2] at h
    refine mAt.blk bk_X11_going_28 ck_X11_going_28 ?_
    refine q_aload_n rfl ?_
    refine q_iconst ?_
    obtain ⟨q3, e3, h⟩ := mbind h
    refine q_vI1 mcap_0 rfl rfl ob_0 rfl (by decide) (ok_X11_error  e3) ?_
    have h := Option.some.inj h
    subst h
    exact q_iretI mcap_0 rfl rfl
  · rw [if_neg c2] at h
    refine q_aload rfl ?_
    refine q_iload_n rfl ?_
    refine q_iload_n rfl ?_
    obtain ⟨q4, e4, h⟩ := mbind h
    refine q_vI2 mcap_0 rfl rfl ob_32 rfl (by decide) (ok_X9_allows p9_32 e4) ?_
    refine q_if_ne (fun c5 => ?_) (fun c5 => ?_)
    · rw [if_pos c5] at h
      refine mAt.blk bk_X11_going_28 ck_X11_going_28 ?_
      refine q_aload_n rfl ?_
      refine q_iconst ?_
      obtain ⟨q8, e8, h⟩ := mbind h
      refine q_vI1 mcap_0 rfl rfl ob_0 rfl (by decide) (ok_X11_error  e8) ?_
      have h := Option.some.inj h
      subst h
      exact q_iretI mcap_0 rfl rfl
    · rw [if_neg c5] at h
      refine mAt.blk bk_X11_going_34 ck_X11_going_34 ?_
      refine q_aload rfl ?_
      refine q_iload_n rfl ?_
      obtain ⟨q6, e6, h⟩ := mbind h
      refine q_vI1 mcap_0 rfl rfl ob_32 rfl (by decide) (ok_X9_leadsTo p9_32 e6) ?_
      refine q_istore rfl rfl ?_
      refine q_aload rfl ?_
      refine q_iload_n rfl ?_
      refine q_iload_n rfl ?_
      refine q_iload_n rfl ?_
      obtain ⟨q7, e7, h⟩ := mbind h
      refine q_vV3 mcap_0 rfl rfl ob_32 rfl (by decide) (ok_X9_lead p9_32 e7) ?_
      refine q_iload rfl ?_
      have h := Option.some.inj h
      subst h
      exact q_iretI mcap_0 rfl rfl
def bk_X11_set_0 : List mI := [(.aload_n 0, 1, 0, 0, 0, []), (.getfield 31, 3, 11, 0, 361, []), (.getfield 79, 3, 10, 0, 250, []), (.iload_n 1, 1, 0, 0, 0, []), (.invokevirtual 97, 3, 54, 0, 423, []), (.ifCond .eq 12, 3, 23, 0, 0, []), (.iload_n 2, 1, 0, 0, 0, []), (.ifCond .lt 8, 3, 23, 0, 0, []), (.iload_n 2, 1, 0, 0, 0, []), (.iconst 1, 1, 0, 0, 0, [(1, 0)]), (.if_icmp .le 9, 3, 29, 0, 0, [])]
theorem ck_X11_set_0 : mChk 83 0 bk_X11_set_0 = true := by decide +kernel
def bk_X11_set_23 : List mI := [(.aload_n 0, 1, 0, 0, 0, []), (.iconst 1, 1, 0, 0, 0, [(1, 0)]), (.invokevirtual 89, 3, 123, 0, 399, []), (.ireturn, 1, 0, 0, 0, [])]
theorem ck_X11_set_23 : mChk 83 23 bk_X11_set_23 = true := by decide +kernel
def bk_X11_set_29 : List mI := [(.iload_n 3, 1, 0, 0, 0, []), (.iconst 0, 1, 0, 0, 0, [(0, 0)]), (.iload_n 2, 1, 0, 0, 0, []), (.ifCond .ne 8, 3, 40, 0, 0, []), (.bipush 99, 2, 0, 0, 0, [(99, 0)]), (.goto 4, 3, 41, 0, 0, [])]
theorem ck_X11_set_29 : mChk 83 29 bk_X11_set_29 = true := by decide +kernel
def bk_X11_set_40 : List mI := [(.iconst 1, 1, 0, 0, 0, [(1, 0)])]
theorem ck_X11_set_40 : mChk 83 40 bk_X11_set_40 = true := by decide +kernel
def bk_X11_set_41 : List mI := [(.invokestatic 112, 3, 125, 0, 445, []), (.ifCond .ne 9, 3, 53, 0, 0, []), (.aload_n 0, 1, 0, 0, 0, []), (.iconst 1, 1, 0, 0, 0, [(1, 0)]), (.invokevirtual 89, 3, 123, 0, 399, []), (.ireturn, 1, 0, 0, 0, [])]
theorem ck_X11_set_41 : mChk 83 41 bk_X11_set_41 = true := by decide +kernel
def bk_X11_set_53 : List mI := [(.iload_n 2, 1, 0, 0, 0, []), (.ifCond .ne 16, 3, 70, 0, 0, []), (.aload_n 0, 1, 0, 0, 0, []), (.getfield 31, 3, 11, 0, 361, []), (.getfield 79, 3, 10, 0, 250, []), (.getfield 116, 3, 9, 2, 189, []), (.goto 13, 3, 80, 0, 0, [])]
theorem ck_X11_set_53 : mChk 83 53 bk_X11_set_53 = true := by decide +kernel
def bk_X11_set_70 : List mI := [(.aload_n 0, 1, 0, 0, 0, []), (.getfield 31, 3, 11, 0, 361, []), (.getfield 79, 3, 10, 0, 250, []), (.getfield 119, 3, 9, 3, 192, [])]
theorem ck_X11_set_70 : mChk 83 70 bk_X11_set_70 = true := by decide +kernel
def bk_X11_set_80 : List mI := [(.astore 4, 2, 0, 0, 0, []), (.aload 4, 2, 0, 0, 0, []), (.iload_n 1, 1, 0, 0, 0, []), (.invokestatic 122, 3, 130, 0, 403, []), (.istore 5, 2, 0, 0, 0, []), (.aload 4, 2, 0, 0, 0, []), (.iload_n 1, 1, 0, 0, 0, []), (.iload_n 3, 1, 0, 0, 0, []), (.invokestatic 126, 3, 131, 0, 406, []), (.iload 5, 2, 0, 0, 0, []), (.ireturn, 1, 0, 0, 0, [])]
theorem ck_X11_set_80 : mChk 83 80 bk_X11_set_80 = true := by decide +kernel
def c_X11_set_80 (x1 : Int32) (x3 : Int32) (s0 : Nat) (σ : Sg) : Option (Int32 × Sg) := ((f_X11_pick s0 9 x1 σ).bind fun q5 => ((f_X11_lay s0 9 x1 x3 σ).bind fun q6 => (some (q5, q6))))
set_option maxHeartbeats 4000000 in
theorem okc_X11_set_80 {L : Nat} {R : Int32 × Sg} {x1 : Int32} {x3 : Int32} {s0 : Nat} {σ : Sg} {pl : mLoc} (hs0 : mnth mSh s0 = some (1, 9, [])) (h : c_X11_set_80 x1 x3 s0 σ = some R) (hl : mlf [none, some (.int x1), none, some (.int x3), none, none] pl) : mAt 2 83 (some (.int R.1), (mSh, L, R.2)) 80 pl [.ref s0] (mSh, L, σ) 0 0 := by
  refine mAt.less hl ?_
  unfold c_X11_set_80 at h
  refine mAt.blk bk_X11_set_80 ck_X11_set_80 ?_
  refine q_astore rfl rfl ?_
  refine q_aload rfl ?_
  refine q_iload_n rfl ?_
  obtain ⟨q5, e5, h⟩ := mbind h
  refine q_sI2 mcap_0 rfl rfl rfl rfl (by decide) (ok_X11_pick (mrd hs0) e5) ?_
  refine q_istore rfl rfl ?_
  refine q_aload rfl ?_
  refine q_iload_n rfl ?_
  refine q_iload_n rfl ?_
  obtain ⟨q6, e6, h⟩ := mbind h
  refine q_sV3 mcap_0 rfl rfl rfl rfl (by decide) (ok_X11_lay hs0 e6) ?_
  refine q_iload rfl ?_
  have h := Option.some.inj h
  subst h
  exact q_iretI mcap_0 rfl rfl
def c_X11_set_41 (x1 : Int32) (x2 : Int32) (x3 : Int32) (s0 : Int32) (s1 : Int32) (s2 : Int32) (σ : Sg) : Option (Int32 × Sg) := ((f_X11_within s0 s1 s2 σ).bind fun q1 => (if q1 = 0 then ((f_X11_error (1 : Int32) σ).bind fun q4 => (some (q4.1, q4.2))) else (if x2 = 0 then (c_X11_set_80   x1 x3 35 σ) else (c_X11_set_80   x1 x3 36 σ))))
set_option maxHeartbeats 4000000 in
theorem okc_X11_set_41 {L : Nat} {R : Int32 × Sg} {x1 : Int32} {x2 : Int32} {x3 : Int32} {s0 : Int32} {s1 : Int32} {s2 : Int32} {σ : Sg} {pl : mLoc} (h : c_X11_set_41 x1 x2 x3 s0 s1 s2 σ = some R) (hl : mlf [some (.ref 0), some (.int x1), some (.int x2), some (.int x3), none, none] pl) : mAt 2 83 (some (.int R.1), (mSh, L, R.2)) 41 pl [.int s2, .int s1, .int s0] (mSh, L, σ) 0 0 := by
  refine mAt.less hl ?_
  unfold c_X11_set_41 at h
  refine mAt.blk bk_X11_set_41 ck_X11_set_41 ?_
  obtain ⟨q1, e1, h⟩ := mbind h
  refine q_sI3 mcap_0 rfl rfl rfl rfl (by decide) (ok_X11_within  e1) ?_
  refine q_if_ne (fun c2 => ?_) (fun c2 => ?_)
  · rw [if_pos c2] at h
    refine q_aload_n rfl ?_
    refine q_iconst ?_
    obtain ⟨q4, e4, h⟩ := mbind h
    refine q_vI1 mcap_0 rfl rfl ob_0 rfl (by decide) (ok_X11_error  e4) ?_
    have h := Option.some.inj h
    subst h
    exact q_iretI mcap_0 rfl rfl
  · rw [if_neg c2] at h
    refine mAt.blk bk_X11_set_53 ck_X11_set_53 ?_
    refine q_iload_n rfl ?_
    refine q_if_ne (fun c3 => ?_) (fun c3 => ?_)
    · rw [if_pos c3] at h
      refine q_aload_n rfl ?_
      refine q_getR ob_0 rfl rfl ?_
      refine q_getR ob_31 rfl rfl ?_
      refine q_getR ob_32 rfl rfl ?_
      refine q_goto ?_
      exact okc_X11_set_80 ar_35 h ⟨rfl, rfl, trivial⟩
    · rw [if_neg c3] at h
      refine mAt.blk bk_X11_set_70 ck_X11_set_70 ?_
      refine q_aload_n rfl ?_
      refine q_getR ob_0 rfl rfl ?_
      refine q_getR ob_31 rfl rfl ?_
      refine q_getR ob_32 rfl rfl ?_
      exact okc_X11_set_80 ar_36 h ⟨rfl, rfl, trivial⟩
def f_X11_set (p0 : Int32) (p1 : Int32) (p2 : Int32) (σ : Sg) : Option (Int32 × Sg) := ((f_X9_has 32 p0 σ).bind fun q7 => (if q7 = 0 then ((f_X11_error (1 : Int32) σ).bind fun q9 => (some (q9.1, q9.2))) else (if p1 < 0 then ((f_X11_error (1 : Int32) σ).bind fun q11 => (some (q11.1, q11.2))) else (if p1 ≤ (1 : Int32) then (if p1 = 0 then (c_X11_set_41   p0 p1 p2 p2 (0 : Int32) (99 : Int32) σ) else (c_X11_set_41   p0 p1 p2 p2 (0 : Int32) (1 : Int32) σ)) else ((f_X11_error (1 : Int32) σ).bind fun q14 => (some (q14.1, q14.2)))))))
set_option maxHeartbeats 4000000 in
theorem ok_X11_set {L : Nat} {p0 : Int32} {p1 : Int32} {p2 : Int32} {σ : Sg} {R : Int32 × Sg} (h : f_X11_set p0 p1 p2 σ = some R) : mEv 2 83 [.ref 0, .int p0, .int p1, .int p2] (mSh, L, σ) (some (.int R.1)) (mSh, L, R.2) := by
  refine mEv.of (by decide) rfl rfl ?_
  unfold f_X11_set at h
  refine mAt.blk bk_X11_set_0 ck_X11_set_0 ?_
  refine q_aload_n rfl ?_
  refine q_getR ob_0 rfl rfl ?_
  refine q_getR ob_31 rfl rfl ?_
  refine q_iload_n rfl ?_
  obtain ⟨q7, e7, h⟩ := mbind h
  refine q_vI1 mcap_0 rfl rfl ob_32 rfl (by decide) (ok_X9_has p9_32 e7) ?_
  refine q_if_eq (fun c8 => ?_) (fun c8 => ?_)
  · rw [if_pos c8] at h
    refine mAt.blk bk_X11_set_23 ck_X11_set_23 ?_
    refine q_aload_n rfl ?_
    refine q_iconst ?_
    obtain ⟨q9, e9, h⟩ := mbind h
    refine q_vI1 mcap_0 rfl rfl ob_0 rfl (by decide) (ok_X11_error  e9) ?_
    have h := Option.some.inj h
    subst h
    exact q_iretI mcap_0 rfl rfl
  · rw [if_neg c8] at h
    refine q_iload_n rfl ?_
    refine q_if_lt (fun c10 => ?_) (fun c10 => ?_)
    · rw [if_pos c10] at h
      refine mAt.blk bk_X11_set_23 ck_X11_set_23 ?_
      refine q_aload_n rfl ?_
      refine q_iconst ?_
      obtain ⟨q11, e11, h⟩ := mbind h
      refine q_vI1 mcap_0 rfl rfl ob_0 rfl (by decide) (ok_X11_error  e11) ?_
      have h := Option.some.inj h
      subst h
      exact q_iretI mcap_0 rfl rfl
    · rw [if_neg c10] at h
      refine q_iload_n rfl ?_
      refine q_iconst ?_
      refine q_ic_le (fun c12 => ?_) (fun c12 => ?_)
      · rw [if_pos c12] at h
        refine mAt.blk bk_X11_set_29 ck_X11_set_29 ?_
        refine q_iload_n rfl ?_
        refine q_iconst ?_
        refine q_iload_n rfl ?_
        refine q_if_ne (fun c13 => ?_) (fun c13 => ?_)
        · rw [if_pos c13] at h
          refine q_bipush ?_
          refine q_goto ?_
          exact okc_X11_set_41  h ⟨rfl, rfl, rfl, rfl, trivial⟩
        · rw [if_neg c13] at h
          refine mAt.blk bk_X11_set_40 ck_X11_set_40 ?_
          refine q_iconst ?_
          exact okc_X11_set_41  h ⟨rfl, rfl, rfl, rfl, trivial⟩
      · rw [if_neg c12] at h
        refine mAt.blk bk_X11_set_23 ck_X11_set_23 ?_
        refine q_aload_n rfl ?_
        refine q_iconst ?_
        obtain ⟨q14, e14, h⟩ := mbind h
        refine q_vI1 mcap_0 rfl rfl ob_0 rfl (by decide) (ok_X11_error  e14) ?_
        have h := Option.some.inj h
        subst h
        exact q_iretI mcap_0 rfl rfl
