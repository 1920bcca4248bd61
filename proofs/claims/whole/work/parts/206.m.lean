def bk_X11_ofWell_0 : List mI := [(.aload_n 0, 1, 0, 0, 0, []), (.getfield 31, 3, 11, 0, 361, []), (.getfield 79, 3, 10, 0, 250, []), (.astore_n 3, 1, 0, 0, 0, []), (.aload_n 3, 1, 0, 0, 0, []), (.iload_n 1, 1, 0, 0, 0, []), (.invokevirtual 97, 3, 54, 0, 423, []), (.ifCond .ne 9, 3, 22, 0, 0, []), (.aload_n 0, 1, 0, 0, 0, []), (.iconst 1, 1, 0, 0, 0, [(1, 0)]), (.invokevirtual 89, 3, 123, 0, 399, []), (.ireturn, 1, 0, 0, 0, [])]
theorem ck_X11_ofWell_0 : mChk 84 0 bk_X11_ofWell_0 = true := by decide +kernel
def bk_X11_ofWell_22 : List mI := [(.iload_n 2, 1, 0, 0, 0, []), (.tableswitch 93 0 5 #[37, 43, 49, 58, 67, 80], 37, 116, 0, 0, [(0, 60), (1, 66), (2, 72), (3, 81), (4, 90), (5, 103)])]
theorem ck_X11_ofWell_22 : mChk 84 22 bk_X11_ofWell_22 = true := by decide +kernel
def bk_X11_ofWell_60 : List mI := [(.aload_n 3, 1, 0, 0, 0, []), (.iload_n 1, 1, 0, 0, 0, []), (.invokevirtual 105, 3, 58, 0, 435, []), (.ireturn, 1, 0, 0, 0, [])]
theorem ck_X11_ofWell_60 : mChk 84 60 bk_X11_ofWell_60 = true := by decide +kernel
def bk_X11_ofWell_66 : List mI := [(.aload_n 3, 1, 0, 0, 0, []), (.iload_n 1, 1, 0, 0, 0, []), (.invokevirtual 130, 3, 59, 0, 450, []), (.ireturn, 1, 0, 0, 0, [])]
theorem ck_X11_ofWell_66 : mChk 84 66 bk_X11_ofWell_66 = true := by decide +kernel
def bk_X11_ofWell_72 : List mI := [(.aload_n 3, 1, 0, 0, 0, []), (.getfield 116, 3, 9, 2, 189, []), (.iload_n 1, 1, 0, 0, 0, []), (.invokestatic 122, 3, 130, 0, 403, []), (.ireturn, 1, 0, 0, 0, [])]
theorem ck_X11_ofWell_72 : mChk 84 72 bk_X11_ofWell_72 = true := by decide +kernel
def bk_X11_ofWell_81 : List mI := [(.aload_n 3, 1, 0, 0, 0, []), (.getfield 119, 3, 9, 3, 192, []), (.iload_n 1, 1, 0, 0, 0, []), (.invokestatic 122, 3, 130, 0, 403, []), (.ireturn, 1, 0, 0, 0, [])]
theorem ck_X11_ofWell_81 : mChk 84 81 bk_X11_ofWell_81 = true := by decide +kernel
def bk_X11_ofWell_90 : List mI := [(.aload_n 0, 1, 0, 0, 0, []), (.getfield 31, 3, 11, 0, 361, []), (.getfield 133, 3, 10, 1, 252, []), (.iconst 0, 1, 0, 0, 0, [(0, 0)]), (.iload_n 1, 1, 0, 0, 0, []), (.invokevirtual 137, 3, 43, 0, 454, []), (.ireturn, 1, 0, 0, 0, [])]
theorem ck_X11_ofWell_90 : mChk 84 90 bk_X11_ofWell_90 = true := by decide +kernel
def bk_X11_ofWell_103 : List mI := [(.aload_n 0, 1, 0, 0, 0, []), (.getfield 31, 3, 11, 0, 361, []), (.getfield 133, 3, 10, 1, 252, []), (.iconst 1, 1, 0, 0, 0, [(1, 0)]), (.iload_n 1, 1, 0, 0, 0, []), (.invokevirtual 137, 3, 43, 0, 454, []), (.ireturn, 1, 0, 0, 0, [])]
theorem ck_X11_ofWell_103 : mChk 84 103 bk_X11_ofWell_103 = true := by decide +kernel
def bk_X11_ofWell_116 : List mI := [(.aload_n 0, 1, 0, 0, 0, []), (.iconst 1, 1, 0, 0, 0, [(1, 0)]), (.invokevirtual 89, 3, 123, 0, 399, []), (.ireturn, 1, 0, 0, 0, [])]
theorem ck_X11_ofWell_116 : mChk 84 116 bk_X11_ofWell_116 = true := by decide +kernel
def f_X11_ofWell (p0 : Int32) (p1 : Int32) (σ : Sg) : Option (Int32 × Sg) := ((f_X9_has 32 p0 σ).bind fun q1 => (if q1 = 0 then ((f_X11_error (1 : Int32) σ).bind fun q16 => (some (q16.1, q16.2))) else (if p1 = (0 : Int32) then ((f_X9_leadsTo 32 p0 σ).bind fun q3 => (some (q3, σ))) else (if p1 = (1 : Int32) then ((f_X9_daysOf 32 p0 σ).bind fun q4 => (some (q4, σ))) else (if p1 = (2 : Int32) then ((f_X11_pick 35 9 p0 σ).bind fun q5 => (some (q5, σ))) else (if p1 = (3 : Int32) then ((f_X11_pick 36 9 p0 σ).bind fun q6 => (some (q6, σ))) else (if p1 = (4 : Int32) then ((f_X7_bits 37 (0 : Int32) p0 σ).bind fun q7 => (some (q7, σ))) else (if p1 = (5 : Int32) then ((f_X7_bits 37 (1 : Int32) p0 σ).bind fun q8 => (some (q8, σ))) else ((f_X11_error (1 : Int32) σ).bind fun q9 => (some (q9.1, q9.2)))))))))))
set_option maxHeartbeats 4000000 in
theorem ok_X11_ofWell {L : Nat} {p0 : Int32} {p1 : Int32} {σ : Sg} {R : Int32 × Sg} (h : f_X11_ofWell p0 p1 σ = some R) : mEv 2 84 [.ref 0, .int p0, .int p1] (mSh, L, σ) (some (.int R.1)) (mSh, L, R.2) := by
  refine mEv.of (by decide) rfl rfl ?_
  unfold f_X11_ofWell at h
  refine mAt.blk bk_X11_ofWell_0 ck_X11_ofWell_0 ?_
  refine q_aload_n rfl ?_
  refine q_getR ob_0 rfl rfl ?_
  refine q_getR ob_31 rfl rfl ?_
  refine q_astore_n rfl rfl ?_
  refine q_aload_n rfl ?_
  refine q_iload_n rfl ?_
  obtain ⟨q1, e1, h⟩ := mbind h
  refine q_vI1 mcap_0 rfl rfl ob_32 rfl (by decide) (ok_X9_has p9_32 e1) ?_
  refine q_if_ne (fun c2 => ?_) (fun c2 => ?_)
  · rw [if_pos c2] at h
    refine q_aload_n rfl ?_
    refine q_iconst ?_
    obtain ⟨q16, e16, h⟩ := mbind h
    refine q_vI1 mcap_0 rfl rfl ob_0 rfl (by decide) (ok_X11_error  e16) ?_
    have h := Option.some.inj h
    subst h
    exact q_iretI mcap_0 rfl rfl
  · rw [if_neg c2] at h
    refine mAt.blk bk_X11_ofWell_22 ck_X11_ofWell_22 ?_
    refine q_iload_n rfl ?_
    refine q_tsw ?_
    refine ⟨fun c15 => ?_, fun c15 => ?_⟩
    · rw [if_pos c15] at h
      refine mAt.blk bk_X11_ofWell_60 ck_X11_ofWell_60 ?_
      refine q_aload_n rfl ?_
      refine q_iload_n rfl ?_
      obtain ⟨q3, e3, h⟩ := mbind h
      refine q_vI1 mcap_0 rfl rfl ob_32 rfl (by decide) (ok_X9_leadsTo p9_32 e3) ?_
      have h := Option.some.inj h
      subst h
      exact q_iretI mcap_0 rfl rfl
    · rw [if_neg c15] at h
      refine ⟨fun c14 => ?_, fun c14 => ?_⟩
      · rw [if_pos c14] at h
        refine mAt.blk bk_X11_ofWell_66 ck_X11_ofWell_66 ?_
        refine q_aload_n rfl ?_
        refine q_iload_n rfl ?_
        obtain ⟨q4, e4, h⟩ := mbind h
        refine q_vI1 mcap_0 rfl rfl ob_32 rfl (by decide) (ok_X9_daysOf p9_32 e4) ?_
        have h := Option.some.inj h
        subst h
        exact q_iretI mcap_0 rfl rfl
      · rw [if_neg c14] at h
        refine ⟨fun c13 => ?_, fun c13 => ?_⟩
        · rw [if_pos c13] at h
          refine mAt.blk bk_X11_ofWell_72 ck_X11_ofWell_72 ?_
          refine q_aload_n rfl ?_
          refine q_getR ob_32 rfl rfl ?_
          refine q_iload_n rfl ?_
          obtain ⟨q5, e5, h⟩ := mbind h
          refine q_sI2 mcap_0 rfl rfl rfl rfl (by decide) (ok_X11_pick (mrd ar_35) e5) ?_
          have h := Option.some.inj h
          subst h
          exact q_iretI mcap_0 rfl rfl
        · rw [if_neg c13] at h
          refine ⟨fun c12 => ?_, fun c12 => ?_⟩
          · rw [if_pos c12] at h
            refine mAt.blk bk_X11_ofWell_81 ck_X11_ofWell_81 ?_
            refine q_aload_n rfl ?_
            refine q_getR ob_32 rfl rfl ?_
            refine q_iload_n rfl ?_
            obtain ⟨q6, e6, h⟩ := mbind h
            refine q_sI2 mcap_0 rfl rfl rfl rfl (by decide) (ok_X11_pick (mrd ar_36) e6) ?_
            have h := Option.some.inj h
            subst h
            exact q_iretI mcap_0 rfl rfl
          · rw [if_neg c12] at h
            refine ⟨fun c11 => ?_, fun c11 => ?_⟩
            · rw [if_pos c11] at h
              refine mAt.blk bk_X11_ofWell_90 ck_X11_ofWell_90 ?_
              refine q_aload_n rfl ?_
              refine q_getR ob_0 rfl rfl ?_
              refine q_getR ob_31 rfl rfl ?_
              refine q_iconst ?_
              refine q_iload_n rfl ?_
              obtain ⟨q7, e7, h⟩ := mbind h
              refine q_vI2 mcap_0 rfl rfl ob_37 rfl (by decide) (ok_X7_bits p7_37 e7) ?_
              have h := Option.some.inj h
              subst h
              exact q_iretI mcap_0 rfl rfl
            · rw [if_neg c11] at h
              refine ⟨fun c10 => ?_, fun c10 => ?_⟩
              · rw [if_pos c10] at h
                refine mAt.blk bk_X11_ofWell_103 ck_X11_ofWell_103 ?_
                refine q_aload_n rfl ?_
                refine q_getR ob_0 rfl rfl ?_
                refine q_getR ob_31 rfl rfl ?_
                refine q_iconst ?_
                refine q_iload_n rfl ?_
                obtain ⟨q8, e8, h⟩ := mbind h
                refine q_vI2 mcap_0 rfl rfl ob_37 rfl (by decide) (ok_X7_bits p7_37 e8) ?_
                have h := Option.some.inj h
                subst h
                exact q_iretI mcap_0 rfl rfl
              · rw [if_neg c10] at h
                refine mAt.blk bk_X11_ofWell_116 ck_X11_ofWell_116 ?_
                refine q_aload_n rfl ?_
                refine q_iconst ?_
                obtain ⟨q9, e9, h⟩ := mbind h
                refine q_vI1 mcap_0 rfl rfl ob_0 rfl (by decide) (ok_X11_error  e9) ?_
                have h := Option.some.inj h
                subst h
                exact q_iretI mcap_0 rfl rfl
def bk_X11_sheetAt_0 : List mI := [(.iload_n 1, 1, 0, 0, 0, []), (.ifCond .lt 21, 3, 22, 0, 0, []), (.iload_n 1, 1, 0, 0, 0, []), (.aload_n 0, 1, 0, 0, 0, []), (.getfield 70, 3, 11, 8, 369, []), (.arraylength, 1, 0, 0, 0, []), (.if_icmp .ge 12, 3, 22, 0, 0, []), (.aload_n 0, 1, 0, 0, 0, []), (.getfield 70, 3, 11, 8, 369, []), (.iload_n 1, 1, 0, 0, 0, []), (.aaload, 1, 0, 0, 0, []), (.goto 4, 3, 23, 0, 0, [])]
theorem ck_X11_sheetAt_0 : mChk 124 0 bk_X11_sheetAt_0 = true := by decide +kernel
def bk_X11_sheetAt_22 : List mI := [(.aconst_null, 1, 0, 0, 0, [])]
theorem ck_X11_sheetAt_22 : mChk 124 22 bk_X11_sheetAt_22 = true := by decide +kernel
def bk_X11_sheetAt_23 : List mI := [(.areturn, 1, 0, 0, 0, [])]
theorem ck_X11_sheetAt_23 : mChk 124 23 bk_X11_sheetAt_23 = true := by decide +kernel
def f_X11_sheetAt (p0 : Int32) (σ : Sg) : Option (Option Nat) := (if p0 < 0 then (some none) else (if (4 : Int32) ≤ p0 then (some none) else (if p0 < 0 ∨ 4 ≤ (p0).toNatClampNeg then none else (some (some (84 + 2 * (p0).toNatClampNeg))))))
set_option maxHeartbeats 4000000 in
theorem ok_X11_sheetAt {L : Nat} {p0 : Int32} {σ : Sg} {R : Option Nat} (h : f_X11_sheetAt p0 σ = some R) : mEv 0 124 [.ref 0, .int p0] (mSh, L, σ) (some (mpv R)) (mSh, L, σ) := by
  refine mEv.of (by decide) rfl rfl ?_
  unfold f_X11_sheetAt at h
  refine mAt.blk bk_X11_sheetAt_0 ck_X11_sheetAt_0 ?_
  refine q_iload_n rfl ?_
  refine q_if_lt (fun c1 => ?_) (fun c1 => ?_)
  · rw [if_pos c1] at h
    refine mAt.blk bk_X11_sheetAt_22 ck_X11_sheetAt_22 ?_
    refine q_aconst_null ?_
    refine mAt.blk bk_X11_sheetAt_23 ck_X11_sheetAt_23 ?_
    have h := Option.some.inj h
    subst h
    exact q_aretN mcap_0 trivial rfl
  · rw [if_neg c1] at h
    refine q_iload_n rfl ?_
    refine q_aload_n rfl ?_
    refine q_getR ob_0 rfl rfl ?_
    refine q_alenQ (v := (4 : Int32)) rfl aq_83 ?_
    refine q_ic_ge (fun c2 => ?_) (fun c2 => ?_)
    · rw [if_pos c2] at h
      refine mAt.blk bk_X11_sheetAt_22 ck_X11_sheetAt_22 ?_
      refine q_aconst_null ?_
      refine mAt.blk bk_X11_sheetAt_23 ck_X11_sheetAt_23 ?_
      have h := Option.some.inj h
      subst h
      exact q_aretN mcap_0 trivial rfl
    · rw [if_neg c2] at h
      refine q_aload_n rfl ?_
      refine q_getR ob_0 rfl rfl ?_
      refine q_iload_n rfl ?_
      obtain ⟨c3, h⟩ := mnone h
      refine q_aald aq_83 c3 (msheet _ (by have := c3; omega)).1 ?_
      refine q_goto ?_
      refine mAt.blk bk_X11_sheetAt_23 ck_X11_sheetAt_23 ?_
      have h := Option.some.inj h
      subst h
      exact q_aretR mcap_0 trivial rfl
theorem ty_X11_sheetAt {p0 : Int32} {σ : Sg} {z : Nat} (h : f_X11_sheetAt p0 σ = some (some z)) : P5 z := by
  unfold f_X11_sheetAt at h
  split at h
  · cases h
  · split at h
    · cases h
    · obtain ⟨c1, h⟩ := mnone h
      cases h
      exact (msheet _ (by omega)).2
def bk_X11_goings_0 : List mI := [(.aload_n 0, 1, 0, 0, 0, []), (.iload_n 1, 1, 0, 0, 0, []), (.invokevirtual 143, 3, 124, 0, 462, []), (.astore_n 2, 1, 0, 0, 0, []), (.aload_n 2, 1, 0, 0, 0, []), (.ifnonnull 9, 3, 16, 0, 0, []), (.aload_n 0, 1, 0, 0, 0, []), (.iconst 1, 1, 0, 0, 0, [(1, 0)]), (.invokevirtual 89, 3, 123, 0, 399, []), (.ireturn, 1, 0, 0, 0, [])]
theorem ck_X11_goings_0 : mChk 85 0 bk_X11_goings_0 = true := by decide +kernel
def bk_X11_goings_16 : List mI := [(.aload_n 2, 1, 0, 0, 0, []), (.getfield 147, 3, 5, 1, 351, []), (.ifCond .ne 9, 3, 29, 0, 0, []), (.aload_n 0, 1, 0, 0, 0, []), (.iconst 2, 1, 0, 0, 0, [(2, 0)]), (.invokevirtual 89, 3, 123, 0, 399, []), (.ireturn, 1, 0, 0, 0, [])]
theorem ck_X11_goings_16 : mChk 85 16 bk_X11_goings_16 = true := by decide +kernel
def bk_X11_goings_29 : List mI := [(.aload_n 0, 1, 0, 0, 0, []), (.getfield 31, 3, 11, 0, 361, []), (.getfield 79, 3, 10, 0, 250, []), (.astore_n 3, 1, 0, 0, 0, []), (.iconst 0, 1, 0, 0, 0, [(0, 0)]), (.istore 4, 2, 0, 0, 0, []), (.iconst 0, 1, 0, 0, 0, [(0, 0)]), (.istore 5, 2, 0, 0, 0, [])]
theorem ck_X11_goings_29 : mChk 85 29 bk_X11_goings_29 = true := by decide +kernel
def bk_X11_goings_43 : List mI := [(.iload 5, 2, 0, 0, 0, []), (.iconst 1, 1, 0, 0, 0, [(1, 0)]), (.iadd, 1, 0, 0, 0, []), (.aload_n 2, 1, 0, 0, 0, []), (.getfield 149, 3, 5, 2, 353, []), (.if_icmp .ge 69, 3, 120, 0, 0, []), (.iload 4, 2, 0, 0, 0, []), (.aload_n 3, 1, 0, 0, 0, []), (.getfield 83, 3, 9, 4, 194, []), (.if_icmp .ge 60, 3, 120, 0, 0, []), (.aload_n 2, 1, 0, 0, 0, []), (.getfield 150, 3, 5, 0, 349, []), (.iload 5, 2, 0, 0, 0, []), (.invokestatic 122, 3, 130, 0, 403, []), (.istore 6, 2, 0, 0, 0, []), (.aload_n 2, 1, 0, 0, 0, []), (.getfield 150, 3, 5, 0, 349, []), (.iload 5, 2, 0, 0, 0, []), (.iconst 1, 1, 0, 0, 0, [(1, 0)]), (.iadd, 1, 0, 0, 0, []), (.invokestatic 122, 3, 130, 0, 403, []), (.istore 7, 2, 0, 0, 0, []), (.aload_n 3, 1, 0, 0, 0, []), (.iload 6, 2, 0, 0, 0, []), (.iload 7, 2, 0, 0, 0, []), (.invokevirtual 101, 3, 56, 0, 427, []), (.ifCond .ne 6, 3, 101, 0, 0, [])]
theorem ck_X11_goings_43 : mChk 85 43 bk_X11_goings_43 = true := by decide +kernel
def bk_X11_goings_98 : List mI := [(.goto 22, 3, 120, 0, 0, [])]
theorem ck_X11_goings_98 : mChk 85 98 bk_X11_goings_98 = true := by decide +kernel
def bk_X11_goings_101 : List mI := [(.aload_n 3, 1, 0, 0, 0, []), (.iload 4, 2, 0, 0, 0, []), (.iload 6, 2, 0, 0, 0, []), (.iload 7, 2, 0, 0, 0, []), (.invokevirtual 108, 3, 57, 0, 440, []), (.iinc 4 1, 3, 0, 0, 0, [(1, 0)]), (.iinc 5 2, 3, 0, 0, 0, [(2, 0)]), (.goto (-74), 3, 43, 0, 0, [])]
theorem ck_X11_goings_101 : mChk 85 101 bk_X11_goings_101 = true := by decide +kernel
def bk_X11_goings_120 : List mI := [(.iload 4, 2, 0, 0, 0, []), (.ireturn, 1, 0, 0, 0, [])]
theorem ck_X11_goings_120 : mChk 85 120 bk_X11_goings_120 = true := by decide +kernel
def c_X11_goings_98 (x4 : Int32) (σ : Sg) : Option (Int32 × Sg) := (some (x4, σ))
set_option maxHeartbeats 4000000 in
theorem okc_X11_goings_98 {L : Nat} {R : Int32 × Sg} {x4 : Int32} {σ : Sg} {pl : mLoc} (h : c_X11_goings_98 x4 σ = some R) (hl : mlf [none, none, none, none, some (.int x4), none, none, none] pl) : mAt 2 85 (some (.int R.1), (mSh, L, R.2)) 98 pl [] (mSh, L, σ) 0 0 := by
  refine mAt.less hl ?_
  unfold c_X11_goings_98 at h
  refine mAt.blk bk_X11_goings_98 ck_X11_goings_98 ?_
  refine q_goto ?_
  refine mAt.blk bk_X11_goings_120 ck_X11_goings_120 ?_
  refine q_iload rfl ?_
  have h := Option.some.inj h
  subst h
  exact q_iretI mcap_0 rfl rfl
def c_X11_goings_43 : Nat → Nat → Int32 → Int32 → Sg → Option (Int32 × Sg)
  | 0, _, _, _, _ => none
  | n + 1, x2, x4, x5, σ => (if (σ x2 2) ≤ (x5 + (1 : Int32)) then (some (x4, σ)) else (if (σ 32 4) ≤ x4 then (some (x4, σ)) else ((f_X11_pick (x2 + 1) 40 x5 σ).bind fun q3 => ((f_X11_pick (x2 + 1) 40 (x5 + (1 : Int32)) σ).bind fun q4 => ((f_X9_allows 32 q3 q4 σ).bind fun q5 => (if q5 = 0 then (c_X11_goings_98   x4 σ) else ((f_X9_lead 32 x4 q3 q4 σ).bind fun q7 => (c_X11_goings_43  n x2 (x4 + (1 : Int32)) (x5 + (2 : Int32)) q7))))))))
set_option maxHeartbeats 4000000 in
theorem okc_X11_goings_43 {L : Nat} {R : Int32 × Sg} {n : Nat} {x2 : Nat} {x4 : Int32} {x5 : Int32} {σ : Sg} {pl : mLoc} (hx2 : P5 x2) (h : c_X11_goings_43 n x2 x4 x5 σ = some R) (hl : mlf [none, none, some (.ref x2), some (.ref 32), some (.int x4), some (.int x5), none, none] pl) : mAt 2 85 (some (.int R.1), (mSh, L, R.2)) 43 pl [] (mSh, L, σ) 0 0 := by
  induction n generalizing x2 x4 x5 σ pl with
  | zero =>
    rw [c_X11_goings_43.eq_1] at h
    cases h
  | succ n ih =>
    refine mAt.less hl ?_
    rw [c_X11_goings_43.eq_2] at h
    refine mAt.blk bk_X11_goings_43 ck_X11_goings_43 ?_
    refine q_iload rfl ?_
    refine q_iconst ?_
    refine q_iadd ?_
    refine q_aload_n rfl ?_
    refine q_getI (hx2).1 rfl ?_
    refine q_ic_ge (fun c1 => ?_) (fun c1 => ?_)
    · rw [if_pos c1] at h
      refine mAt.blk bk_X11_goings_120 ck_X11_goings_120 ?_
      refine q_iload rfl ?_
      have h := Option.some.inj h
      subst h
      exact q_iretI mcap_0 rfl rfl
    · rw [if_neg c1] at h
      refine q_iload rfl ?_
      refine q_aload_n rfl ?_
      refine q_getI ob_32 rfl ?_
      refine q_ic_ge (fun c2 => ?_) (fun c2 => ?_)
      · rw [if_pos c2] at h
        refine mAt.blk bk_X11_goings_120 ck_X11_goings_120 ?_
        refine q_iload rfl ?_
        have h := Option.some.inj h
        subst h
        exact q_iretI mcap_0 rfl rfl
      · rw [if_neg c2] at h
        refine q_aload_n rfl ?_
        refine q_getR (hx2).1 rfl rfl ?_
        refine q_iload rfl ?_
        obtain ⟨q3, e3, h⟩ := mbind h
        refine q_sI2 mcap_0 rfl rfl rfl rfl (by decide) (ok_X11_pick (mrd (hx2).2) e3) ?_
        refine q_istore rfl rfl ?_
        refine q_aload_n rfl ?_
        refine q_getR (hx2).1 rfl rfl ?_
        refine q_iload rfl ?_
        refine q_iconst ?_
        refine q_iadd ?_
        obtain ⟨q4, e4, h⟩ := mbind h
        refine q_sI2 mcap_0 rfl rfl rfl rfl (by decide) (ok_X11_pick (mrd (hx2).2) e4) ?_
        refine q_istore rfl rfl ?_
        refine q_aload_n rfl ?_
        refine q_iload rfl ?_
        refine q_iload rfl ?_
        obtain ⟨q5, e5, h⟩ := mbind h
        refine q_vI2 mcap_0 rfl rfl ob_32 rfl (by decide) (ok_X9_allows p9_32 e5) ?_
        refine q_if_ne (fun c6 => ?_) (fun c6 => ?_)
        · rw [if_pos c6] at h
          exact okc_X11_goings_98  h ⟨rfl, trivial⟩
        · rw [if_neg c6] at h
          refine mAt.blk bk_X11_goings_101 ck_X11_goings_101 ?_
          refine q_aload_n rfl ?_
          refine q_iload rfl ?_
          refine q_iload rfl ?_
          refine q_iload rfl ?_
          obtain ⟨q7, e7, h⟩ := mbind h
          refine q_vV3 mcap_0 rfl rfl ob_32 rfl (by decide) (ok_X9_lead p9_32 e7) ?_
          refine q_iinc rfl rfl ?_
          refine q_iinc rfl rfl ?_
          refine q_goto ?_
          exact ih hx2 h ⟨rfl, rfl, rfl, rfl, trivial⟩
def f_X11_goings (p0 : Int32) (σ : Sg) : Option (Int32 × Sg) := ((f_X11_sheetAt p0 σ).bind fun q8 => match q8 with | none => ((f_X11_error (1 : Int32) σ).bind fun q9 => (some (q9.1, q9.2))) | some z8 => (if (σ z8 1) = 0 then ((f_X11_error (2 : Int32) σ).bind fun q11 => (some (q11.1, q11.2))) else (c_X11_goings_43   1000 z8 (0 : Int32) (0 : Int32) σ)))
set_option maxHeartbeats 4000000 in
theorem ok_X11_goings {L : Nat} {p0 : Int32} {σ : Sg} {R : Int32 × Sg} (h : f_X11_goings p0 σ = some R) : mEv 2 85 [.ref 0, .int p0] (mSh, L, σ) (some (.int R.1)) (mSh, L, R.2) := by
  refine mEv.of (by decide) rfl rfl ?_
  unfold f_X11_goings at h
  refine mAt.blk bk_X11_goings_0 ck_X11_goings_0 ?_
  refine q_aload_n rfl ?_
  refine q_iload_n rfl ?_
  obtain ⟨q8, e8, h⟩ := mbind h
  rcases q8 with _ | z8
  · dsimp only at h
    refine q_vN1 mcap_0 rfl rfl ob_0 rfl (by decide) (ok_X11_sheetAt  e8) ?_
    refine q_astoreN_n rfl rfl ?_
    refine q_aloadN_n rfl ?_
    refine q_ifnonnullN ?_
    refine q_aload_n rfl ?_
    refine q_iconst ?_
    obtain ⟨q9, e9, h⟩ := mbind h
    refine q_vI1 mcap_0 rfl rfl ob_0 rfl (by decide) (ok_X11_error  e9) ?_
    have h := Option.some.inj h
    subst h
    exact q_iretI mcap_0 rfl rfl
  · dsimp only at h
    refine q_vR1 mcap_0 rfl rfl ob_0 rfl (by decide) (ok_X11_sheetAt  e8) ?_
    refine q_astore_n rfl rfl ?_
    refine q_aload_n rfl ?_
    refine q_ifnonnullR ?_
    refine mAt.blk bk_X11_goings_16 ck_X11_goings_16 ?_
    refine q_aload_n rfl ?_
    refine q_getI ((ty_X11_sheetAt e8)).1 rfl ?_
    refine q_if_ne (fun c10 => ?_) (fun c10 => ?_)
    · rw [if_pos c10] at h
      refine q_aload_n rfl ?_
      refine q_iconst ?_
      obtain ⟨q11, e11, h⟩ := mbind h
      refine q_vI1 mcap_0 rfl rfl ob_0 rfl (by decide) (ok_X11_error  e11) ?_
      have h := Option.some.inj h
      subst h
      exact q_iretI mcap_0 rfl rfl
    · rw [if_neg c10] at h
      refine mAt.blk bk_X11_goings_29 ck_X11_goings_29 ?_
      refine q_aload_n rfl ?_
      refine q_getR ob_0 rfl rfl ?_
      refine q_getR ob_31 rfl rfl ?_
      refine q_astore_n rfl rfl ?_
      refine q_iconst ?_
      refine q_istore rfl rfl ?_
      refine q_iconst ?_
      refine q_istore rfl rfl ?_
      exact okc_X11_goings_43 (ty_X11_sheetAt e8) h ⟨rfl, rfl, rfl, rfl, trivial⟩
def bk_X11_isKind_0 : List mI := [(.iload_n 0, 1, 0, 0, 0, []), (.iconst 0, 1, 0, 0, 0, [(0, 0)]), (.bipush 6, 2, 0, 0, 0, [(6, 0)]), (.invokestatic 112, 3, 125, 0, 445, []), (.ireturn, 1, 0, 0, 0, [])]
theorem ck_X11_isKind_0 : mChk 126 0 bk_X11_isKind_0 = true := by decide +kernel
def f_X11_isKind (p0 : Int32) (σ : Sg) : Option (Int32) := ((f_X11_within p0 (0 : Int32) (6 : Int32) σ).bind fun q1 => (if q1 = 0 ∨ q1 = 1 then some q1 else none))
set_option maxHeartbeats 4000000 in
theorem ok_X11_isKind {L : Nat} {p0 : Int32} {σ : Sg} {R : Int32} (h : f_X11_isKind p0 σ = some R) : mEv 1 126 [.int p0] (mSh, L, σ) (some (.int R)) (mSh, L, σ) := by
  refine mEv.of (by decide) rfl rfl ?_
  unfold f_X11_isKind at h
  refine mAt.blk bk_X11_isKind_0 ck_X11_isKind_0 ?_
  refine q_iload_n rfl ?_
  refine q_iconst ?_
  refine q_bipush ?_
  obtain ⟨q1, e1, h⟩ := mbind h
  refine q_sI3 mcap_0 rfl rfl rfl rfl (by decide) (ok_X11_within  e1) ?_
  obtain ⟨c2, h⟩ := msome h
  have h := Option.some.inj h
  subst h
  exact q_iretZ mcap_0 rfl c2 rfl
def bk_X11_thing_0 : List mI := [(.iload_n 1, 1, 0, 0, 0, []), (.invokestatic 153, 3, 126, 0, 470, []), (.ifCond .eq 13, 3, 17, 0, 0, []), (.iload_n 2, 1, 0, 0, 0, []), (.iconst 0, 1, 0, 0, 0, [(0, 0)]), (.bipush 30, 2, 0, 0, 0, [(30, 0)]), (.invokestatic 112, 3, 125, 0, 445, []), (.ifCond .ne 9, 3, 23, 0, 0, [])]
theorem ck_X11_thing_0 : mChk 86 0 bk_X11_thing_0 = true := by decide +kernel
def bk_X11_thing_17 : List mI := [(.aload_n 0, 1, 0, 0, 0, []), (.iconst 1, 1, 0, 0, 0, [(1, 0)]), (.invokevirtual 89, 3, 123, 0, 399, []), (.ireturn, 1, 0, 0, 0, [])]
theorem ck_X11_thing_17 : mChk 86 17 bk_X11_thing_17 = true := by decide +kernel
def bk_X11_thing_23 : List mI := [(.aload_n 0, 1, 0, 0, 0, []), (.getfield 31, 3, 11, 0, 361, []), (.getfield 133, 3, 10, 1, 252, []), (.getfield 156, 3, 7, 6, 233, []), (.bipush 10, 2, 0, 0, 0, [(10, 0)]), (.if_icmp .lt 9, 3, 44, 0, 0, []), (.aload_n 0, 1, 0, 0, 0, []), (.iconst 4, 1, 0, 0, 0, [(4, 0)]), (.invokevirtual 89, 3, 123, 0, 399, []), (.ireturn, 1, 0, 0, 0, [])]
theorem ck_X11_thing_23 : mChk 86 23 bk_X11_thing_23 = true := by decide +kernel
def bk_X11_thing_44 : List mI := [(.aload_n 0, 1, 0, 0, 0, []), (.getfield 31, 3, 11, 0, 361, []), (.getfield 133, 3, 10, 1, 252, []), (.iload_n 1, 1, 0, 0, 0, []), (.iload_n 2, 1, 0, 0, 0, []), (.invokevirtual 157, 3, 40, 0, 473, []), (.ireturn, 1, 0, 0, 0, [])]
theorem ck_X11_thing_44 : mChk 86 44 bk_X11_thing_44 = true := by decide +kernel
def f_X11_thing (p0 : Int32) (p1 : Int32) (σ : Sg) : Option (Int32 × Sg) := ((f_X11_isKind p0 σ).bind fun q1 => (if q1 = 0 then ((f_X11_error (1 : Int32) σ).bind fun q3 => (some (q3.1, q3.2))) else ((f_X11_within p1 (0 : Int32) (30 : Int32) σ).bind fun q4 => (if q4 = 0 then ((f_X11_error (1 : Int32) σ).bind fun q9 => (some (q9.1, q9.2))) else (if (σ 37 6) < (10 : Int32) then ((f_X7_make 37 p0 p1 σ).bind fun q7 => (some (q7.1, q7.2))) else ((f_X11_error (4 : Int32) σ).bind fun q8 => (some (q8.1, q8.2))))))))
set_option maxHeartbeats 4000000 in
theorem ok_X11_thing {L : Nat} {p0 : Int32} {p1 : Int32} {σ : Sg} {R : Int32 × Sg} (h : f_X11_thing p0 p1 σ = some R) : mEv 3 86 [.ref 0, .int p0, .int p1] (mSh, L, σ) (some (.int R.1)) (mSh, L, R.2) := by
  refine mEv.of (by decide) rfl rfl ?_
  unfold f_X11_thing at h
  refine mAt.blk bk_X11_thing_0 ck_X11_thing_0 ?_
  refine q_iload_n rfl ?_
  obtain ⟨q1, e1, h⟩ := mbind h
  refine q_sI1 mcap_0 rfl rfl rfl rfl (by decide) (ok_X11_isKind  e1) ?_
  refine q_if_eq (fun c2 => ?_) (fun c2 => ?_)
  · rw [if_pos c2] at h
    refine mAt.blk bk_X11_thing_17 ck_X11_thing_17 ?_
    refine q_aload_n rfl ?_
    refine q_iconst ?_
    obtain ⟨q3, e3, h⟩ := mbind h
    refine q_vI1 mcap_0 rfl rfl ob_0 rfl (by decide) (ok_X11_error  e3) ?_
    have h := Option.some.inj h
    subst h
    exact q_iretI mcap_0 rfl rfl
  · rw [if_neg c2] at h
    refine q_iload_n rfl ?_
    refine q_iconst ?_
    refine q_bipush ?_
    obtain ⟨q4, e4, h⟩ := mbind h
    refine q_sI3 mcap_0 rfl rfl rfl rfl (by decide) (ok_X11_within  e4) ?_
    refine q_if_ne (fun c5 => ?_) (fun c5 => ?_)
    · rw [if_pos c5] at h
      refine mAt.blk bk_X11_thing_17 ck_X11_thing_17 ?_
      refine q_aload_n rfl ?_
      refine q_iconst ?_
      obtain ⟨q9, e9, h⟩ := mbind h
      refine q_vI1 mcap_0 rfl rfl ob_0 rfl (by decide) (ok_X11_error  e9) ?_
      have h := Option.some.inj h
      subst h
      exact q_iretI mcap_0 rfl rfl
    · rw [if_neg c5] at h
      refine mAt.blk bk_X11_thing_23 ck_X11_thing_23 ?_
      refine q_aload_n rfl ?_
      refine q_getR ob_0 rfl rfl ?_
      refine q_getR ob_31 rfl rfl ?_
      refine q_getI ob_37 rfl ?_
      refine q_bipush ?_
      refine q_ic_lt (fun c6 => ?_) (fun c6 => ?_)
      · rw [if_pos c6] at h
        refine mAt.blk bk_X11_thing_44 ck_X11_thing_44 ?_
        refine q_aload_n rfl ?_
        refine q_getR ob_0 rfl rfl ?_
        refine q_getR ob_31 rfl rfl ?_
        refine q_iload_n rfl ?_
        refine q_iload_n rfl ?_
        obtain ⟨q7, e7, h⟩ := mbind h
        refine q_vI2 mcap_0 rfl rfl ob_37 rfl (by decide) (ok_X7_make p7_37 e7) ?_
        have h := Option.some.inj h
        subst h
        exact q_iretI mcap_0 rfl rfl
      · rw [if_neg c6] at h
        refine q_aload_n rfl ?_
        refine q_iconst ?_
        obtain ⟨q8, e8, h⟩ := mbind h
        refine q_vI1 mcap_0 rfl rfl ob_0 rfl (by decide) (ok_X11_error  e8) ?_
        have h := Option.some.inj h
        subst h
        exact q_iretI mcap_0 rfl rfl
def bk_X11_isDetail_0 : List mI := [(.iload_n 0, 1, 0, 0, 0, []), (.iconst 0, 1, 0, 0, 0, [(0, 0)]), (.bipush 7, 2, 0, 0, 0, [(7, 0)]), (.invokestatic 112, 3, 125, 0, 445, []), (.ireturn, 1, 0, 0, 0, [])]
theorem ck_X11_isDetail_0 : mChk 128 0 bk_X11_isDetail_0 = true := by decide +kernel
def f_X11_isDetail (p0 : Int32) (σ : Sg) : Option (Int32) := ((f_X11_within p0 (0 : Int32) (7 : Int32) σ).bind fun q1 => (if q1 = 0 ∨ q1 = 1 then some q1 else none))
set_option maxHeartbeats 4000000 in
theorem ok_X11_isDetail {L : Nat} {p0 : Int32} {σ : Sg} {R : Int32} (h : f_X11_isDetail p0 σ = some R) : mEv 1 128 [.int p0] (mSh, L, σ) (some (.int R)) (mSh, L, σ) := by
  refine mEv.of (by decide) rfl rfl ?_
  unfold f_X11_isDetail at h
  refine mAt.blk bk_X11_isDetail_0 ck_X11_isDetail_0 ?_
  refine q_iload_n rfl ?_
  refine q_iconst ?_
  refine q_bipush ?_
  obtain ⟨q1, e1, h⟩ := mbind h
  refine q_sI3 mcap_0 rfl rfl rfl rfl (by decide) (ok_X11_within  e1) ?_
  obtain ⟨c2, h⟩ := msome h
  have h := Option.some.inj h
  subst h
  exact q_iretZ mcap_0 rfl c2 rfl
def bk_X11_ofThing_0 : List mI := [(.aload_n 0, 1, 0, 0, 0, []), (.getfield 31, 3, 11, 0, 361, []), (.getfield 133, 3, 10, 1, 252, []), (.iload_n 1, 1, 0, 0, 0, []), (.invokevirtual 160, 3, 39, 0, 486, []), (.ifCond .eq 10, 3, 21, 0, 0, []), (.iload_n 2, 1, 0, 0, 0, []), (.invokestatic 161, 3, 128, 0, 490, []), (.ifCond .ne 9, 3, 27, 0, 0, [])]
theorem ck_X11_ofThing_0 : mChk 87 0 bk_X11_ofThing_0 = true := by decide +kernel
def bk_X11_ofThing_21 : List mI := [(.aload_n 0, 1, 0, 0, 0, []), (.iconst 1, 1, 0, 0, 0, [(1, 0)]), (.invokevirtual 89, 3, 123, 0, 399, []), (.ireturn, 1, 0, 0, 0, [])]
theorem ck_X11_ofThing_21 : mChk 87 21 bk_X11_ofThing_21 = true := by decide +kernel
def bk_X11_ofThing_27 : List mI := [(.aload_n 0, 1, 0, 0, 0, []), (.getfield 31, 3, 11, 0, 361, []), (.iload_n 1, 1, 0, 0, 0, []), (.iload_n 2, 1, 0, 0, 0, []), (.invokevirtual 164, 3, 73, 0, 493, []), (.ireturn, 1, 0, 0, 0, [])]
theorem ck_X11_ofThing_27 : mChk 87 27 bk_X11_ofThing_27 = true := by decide +kernel
def f_X11_ofThing (p0 : Int32) (p1 : Int32) (σ : Sg) : Option (Int32 × Sg) := ((f_X7_has 37 p0 σ).bind fun q1 => (if q1 = 0 then ((f_X11_error (1 : Int32) σ).bind fun q3 => (some (q3.1, q3.2))) else ((f_X11_isDetail p1 σ).bind fun q4 => (if q4 = 0 then ((f_X11_error (1 : Int32) σ).bind fun q7 => (some (q7.1, q7.2))) else ((f_X10_detail 31 6 9 p0 p1 σ).bind fun q6 => (some (q6.1, q6.2)))))))
set_option maxHeartbeats 4000000 in
theorem ok_X11_ofThing {L : Nat} {p0 : Int32} {p1 : Int32} {σ : Sg} {R : Int32 × Sg} (h : f_X11_ofThing p0 p1 σ = some R) : mEv 5 87 [.ref 0, .int p0, .int p1] (mSh, L, σ) (some (.int R.1)) (mSh, L, R.2) := by
  refine mEv.of (by decide) rfl rfl ?_
  unfold f_X11_ofThing at h
  refine mAt.blk bk_X11_ofThing_0 ck_X11_ofThing_0 ?_
  refine q_aload_n rfl ?_
  refine q_getR ob_0 rfl rfl ?_
  refine q_getR ob_31 rfl rfl ?_
  refine q_iload_n rfl ?_
  obtain ⟨q1, e1, h⟩ := mbind h
  refine q_vI1 mcap_0 rfl rfl ob_37 rfl (by decide) (ok_X7_has p7_37 e1) ?_
  refine q_if_eq (fun c2 => ?_) (fun c2 => ?_)
  · rw [if_pos c2] at h
    refine mAt.blk bk_X11_ofThing_21 ck_X11_ofThing_21 ?_
    refine q_aload_n rfl ?_
    refine q_iconst ?_
    obtain ⟨q3, e3, h⟩ := mbind h
    refine q_vI1 mcap_0 rfl rfl ob_0 rfl (by decide) (ok_X11_error  e3) ?_
    have h := Option.some.inj h
    subst h
    exact q_iretI mcap_0 rfl rfl
  · rw [if_neg c2] at h
    refine q_iload_n rfl ?_
    obtain ⟨q4, e4, h⟩ := mbind h
    refine q_sI1 mcap_0 rfl rfl rfl rfl (by decide) (ok_X11_isDetail  e4) ?_
    refine q_if_ne (fun c5 => ?_) (fun c5 => ?_)
    · rw [if_pos c5] at h
      refine mAt.blk bk_X11_ofThing_21 ck_X11_ofThing_21 ?_
      refine q_aload_n rfl ?_
      refine q_iconst ?_
      obtain ⟨q7, e7, h⟩ := mbind h
      refine q_vI1 mcap_0 rfl rfl ob_0 rfl (by decide) (ok_X11_error  e7) ?_
      have h := Option.some.inj h
      subst h
      exact q_iretI mcap_0 rfl rfl
    · rw [if_neg c5] at h
      refine mAt.blk bk_X11_ofThing_27 ck_X11_ofThing_27 ?_
      refine q_aload_n rfl ?_
      refine q_getR ob_0 rfl rfl ?_
      refine q_iload_n rfl ?_
      refine q_iload_n rfl ?_
      obtain ⟨q6, e6, h⟩ := mbind h
      refine q_vI2 mcap_0 rfl rfl ob_31 rfl (by decide) (ok_X10_detail p10_31 e6) ?_
      have h := Option.some.inj h
      subst h
      exact q_iretI mcap_0 rfl rfl
def bk_X11_isUnder_0 : List mI := [(.iload_n 0, 1, 0, 0, 0, []), (.istore_n 2, 1, 0, 0, 0, []), (.iconst 0, 1, 0, 0, 0, [(0, 0)]), (.istore_n 3, 1, 0, 0, 0, [])]
theorem ck_X11_isUnder_0 : mChk 129 0 bk_X11_isUnder_0 = true := by decide +kernel
def bk_X11_isUnder_4 : List mI := [(.iload_n 3, 1, 0, 0, 0, []), (.bipush 7, 2, 0, 0, 0, [(7, 0)]), (.if_icmp .ge 28, 3, 35, 0, 0, []), (.iload_n 2, 1, 0, 0, 0, []), (.ifCond .lt 24, 3, 35, 0, 0, []), (.iload_n 2, 1, 0, 0, 0, []), (.iload_n 1, 1, 0, 0, 0, []), (.if_icmp .ne 5, 3, 21, 0, 0, []), (.iconst 1, 1, 0, 0, 0, [(1, 0)]), (.ireturn, 1, 0, 0, 0, [])]
theorem ck_X11_isUnder_4 : mChk 129 4 bk_X11_isUnder_4 = true := by decide +kernel
def bk_X11_isUnder_21 : List mI := [(.getstatic 327, 3, 1, 0, 564, []), (.iload_n 2, 1, 0, 0, 0, []), (.invokestatic 122, 3, 130, 0, 403, []), (.istore_n 2, 1, 0, 0, 0, []), (.iinc 3 1, 3, 0, 0, 0, [(1, 0)]), (.goto (-28), 3, 4, 0, 0, [])]
theorem ck_X11_isUnder_21 : mChk 129 21 bk_X11_isUnder_21 = true := by decide +kernel
def bk_X11_isUnder_35 : List mI := [(.iconst 0, 1, 0, 0, 0, [(0, 0)]), (.ireturn, 1, 0, 0, 0, [])]
theorem ck_X11_isUnder_35 : mChk 129 35 bk_X11_isUnder_35 = true := by decide +kernel
def c_X11_isUnder_4 (σ : Sg) : Nat → Int32 → Int32 → Int32 → Option (Int32)
  | 0, _, _, _ => none
  | n + 1, x1, x2, x3 => (if (7 : Int32) ≤ x3 then (some (0 : Int32)) else (if x2 < 0 then (some (0 : Int32)) else (if x2 = x1 then (some (1 : Int32)) else ((f_X11_pick (1000000 + 1) 7 x2 σ).bind fun q4 => (c_X11_isUnder_4 σ n x1 q4 (x3 + (1 : Int32)))))))
set_option maxHeartbeats 4000000 in
theorem okc_X11_isUnder_4 {L : Nat} {σ : Sg} {R : Int32} {n : Nat} {x1 : Int32} {x2 : Int32} {x3 : Int32} {pl : mLoc} (h : c_X11_isUnder_4 σ n x1 x2 x3 = some R) (hl : mlf [none, some (.int x1), some (.int x2), some (.int x3)] pl) : mAt 1 129 (some (.int R), (mSh, L, σ)) 4 pl [] (mSh, L, σ) 0 0 := by
  induction n generalizing x1 x2 x3 pl with
  | zero =>
    rw [c_X11_isUnder_4.eq_1] at h
    cases h
  | succ n ih =>
    refine mAt.less hl ?_
    rw [c_X11_isUnder_4.eq_2] at h
    refine mAt.blk bk_X11_isUnder_4 ck_X11_isUnder_4 ?_
    refine q_iload_n rfl ?_
    refine q_bipush ?_
    refine q_ic_ge (fun c1 => ?_) (fun c1 => ?_)
    · rw [if_pos c1] at h
      refine mAt.blk bk_X11_isUnder_35 ck_X11_isUnder_35 ?_
      refine q_iconst ?_
      have h := Option.some.inj h
      subst h
      exact q_iretZ mcap_0 rfl (by decide) rfl
    · rw [if_neg c1] at h
      refine q_iload_n rfl ?_
      refine q_if_lt (fun c2 => ?_) (fun c2 => ?_)
      · rw [if_pos c2] at h
        refine mAt.blk bk_X11_isUnder_35 ck_X11_isUnder_35 ?_
        refine q_iconst ?_
        have h := Option.some.inj h
        subst h
        exact q_iretZ mcap_0 rfl (by decide) rfl
      · rw [if_neg c2] at h
        refine q_iload_n rfl ?_
        refine q_iload_n rfl ?_
        refine q_ic_ne (fun c3 => ?_) (fun c3 => ?_)
        · rw [if_pos c3] at h
          refine q_iconst ?_
          have h := Option.some.inj h
          subst h
          exact q_iretZ mcap_0 rfl (by decide) rfl
        · rw [if_neg c3] at h
          refine mAt.blk bk_X11_isUnder_21 ck_X11_isUnder_21 ?_
          refine q_getstatic ?_
          refine q_iload_n rfl ?_
          obtain ⟨q4, e4, h⟩ := mbind h
          refine q_sI2 mcap_0 rfl rfl rfl rfl (by decide) (ok_X11_pick mrd_1 e4) ?_
          refine q_istore_n rfl rfl ?_
          refine q_iinc rfl rfl ?_
          refine q_goto ?_
          exact ih  h ⟨rfl, rfl, rfl, trivial⟩
def f_X11_isUnder (p0 : Int32) (p1 : Int32) (σ : Sg) : Option (Int32) := (c_X11_isUnder_4  σ 1000 p1 p0 (0 : Int32))
set_option maxHeartbeats 4000000 in
theorem ok_X11_isUnder {L : Nat} {p0 : Int32} {p1 : Int32} {σ : Sg} {R : Int32} (h : f_X11_isUnder p0 p1 σ = some R) : mEv 1 129 [.int p0, .int p1] (mSh, L, σ) (some (.int R)) (mSh, L, σ) := by
  refine mEv.of (by decide) rfl rfl ?_
  unfold f_X11_isUnder at h
  refine mAt.blk bk_X11_isUnder_0 ck_X11_isUnder_0 ?_
  refine q_iload_n rfl ?_
  refine q_istore_n rfl rfl ?_
  refine q_iconst ?_
  refine q_istore_n rfl rfl ?_
  exact okc_X11_isUnder_4  h ⟨rfl, rfl, rfl, trivial⟩
def bk_X11_as_0 : List mI := [(.aload_n 0, 1, 0, 0, 0, []), (.getfield 31, 3, 11, 0, 361, []), (.getfield 133, 3, 10, 1, 252, []), (.iload_n 1, 1, 0, 0, 0, []), (.invokevirtual 160, 3, 39, 0, 486, []), (.ifCond .eq 10, 3, 21, 0, 0, []), (.iload_n 2, 1, 0, 0, 0, []), (.invokestatic 153, 3, 126, 0, 470, []), (.ifCond .ne 9, 3, 27, 0, 0, [])]
theorem ck_X11_as_0 : mChk 88 0 bk_X11_as_0 = true := by decide +kernel
def bk_X11_as_21 : List mI := [(.aload_n 0, 1, 0, 0, 0, []), (.iconst 1, 1, 0, 0, 0, [(1, 0)]), (.invokevirtual 89, 3, 123, 0, 399, []), (.ireturn, 1, 0, 0, 0, [])]
theorem ck_X11_as_21 : mChk 88 21 bk_X11_as_21 = true := by decide +kernel
def bk_X11_as_27 : List mI := [(.aload_n 0, 1, 0, 0, 0, []), (.getfield 31, 3, 11, 0, 361, []), (.getfield 133, 3, 10, 1, 252, []), (.getfield 167, 3, 7, 0, 217, []), (.iload_n 1, 1, 0, 0, 0, []), (.invokestatic 122, 3, 130, 0, 403, []), (.iload_n 2, 1, 0, 0, 0, []), (.invokestatic 170, 3, 129, 0, 561, []), (.ifCond .ne 9, 3, 54, 0, 0, []), (.aload_n 0, 1, 0, 0, 0, []), (.iconst 5, 1, 0, 0, 0, [(5, 0)]), (.invokevirtual 89, 3, 123, 0, 399, []), (.ireturn, 1, 0, 0, 0, [])]
theorem ck_X11_as_27 : mChk 88 27 bk_X11_as_27 = true := by decide +kernel
def bk_X11_as_54 : List mI := [(.aload_n 0, 1, 0, 0, 0, []), (.getfield 31, 3, 11, 0, 361, []), (.getfield 133, 3, 10, 1, 252, []), (.getfield 173, 3, 7, 1, 220, []), (.iload_n 1, 1, 0, 0, 0, []), (.invokestatic 122, 3, 130, 0, 403, []), (.ireturn, 1, 0, 0, 0, [])]
theorem ck_X11_as_54 : mChk 88 54 bk_X11_as_54 = true := by decide +kernel
def f_X11_as (p0 : Int32) (p1 : Int32) (σ : Sg) : Option (Int32 × Sg) := ((f_X7_has 37 p0 σ).bind fun q1 => (if q1 = 0 then ((f_X11_error (1 : Int32) σ).bind fun q3 => (some (q3.1, q3.2))) else ((f_X11_isKind p1 σ).bind fun q4 => (if q4 = 0 then ((f_X11_error (1 : Int32) σ).bind fun q11 => (some (q11.1, q11.2))) else ((f_X11_pick 38 10 p0 σ).bind fun q6 => ((f_X11_isUnder q6 p1 σ).bind fun q7 => (if q7 = 0 then ((f_X11_error (5 : Int32) σ).bind fun q10 => (some (q10.1, q10.2))) else ((f_X11_pick 39 10 p0 σ).bind fun q9 => (some (q9, σ))))))))))
set_option maxHeartbeats 4000000 in
theorem ok_X11_as {L : Nat} {p0 : Int32} {p1 : Int32} {σ : Sg} {R : Int32 × Sg} (h : f_X11_as p0 p1 σ = some R) : mEv 2 88 [.ref 0, .int p0, .int p1] (mSh, L, σ) (some (.int R.1)) (mSh, L, R.2) := by
  refine mEv.of (by decide) rfl rfl ?_
  unfold f_X11_as at h
  refine mAt.blk bk_X11_as_0 ck_X11_as_0 ?_
  refine q_aload_n rfl ?_
  refine q_getR ob_0 rfl rfl ?_
  refine q_getR ob_31 rfl rfl ?_
  refine q_iload_n rfl ?_
  obtain ⟨q1, e1, h⟩ := mbind h
  refine q_vI1 mcap_0 rfl rfl ob_37 rfl (by decide) (ok_X7_has p7_37 e1) ?_
  refine q_if_eq (fun c2 => ?_) (fun c2 => ?_)
  · rw [if_pos c2] at h
    refine mAt.blk bk_X11_as_21 ck_X11_as_21 ?_
    refine q_aload_n rfl ?_
    refine q_iconst ?_
    obtain ⟨q3, e3, h⟩ := mbind h
    refine q_vI1 mcap_0 rfl rfl ob_0 rfl (by decide) (ok_X11_error  e3) ?_
    have h := Option.some.inj h
    subst h
    exact q_iretI mcap_0 rfl rfl
  · rw [if_neg c2] at h
    refine q_iload_n rfl ?_
    obtain ⟨q4, e4, h⟩ := mbind h
    refine q_sI1 mcap_0 rfl rfl rfl rfl (by decide) (ok_X11_isKind  e4) ?_
    refine q_if_ne (fun c5 => ?_) (fun c5 => ?_)
    · rw [if_pos c5] at h
      refine mAt.blk bk_X11_as_21 ck_X11_as_21 ?_
      refine q_aload_n rfl ?_
      refine q_iconst ?_
      obtain ⟨q11, e11, h⟩ := mbind h
      refine q_vI1 mcap_0 rfl rfl ob_0 rfl (by decide) (ok_X11_error  e11) ?_
      have h := Option.some.inj h
      subst h
      exact q_iretI mcap_0 rfl rfl
    · rw [if_neg c5] at h
      refine mAt.blk bk_X11_as_27 ck_X11_as_27 ?_
      refine q_aload_n rfl ?_
      refine q_getR ob_0 rfl rfl ?_
      refine q_getR ob_31 rfl rfl ?_
      refine q_getR ob_37 rfl rfl ?_
      refine q_iload_n rfl ?_
      obtain ⟨q6, e6, h⟩ := mbind h
      refine q_sI2 mcap_0 rfl rfl rfl rfl (by decide) (ok_X11_pick (mrd ar_38) e6) ?_
      refine q_iload_n rfl ?_
      obtain ⟨q7, e7, h⟩ := mbind h
      refine q_sI2 mcap_0 rfl rfl rfl rfl (by decide) (ok_X11_isUnder  e7) ?_
      refine q_if_ne (fun c8 => ?_) (fun c8 => ?_)
      · rw [if_pos c8] at h
        refine q_aload_n rfl ?_
        refine q_iconst ?_
        obtain ⟨q10, e10, h⟩ := mbind h
        refine q_vI1 mcap_0 rfl rfl ob_0 rfl (by decide) (ok_X11_error  e10) ?_
        have h := Option.some.inj h
        subst h
        exact q_iretI mcap_0 rfl rfl
      · rw [if_neg c8] at h
        refine mAt.blk bk_X11_as_54 ck_X11_as_54 ?_
        refine q_aload_n rfl ?_
        refine q_getR ob_0 rfl rfl ?_
        refine q_getR ob_31 rfl rfl ?_
        refine q_getR ob_37 rfl rfl ?_
        refine q_iload_n rfl ?_
        obtain ⟨q9, e9, h⟩ := mbind h
        refine q_sI2 mcap_0 rfl rfl rfl rfl (by decide) (ok_X11_pick (mrd ar_39) e9) ?_
        have h := Option.some.inj h
        subst h
        exact q_iretI mcap_0 rfl rfl
def bk_X11_let_0 : List mI := [(.aload_n 0, 1, 0, 0, 0, []), (.getfield 31, 3, 11, 0, 361, []), (.getfield 133, 3, 10, 1, 252, []), (.iload_n 1, 1, 0, 0, 0, []), (.invokevirtual 160, 3, 39, 0, 486, []), (.ifCond .eq 17, 3, 28, 0, 0, []), (.aload_n 0, 1, 0, 0, 0, []), (.getfield 31, 3, 11, 0, 361, []), (.getfield 79, 3, 10, 0, 250, []), (.iload_n 2, 1, 0, 0, 0, []), (.invokevirtual 97, 3, 54, 0, 423, []), (.ifCond .ne 9, 3, 34, 0, 0, [])]
theorem ck_X11_let_0 : mChk 89 0 bk_X11_let_0 = true := by decide +kernel
def bk_X11_let_28 : List mI := [(.aload_n 0, 1, 0, 0, 0, []), (.iconst 1, 1, 0, 0, 0, [(1, 0)]), (.invokevirtual 89, 3, 123, 0, 399, []), (.ireturn, 1, 0, 0, 0, [])]
theorem ck_X11_let_28 : mChk 89 28 bk_X11_let_28 = true := by decide +kernel
def bk_X11_let_34 : List mI := [(.aload_n 0, 1, 0, 0, 0, []), (.getfield 31, 3, 11, 0, 361, []), (.getfield 133, 3, 10, 1, 252, []), (.getfield 176, 3, 7, 2, 223, []), (.iload_n 1, 1, 0, 0, 0, []), (.invokestatic 122, 3, 130, 0, 403, []), (.iconst 2, 1, 0, 0, 0, [(2, 0)]), (.if_icmp .eq 9, 3, 58, 0, 0, []), (.aload_n 0, 1, 0, 0, 0, []), (.iconst 3, 1, 0, 0, 0, [(3, 0)]), (.invokevirtual 89, 3, 123, 0, 399, []), (.ireturn, 1, 0, 0, 0, [])]
theorem ck_X11_let_34 : mChk 89 34 bk_X11_let_34 = true := by decide +kernel
def bk_X11_let_58 : List mI := [(.aload_n 0, 1, 0, 0, 0, []), (.getfield 31, 3, 11, 0, 361, []), (.getfield 133, 3, 10, 1, 252, []), (.iload_n 1, 1, 0, 0, 0, []), (.iconst 0, 1, 0, 0, 0, [(0, 0)]), (.iload_n 2, 1, 0, 0, 0, []), (.iconst 0, 1, 0, 0, 0, [(0, 0)]), (.invokevirtual 179, 3, 41, 0, 570, []), (.iconst 1, 1, 0, 0, 0, [(1, 0)]), (.ireturn, 1, 0, 0, 0, [])]
theorem ck_X11_let_58 : mChk 89 58 bk_X11_let_58 = true := by decide +kernel
def f_X11_let (p0 : Int32) (p1 : Int32) (σ : Sg) : Option (Int32 × Sg) := ((f_X7_has 37 p0 σ).bind fun q1 => (if q1 = 0 then ((f_X11_error (1 : Int32) σ).bind fun q3 => (some (q3.1, q3.2))) else ((f_X9_has 32 p1 σ).bind fun q4 => (if q4 = 0 then ((f_X11_error (1 : Int32) σ).bind fun q10 => (some (q10.1, q10.2))) else ((f_X11_pick 40 10 p0 σ).bind fun q6 => (if q6 = (2 : Int32) then ((f_X7_place 37 p0 (0 : Int32) p1 (0 : Int32) σ).bind fun q8 => (some ((1 : Int32), q8))) else ((f_X11_error (3 : Int32) σ).bind fun q9 => (some (q9.1, q9.2)))))))))
set_option maxHeartbeats 4000000 in
theorem ok_X11_let {L : Nat} {p0 : Int32} {p1 : Int32} {σ : Sg} {R : Int32 × Sg} (h : f_X11_let p0 p1 σ = some R) : mEv 2 89 [.ref 0, .int p0, .int p1] (mSh, L, σ) (some (.int R.1)) (mSh, L, R.2) := by
  refine mEv.of (by decide) rfl rfl ?_
  unfold f_X11_let at h
  refine mAt.blk bk_X11_let_0 ck_X11_let_0 ?_
  refine q_aload_n rfl ?_
  refine q_getR ob_0 rfl rfl ?_
  refine q_getR ob_31 rfl rfl ?_
  refine q_iload_n rfl ?_
  obtain ⟨q1, e1, h⟩ := mbind h
  refine q_vI1 mcap_0 rfl rfl ob_37 rfl (by decide) (ok_X7_has p7_37 e1) ?_
  refine q_if_eq (fun c2 => ?_) (fun c2 => ?_)
  · rw [if_pos c2] at h
    refine mAt.blk bk_X11_let_28 ck_X11_let_28 ?_
    refine q_aload_n rfl ?_
    refine q_iconst ?_
    obtain ⟨q3, e3, h⟩ := mbind h
    refine q_vI1 mcap_0 rfl rfl ob_0 rfl (by decide) (ok_X11_error  e3) ?_
    have h := Option.some.inj h
    subst h
    exact q_iretI mcap_0 rfl rfl
  · rw [if_neg c2] at h
    refine q_aload_n rfl ?_
    refine q_getR ob_0 rfl rfl ?_
    refine q_getR ob_31 rfl rfl ?_
    refine q_iload_n rfl ?_
    obtain ⟨q4, e4, h⟩ := mbind h
    refine q_vI1 mcap_0 rfl rfl ob_32 rfl (by decide) (ok_X9_has p9_32 e4) ?_
    refine q_if_ne (fun c5 => ?_) (fun c5 => ?_)
    · rw [if_pos c5] at h
      refine mAt.blk bk_X11_let_28 ck_X11_let_28 ?_
      refine q_aload_n rfl ?_
      refine q_iconst ?_
      obtain ⟨q10, e10, h⟩ := mbind h
      refine q_vI1 mcap_0 rfl rfl ob_0 rfl (by decide) (ok_X11_error  e10) ?_
      have h := Option.some.inj h
      subst h
      exact q_iretI mcap_0 rfl rfl
    · rw [if_neg c5] at h
      refine mAt.blk bk_X11_let_34 ck_X11_let_34 ?_
      refine q_aload_n rfl ?_
      refine q_getR ob_0 rfl rfl ?_
      refine q_getR ob_31 rfl rfl ?_
      refine q_getR ob_37 rfl rfl ?_
      refine q_iload_n rfl ?_
      obtain ⟨q6, e6, h⟩ := mbind h
      refine q_sI2 mcap_0 rfl rfl rfl rfl (by decide) (ok_X11_pick (mrd ar_40) e6) ?_
      refine q_iconst ?_
      refine q_ic_eq (fun c7 => ?_) (fun c7 => ?_)
      · rw [if_pos c7] at h
        refine mAt.blk bk_X11_let_58 ck_X11_let_58 ?_
        refine q_aload_n rfl ?_
        refine q_getR ob_0 rfl rfl ?_
        refine q_getR ob_31 rfl rfl ?_
        refine q_iload_n rfl ?_
        refine q_iconst ?_
        refine q_iload_n rfl ?_
        refine q_iconst ?_
        obtain ⟨q8, e8, h⟩ := mbind h
        refine q_vV4 mcap_0 rfl rfl ob_37 rfl (by decide) (ok_X7_place p7_37 e8) ?_
        refine q_iconst ?_
        have h := Option.some.inj h
        subst h
        exact q_iretI mcap_0 rfl rfl
      · rw [if_neg c7] at h
        refine q_aload_n rfl ?_
        refine q_iconst ?_
        obtain ⟨q9, e9, h⟩ := mbind h
        refine q_vI1 mcap_0 rfl rfl ob_0 rfl (by decide) (ok_X11_error  e9) ?_
        have h := Option.some.inj h
        subst h
        exact q_iretI mcap_0 rfl rfl
def bk_X11_fish_0 : List mI := [(.aload_n 0, 1, 0, 0, 0, []), (.getfield 31, 3, 11, 0, 361, []), (.getfield 133, 3, 10, 1, 252, []), (.iload_n 1, 1, 0, 0, 0, []), (.invokevirtual 160, 3, 39, 0, 486, []), (.ifCond .ne 9, 3, 20, 0, 0, []), (.aload_n 0, 1, 0, 0, 0, []), (.iconst 1, 1, 0, 0, 0, [(1, 0)]), (.invokevirtual 89, 3, 123, 0, 399, []), (.ireturn, 1, 0, 0, 0, [])]
theorem ck_X11_fish_0 : mChk 90 0 bk_X11_fish_0 = true := by decide +kernel
def bk_X11_fish_20 : List mI := [(.aload_n 0, 1, 0, 0, 0, []), (.getfield 31, 3, 11, 0, 361, []), (.getfield 133, 3, 10, 1, 252, []), (.getfield 176, 3, 7, 2, 223, []), (.iload_n 1, 1, 0, 0, 0, []), (.invokestatic 122, 3, 130, 0, 403, []), (.ifCond .eq 9, 3, 43, 0, 0, []), (.aload_n 0, 1, 0, 0, 0, []), (.iconst 3, 1, 0, 0, 0, [(3, 0)]), (.invokevirtual 89, 3, 123, 0, 399, []), (.ireturn, 1, 0, 0, 0, [])]
theorem ck_X11_fish_20 : mChk 90 20 bk_X11_fish_20 = true := by decide +kernel
def bk_X11_fish_43 : List mI := [(.aload_n 0, 1, 0, 0, 0, []), (.getfield 31, 3, 11, 0, 361, []), (.getfield 133, 3, 10, 1, 252, []), (.getfield 183, 3, 7, 3, 226, []), (.iload_n 1, 1, 0, 0, 0, []), (.invokestatic 122, 3, 130, 0, 403, []), (.istore_n 2, 1, 0, 0, 0, []), (.aload_n 0, 1, 0, 0, 0, []), (.getfield 31, 3, 11, 0, 361, []), (.getfield 133, 3, 10, 1, 252, []), (.iload_n 1, 1, 0, 0, 0, []), (.iconst 2, 1, 0, 0, 0, [(2, 0)]), (.iload_n 2, 1, 0, 0, 0, []), (.iconst 0, 1, 0, 0, 0, [(0, 0)]), (.invokevirtual 179, 3, 41, 0, 570, []), (.iload_n 2, 1, 0, 0, 0, []), (.ireturn, 1, 0, 0, 0, [])]
theorem ck_X11_fish_43 : mChk 90 43 bk_X11_fish_43 = true := by decide +kernel
def f_X11_fish (p0 : Int32) (σ : Sg) : Option (Int32 × Sg) := ((f_X7_has 37 p0 σ).bind fun q1 => (if q1 = 0 then ((f_X11_error (1 : Int32) σ).bind fun q8 => (some (q8.1, q8.2))) else ((f_X11_pick 40 10 p0 σ).bind fun q3 => (if q3 = 0 then ((f_X11_pick 41 10 p0 σ).bind fun q5 => ((f_X7_place 37 p0 (2 : Int32) q5 (0 : Int32) σ).bind fun q6 => (some (q5, q6)))) else ((f_X11_error (3 : Int32) σ).bind fun q7 => (some (q7.1, q7.2)))))))
set_option maxHeartbeats 4000000 in
theorem ok_X11_fish {L : Nat} {p0 : Int32} {σ : Sg} {R : Int32 × Sg} (h : f_X11_fish p0 σ = some R) : mEv 2 90 [.ref 0, .int p0] (mSh, L, σ) (some (.int R.1)) (mSh, L, R.2) := by
  refine mEv.of (by decide) rfl rfl ?_
  unfold f_X11_fish at h
  refine mAt.blk bk_X11_fish_0 ck_X11_fish_0 ?_
  refine q_aload_n rfl ?_
  refine q_getR ob_0 rfl rfl ?_
  refine q_getR ob_31 rfl rfl ?_
  refine q_iload_n rfl ?_
  obtain ⟨q1, e1, h⟩ := mbind h
  refine q_vI1 mcap_0 rfl rfl ob_37 rfl (by decide) (ok_X7_has p7_37 e1) ?_
  refine q_if_ne (fun c2 => ?_) (fun c2 => ?_)
  · rw [if_pos c2] at h
    refine q_aload_n rfl ?_
    refine q_iconst ?_
    obtain ⟨q8, e8, h⟩ := mbind h
    refine q_vI1 mcap_0 rfl rfl ob_0 rfl (by decide) (ok_X11_error  e8) ?_
    have h := Option.some.inj h
    subst h
    exact q_iretI mcap_0 rfl rfl
  · rw [if_neg c2] at h
    refine mAt.blk bk_X11_fish_20 ck_X11_fish_20 ?_
    refine q_aload_n rfl ?_
    refine q_getR ob_0 rfl rfl ?_
    refine q_getR ob_31 rfl rfl ?_
    refine q_getR ob_37 rfl rfl ?_
    refine q_iload_n rfl ?_
    obtain ⟨q3, e3, h⟩ := mbind h
    refine q_sI2 mcap_0 rfl rfl rfl rfl (by decide) (ok_X11_pick (mrd ar_40) e3) ?_
    refine q_if_eq (fun c4 => ?_) (fun c4 => ?_)
    · rw [if_pos c4] at h
      refine mAt.blk bk_X11_fish_43 ck_X11_fish_43 ?_
      refine q_aload_n rfl ?_
      refine q_getR ob_0 rfl rfl ?_
      refine q_getR ob_31 rfl rfl ?_
      refine q_getR ob_37 rfl rfl ?_
      refine q_iload_n rfl ?_
      obtain ⟨q5, e5, h⟩ := mbind h
      refine q_sI2 mcap_0 rfl rfl rfl rfl (by decide) (ok_X11_pick (mrd ar_41) e5) ?_
      refine q_istore_n rfl rfl ?_
      refine q_aload_n rfl ?_
      refine q_getR ob_0 rfl rfl ?_
      refine q_getR ob_31 rfl rfl ?_
      refine q_iload_n rfl ?_
      refine q_iconst ?_
      refine q_iload_n rfl ?_
      refine q_iconst ?_
      obtain ⟨q6, e6, h⟩ := mbind h
      refine q_vV4 mcap_0 rfl rfl ob_37 rfl (by decide) (ok_X7_place p7_37 e6) ?_
      refine q_iload_n rfl ?_
      have h := Option.some.inj h
      subst h
      exact q_iretI mcap_0 rfl rfl
    · rw [if_neg c4] at h
      refine q_aload_n rfl ?_
      refine q_iconst ?_
      obtain ⟨q7, e7, h⟩ := mbind h
      refine q_vI1 mcap_0 rfl rfl ob_0 rfl (by decide) (ok_X11_error  e7) ?_
      have h := Option.some.inj h
      subst h
      exact q_iretI mcap_0 rfl rfl
def bk_X11_feed_0 : List mI := [(.iload_n 3, 1, 0, 0, 0, []), (.iconst 1, 1, 0, 0, 0, [(1, 0)]), (.bipush 8, 2, 0, 0, 0, [(8, 0)]), (.invokestatic 112, 3, 125, 0, 445, []), (.ifCond .ne 9, 3, 16, 0, 0, []), (.aload_n 0, 1, 0, 0, 0, []), (.iconst 1, 1, 0, 0, 0, [(1, 0)]), (.invokevirtual 89, 3, 123, 0, 399, []), (.ireturn, 1, 0, 0, 0, [])]
theorem ck_X11_feed_0 : mChk 91 0 bk_X11_feed_0 = true := by decide +kernel
def bk_X11_feed_16 : List mI := [(.aload_n 0, 1, 0, 0, 0, []), (.getfield 10, 3, 11, 3, 364, []), (.getfield 43, 3, 1, 3, 156, []), (.getfield 186, 3, 4, 1, 143, []), (.iload_n 3, 1, 0, 0, 0, []), (.iadd, 1, 0, 0, 0, []), (.bipush 50, 2, 0, 0, 0, [(50, 0)]), (.if_icmp .le 9, 3, 39, 0, 0, []), (.aload_n 0, 1, 0, 0, 0, []), (.iconst 4, 1, 0, 0, 0, [(4, 0)]), (.invokevirtual 89, 3, 123, 0, 399, []), (.ireturn, 1, 0, 0, 0, [])]
theorem ck_X11_feed_16 : mChk 91 16 bk_X11_feed_16 = true := by decide +kernel
def bk_X11_feed_39 : List mI := [(.iconst 0, 1, 0, 0, 0, [(0, 0)]), (.istore 4, 2, 0, 0, 0, [])]
theorem ck_X11_feed_39 : mChk 91 39 bk_X11_feed_39 = true := by decide +kernel
def bk_X11_feed_42 : List mI := [(.iload 4, 2, 0, 0, 0, []), (.iload_n 3, 1, 0, 0, 0, []), (.if_icmp .ge 31, 3, 76, 0, 0, []), (.aload_n 0, 1, 0, 0, 0, []), (.getfield 10, 3, 11, 3, 364, []), (.getfield 43, 3, 1, 3, 156, []), (.lload_n 1, 1, 0, 0, 0, []), (.bipush 8, 2, 0, 0, 0, [(8, 0)]), (.iload 4, 2, 0, 0, 0, []), (.imul, 1, 0, 0, 0, []), (.lushr, 1, 0, 0, 0, []), (.l2i, 1, 0, 0, 0, []), (.sipush 255, 3, 0, 0, 0, [(255, 0)]), (.iand, 1, 0, 0, 0, []), (.invokevirtual 189, 3, 26, 0, 579, []), (.iinc 4 1, 3, 0, 0, 0, [(1, 0)]), (.goto (-31), 3, 42, 0, 0, [])]
theorem ck_X11_feed_42 : mChk 91 42 bk_X11_feed_42 = true := by decide +kernel
def bk_X11_feed_76 : List mI := [(.aload_n 0, 1, 0, 0, 0, []), (.getfield 10, 3, 11, 3, 364, []), (.getfield 43, 3, 1, 3, 156, []), (.getfield 186, 3, 4, 1, 143, []), (.ireturn, 1, 0, 0, 0, [])]
theorem ck_X11_feed_76 : mChk 91 76 bk_X11_feed_76 = true := by decide +kernel
def c_X11_feed_42 : Nat → Int64 → Int32 → Int32 → Sg → Option (Int32 × Sg)
  | 0, _, _, _, _ => none
  | n + 1, x1, x3, x4, σ => (if x3 ≤ x4 then (some ((σ 12 1), σ)) else ((f_X4_append 12 50 ((((x1).toUInt64 >>> ((((8 : Int32) * x4)).toInt64.toUInt64 &&& Int64.toUInt64 63)).toInt64).toInt32 &&& (255 : Int32)) σ).bind fun q2 => (c_X11_feed_42  n x1 x3 (x4 + (1 : Int32)) q2)))
set_option maxHeartbeats 4000000 in
theorem okc_X11_feed_42 {L : Nat} {R : Int32 × Sg} {n : Nat} {x1 : Int64} {x3 : Int32} {x4 : Int32} {σ : Sg} {pl : mLoc} (h : c_X11_feed_42 n x1 x3 x4 σ = some R) (hl : mlf [some (.ref 0), some (.long x1), none, some (.int x3), some (.int x4)] pl) : mAt 2 91 (some (.int R.1), (mSh, L, R.2)) 42 pl [] (mSh, L, σ) 0 0 := by
  induction n generalizing x1 x3 x4 σ pl with
  | zero =>
    rw [c_X11_feed_42.eq_1] at h
    cases h
  | succ n ih =>
    refine mAt.less hl ?_
    rw [c_X11_feed_42.eq_2] at h
    refine mAt.blk bk_X11_feed_42 ck_X11_feed_42 ?_
    refine q_iload rfl ?_
    refine q_iload_n rfl ?_
    refine q_ic_ge (fun c1 => ?_) (fun c1 => ?_)
    · rw [if_pos c1] at h
      refine mAt.blk bk_X11_feed_76 ck_X11_feed_76 ?_
      refine q_aload_n rfl ?_
      refine q_getR ob_0 rfl rfl ?_
      refine q_getR ob_1 rfl rfl ?_
      refine q_getI ob_12 rfl ?_
      have h := Option.some.inj h
      subst h
      exact q_iretI mcap_0 rfl rfl
    · rw [if_neg c1] at h
      refine q_aload_n rfl ?_
      refine q_getR ob_0 rfl rfl ?_
      refine q_getR ob_1 rfl rfl ?_
      refine q_lload_n rfl ?_
      refine q_bipush ?_
      refine q_iload rfl ?_
      refine q_imul ?_
      refine q_lushr ?_
      refine q_l2i ?_
      refine q_sipush ?_
      refine q_iand ?_
      obtain ⟨q2, e2, h⟩ := mbind h
      refine q_vV1 mcap_0 rfl rfl ob_12 rfl (by decide) (ok_X4_append p4_12 e2) ?_
      refine q_iinc rfl rfl ?_
      refine q_goto ?_
      exact ih  h ⟨rfl, rfl, rfl, rfl, trivial⟩
def f_X11_feed (p0 : Int64) (p1 : Int32) (σ : Sg) : Option (Int32 × Sg) := ((f_X11_within p1 (1 : Int32) (8 : Int32) σ).bind fun q3 => (if q3 = 0 then ((f_X11_error (1 : Int32) σ).bind fun q7 => (some (q7.1, q7.2))) else (if ((σ 12 1) + p1) ≤ (50 : Int32) then (c_X11_feed_42   1000 p0 p1 (0 : Int32) σ) else ((f_X11_error (4 : Int32) σ).bind fun q6 => (some (q6.1, q6.2))))))
set_option maxHeartbeats 4000000 in
theorem ok_X11_feed {L : Nat} {p0 : Int64} {p1 : Int32} {σ : Sg} {R : Int32 × Sg} (h : f_X11_feed p0 p1 σ = some R) : mEv 2 91 [.ref 0, .long p0, .int p1] (mSh, L, σ) (some (.int R.1)) (mSh, L, R.2) := by
  refine mEv.of (by decide) rfl rfl ?_
  unfold f_X11_feed at h
  refine mAt.blk bk_X11_feed_0 ck_X11_feed_0 ?_
  refine q_iload_n rfl ?_
  refine q_iconst ?_
  refine q_bipush ?_
  obtain ⟨q3, e3, h⟩ := mbind h
  refine q_sI3 mcap_0 rfl rfl rfl rfl (by decide) (ok_X11_within  e3) ?_
  refine q_if_ne (fun c4 => ?_) (fun c4 => ?_)
  · rw [if_pos c4] at h
    refine q_aload_n rfl ?_
    refine q_iconst ?_
    obtain ⟨q7, e7, h⟩ := mbind h
    refine q_vI1 mcap_0 rfl rfl ob_0 rfl (by decide) (ok_X11_error  e7) ?_
    have h := Option.some.inj h
    subst h
    exact q_iretI mcap_0 rfl rfl
  · rw [if_neg c4] at h
    refine mAt.blk bk_X11_feed_16 ck_X11_feed_16 ?_
    refine q_aload_n rfl ?_
    refine q_getR ob_0 rfl rfl ?_
    refine q_getR ob_1 rfl rfl ?_
    refine q_getI ob_12 rfl ?_
    refine q_iload_n rfl ?_
    refine q_iadd ?_
    refine q_bipush ?_
    refine q_ic_le (fun c5 => ?_) (fun c5 => ?_)
    · rw [if_pos c5] at h
      refine mAt.blk bk_X11_feed_39 ck_X11_feed_39 ?_
      refine q_iconst ?_
      refine q_istore rfl rfl ?_
      exact okc_X11_feed_42  h ⟨rfl, rfl, rfl, rfl, trivial⟩
    · rw [if_neg c5] at h
      refine q_aload_n rfl ?_
      refine q_iconst ?_
      obtain ⟨q6, e6, h⟩ := mbind h
      refine q_vI1 mcap_0 rfl rfl ob_0 rfl (by decide) (ok_X11_error  e6) ?_
      have h := Option.some.inj h
      subst h
      exact q_iretI mcap_0 rfl rfl
def bk_X11_isUse_0 : List mI := [(.iload_n 0, 1, 0, 0, 0, []), (.ifCond .eq 8, 3, 9, 0, 0, []), (.iload_n 0, 1, 0, 0, 0, []), (.iconst 1, 1, 0, 0, 0, [(1, 0)]), (.if_icmp .ne 7, 3, 13, 0, 0, [])]
theorem ck_X11_isUse_0 : mChk 127 0 bk_X11_isUse_0 = true := by decide +kernel
def bk_X11_isUse_9 : List mI := [(.iconst 1, 1, 0, 0, 0, [(1, 0)]), (.goto 4, 3, 14, 0, 0, [])]
theorem ck_X11_isUse_9 : mChk 127 9 bk_X11_isUse_9 = true := by decide +kernel
def bk_X11_isUse_13 : List mI := [(.iconst 0, 1, 0, 0, 0, [(0, 0)])]
theorem ck_X11_isUse_13 : mChk 127 13 bk_X11_isUse_13 = true := by decide +kernel
def bk_X11_isUse_14 : List mI := [(.ireturn, 1, 0, 0, 0, [])]
theorem ck_X11_isUse_14 : mChk 127 14 bk_X11_isUse_14 = true := by decide +kernel
def c_X11_isUse_9 (σ : Sg) : Option (Int32) := (some (1 : Int32))
set_option maxHeartbeats 4000000 in
theorem okc_X11_isUse_9 {L : Nat} {σ : Sg} {R : Int32} {pl : mLoc} (h : c_X11_isUse_9 σ = some R) (hl : mlf [none] pl) : mAt 0 127 (some (.int R), (mSh, L, σ)) 9 pl [] (mSh, L, σ) 0 0 := by
  refine mAt.less hl ?_
  unfold c_X11_isUse_9 at h
  refine mAt.blk bk_X11_isUse_9 ck_X11_isUse_9 ?_
  refine q_iconst ?_
  refine q_goto ?_
  refine mAt.blk bk_X11_isUse_14 ck_X11_isUse_14 ?_
  have h := Option.some.inj h
  subst h
  exact q_iretZ mcap_0 rfl (by decide) rfl
def f_X11_isUse (p0 : Int32) (σ : Sg) : Option (Int32) := (if p0 = 0 then (c_X11_isUse_9  σ ) else (if p0 = (1 : Int32) then (c_X11_isUse_9  σ ) else (some (0 : Int32))))
set_option maxHeartbeats 4000000 in
theorem ok_X11_isUse {L : Nat} {p0 : Int32} {σ : Sg} {R : Int32} (h : f_X11_isUse p0 σ = some R) : mEv 0 127 [.int p0] (mSh, L, σ) (some (.int R)) (mSh, L, σ) := by
  refine mEv.of (by decide) rfl rfl ?_
  unfold f_X11_isUse at h
  refine mAt.blk bk_X11_isUse_0 ck_X11_isUse_0 ?_
  refine q_iload_n rfl ?_
  refine q_if_eq (fun c1 => ?_) (fun c1 => ?_)
  · rw [if_pos c1] at h
    exact okc_X11_isUse_9  h trivial
  · rw [if_neg c1] at h
    refine q_iload_n rfl ?_
    refine q_iconst ?_
    refine q_ic_ne (fun c2 => ?_) (fun c2 => ?_)
    · rw [if_pos c2] at h
      exact okc_X11_isUse_9  h trivial
    · rw [if_neg c2] at h
      refine mAt.blk bk_X11_isUse_13 ck_X11_isUse_13 ?_
      refine q_iconst ?_
      refine mAt.blk bk_X11_isUse_14 ck_X11_isUse_14 ?_
      have h := Option.some.inj h
      subst h
      exact q_iretZ mcap_0 rfl (by decide) rfl
