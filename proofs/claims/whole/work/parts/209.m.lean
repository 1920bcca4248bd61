def bk_X11_move_0 : List mI := [(.aload_n 0, 1, 0, 0, 0, []), (.iload_n 1, 1, 0, 0, 0, []), (.invokevirtual 143, 3, 124, 0, 462, []), (.astore 6, 2, 0, 0, 0, []), (.aload_n 0, 1, 0, 0, 0, []), (.iload_n 3, 1, 0, 0, 0, []), (.invokevirtual 143, 3, 124, 0, 462, []), (.astore 7, 2, 0, 0, 0, []), (.aload 6, 2, 0, 0, 0, []), (.ifnull 8, 3, 24, 0, 0, []), (.aload 7, 2, 0, 0, 0, []), (.ifnonnull 9, 3, 30, 0, 0, [])]
theorem ck_X11_move_0 : mChk 116 0 bk_X11_move_0 = true := by decide +kernel
def bk_X11_move_24 : List mI := [(.aload_n 0, 1, 0, 0, 0, []), (.iconst 1, 1, 0, 0, 0, [(1, 0)]), (.invokevirtual 89, 3, 123, 0, 399, []), (.ireturn, 1, 0, 0, 0, [])]
theorem ck_X11_move_24 : mChk 116 24 bk_X11_move_24 = true := by decide +kernel
def bk_X11_move_30 : List mI := [(.aload 6, 2, 0, 0, 0, []), (.getfield 147, 3, 5, 1, 351, []), (.ifCond .eq 11, 3, 46, 0, 0, []), (.aload 7, 2, 0, 0, 0, []), (.getfield 147, 3, 5, 1, 351, []), (.ifCond .ne 9, 3, 52, 0, 0, [])]
theorem ck_X11_move_30 : mChk 116 30 bk_X11_move_30 = true := by decide +kernel
def bk_X11_move_46 : List mI := [(.aload_n 0, 1, 0, 0, 0, []), (.iconst 2, 1, 0, 0, 0, [(2, 0)]), (.invokevirtual 89, 3, 123, 0, 399, []), (.ireturn, 1, 0, 0, 0, [])]
theorem ck_X11_move_46 : mChk 116 46 bk_X11_move_46 = true := by decide +kernel
def bk_X11_move_52 : List mI := [(.aload 6, 2, 0, 0, 0, []), (.getfield 147, 3, 5, 1, 351, []), (.aload 7, 2, 0, 0, 0, []), (.getfield 147, 3, 5, 1, 351, []), (.if_icmp .eq 9, 3, 71, 0, 0, []), (.aload_n 0, 1, 0, 0, 0, []), (.iconst 5, 1, 0, 0, 0, [(5, 0)]), (.invokevirtual 89, 3, 123, 0, 399, []), (.ireturn, 1, 0, 0, 0, [])]
theorem ck_X11_move_52 : mChk 116 52 bk_X11_move_52 = true := by decide +kernel
def bk_X11_move_71 : List mI := [(.aload 6, 2, 0, 0, 0, []), (.iload_n 2, 1, 0, 0, 0, []), (.iload 5, 2, 0, 0, 0, []), (.invokevirtual 304, 3, 30, 0, 884, []), (.ifCond .eq 15, 3, 94, 0, 0, []), (.aload 7, 2, 0, 0, 0, []), (.iload 4, 2, 0, 0, 0, []), (.iload 5, 2, 0, 0, 0, []), (.invokevirtual 304, 3, 30, 0, 884, []), (.ifCond .ne 9, 3, 100, 0, 0, [])]
theorem ck_X11_move_71 : mChk 116 71 bk_X11_move_71 = true := by decide +kernel
def bk_X11_move_94 : List mI := [(.aload_n 0, 1, 0, 0, 0, []), (.iconst 1, 1, 0, 0, 0, [(1, 0)]), (.invokevirtual 89, 3, 123, 0, 399, []), (.ireturn, 1, 0, 0, 0, [])]
theorem ck_X11_move_94 : mChk 116 94 bk_X11_move_94 = true := by decide +kernel
def bk_X11_move_100 : List mI := [(.aload 6, 2, 0, 0, 0, []), (.getfield 150, 3, 5, 0, 349, []), (.iload_n 2, 1, 0, 0, 0, []), (.aload 7, 2, 0, 0, 0, []), (.getfield 150, 3, 5, 0, 349, []), (.iload 4, 2, 0, 0, 0, []), (.iload 5, 2, 0, 0, 0, []), (.invokestatic 307, 3, 998, 0, 641, []), (.iload 5, 2, 0, 0, 0, []), (.ireturn, 1, 0, 0, 0, [])]
theorem ck_X11_move_100 : mChk 116 100 bk_X11_move_100 = true := by decide +kernel
def f_X11_move (p0 : Int32) (p1 : Int32) (p2 : Int32) (p3 : Int32) (p4 : Int32) (σ : Sg) : Option (Int32 × Sg) := ((f_X11_sheetAt p0 σ).bind fun q1 => match q1 with | none => ((f_X11_sheetAt p2 σ).bind fun q2 => match q2 with | none => ((f_X11_error (1 : Int32) σ).bind fun q3 => (some (q3.1, q3.2))) | some z2 => ((f_X11_error (1 : Int32) σ).bind fun q4 => (some (q4.1, q4.2)))) | some z1 => ((f_X11_sheetAt p2 σ).bind fun q5 => match q5 with | none => ((f_X11_error (1 : Int32) σ).bind fun q6 => (some (q6.1, q6.2))) | some z5 => (if (σ z1 1) = 0 then ((f_X11_error (2 : Int32) σ).bind fun q8 => (some (q8.1, q8.2))) else (if (σ z5 1) = 0 then ((f_X11_error (2 : Int32) σ).bind fun q19 => (some (q19.1, q19.2))) else (if (σ z1 1) = (σ z5 1) then ((f_X5_hasSpan z1 p1 p4 σ).bind fun q11 => (if q11 = 0 then ((f_X11_error (1 : Int32) σ).bind fun q13 => (some (q13.1, q13.2))) else ((f_X5_hasSpan z5 p3 p4 σ).bind fun q14 => (if q14 = 0 then ((f_X11_error (1 : Int32) σ).bind fun q17 => (some (q17.1, q17.2))) else (if p1 < 0 ∨ p3 < 0 ∨ p4 < 0 ∨ 40 < (p1).toNatClampNeg + (p4).toNatClampNeg ∨ 40 < (p3).toNatClampNeg + (p4).toNatClampNeg then none else (some (p4, (mrow σ (z5 + 1) (va_cpy (σ (z1 + 1)) (σ (z5 + 1)) (p1).toNatClampNeg (p3).toNatClampNeg (p4).toNatClampNeg))))))))) else ((f_X11_error (5 : Int32) σ).bind fun q18 => (some (q18.1, q18.2))))))))
set_option maxHeartbeats 4000000 in
theorem ok_X11_move {L : Nat} {p0 : Int32} {p1 : Int32} {p2 : Int32} {p3 : Int32} {p4 : Int32} {σ : Sg} {R : Int32 × Sg} (h : f_X11_move p0 p1 p2 p3 p4 σ = some R) : mEv 2 116 [.ref 0, .int p0, .int p1, .int p2, .int p3, .int p4] (mSh, L, σ) (some (.int R.1)) (mSh, L, R.2) := by
  refine mEv.of (by decide) rfl rfl ?_
  unfold f_X11_move at h
  refine mAt.blk bk_X11_move_0 ck_X11_move_0 ?_
  refine q_aload_n rfl ?_
  refine q_iload_n rfl ?_
  obtain ⟨q1, e1, h⟩ := mbind h
  rcases q1 with _ | z1
  · dsimp only at h
    refine q_vN1 mcap_0 rfl rfl ob_0 rfl (by decide) (ok_X11_sheetAt  e1) ?_
    refine q_astoreN rfl rfl ?_
    refine q_aload_n rfl ?_
    refine q_iload_n rfl ?_
    obtain ⟨q2, e2, h⟩ := mbind h
    rcases q2 with _ | z2
    · dsimp only at h
      refine q_vN1 mcap_0 rfl rfl ob_0 rfl (by decide) (ok_X11_sheetAt  e2) ?_
      refine q_astoreN rfl rfl ?_
      refine q_aloadN rfl ?_
      refine q_ifnullN ?_
      refine mAt.blk bk_X11_move_24 ck_X11_move_24 ?_
      refine q_aload_n rfl ?_
      refine q_iconst ?_
      obtain ⟨q3, e3, h⟩ := mbind h
      refine q_vI1 mcap_0 rfl rfl ob_0 rfl (by decide) (ok_X11_error  e3) ?_
      have h := Option.some.inj h
      subst h
      exact q_iretI mcap_0 rfl rfl
    · dsimp only at h
      refine q_vR1 mcap_0 rfl rfl ob_0 rfl (by decide) (ok_X11_sheetAt  e2) ?_
      refine q_astore rfl rfl ?_
      refine q_aloadN rfl ?_
      refine q_ifnullN ?_
      refine mAt.blk bk_X11_move_24 ck_X11_move_24 ?_
      refine q_aload_n rfl ?_
      refine q_iconst ?_
      obtain ⟨q4, e4, h⟩ := mbind h
      refine q_vI1 mcap_0 rfl rfl ob_0 rfl (by decide) (ok_X11_error  e4) ?_
      have h := Option.some.inj h
      subst h
      exact q_iretI mcap_0 rfl rfl
  · dsimp only at h
    refine q_vR1 mcap_0 rfl rfl ob_0 rfl (by decide) (ok_X11_sheetAt  e1) ?_
    refine q_astore rfl rfl ?_
    refine q_aload_n rfl ?_
    refine q_iload_n rfl ?_
    obtain ⟨q5, e5, h⟩ := mbind h
    rcases q5 with _ | z5
    · dsimp only at h
      refine q_vN1 mcap_0 rfl rfl ob_0 rfl (by decide) (ok_X11_sheetAt  e5) ?_
      refine q_astoreN rfl rfl ?_
      refine q_aload rfl ?_
      refine q_ifnullR ?_
      refine q_aloadN rfl ?_
      refine q_ifnonnullN ?_
      refine mAt.blk bk_X11_move_24 ck_X11_move_24 ?_
      refine q_aload_n rfl ?_
      refine q_iconst ?_
      obtain ⟨q6, e6, h⟩ := mbind h
      refine q_vI1 mcap_0 rfl rfl ob_0 rfl (by decide) (ok_X11_error  e6) ?_
      have h := Option.some.inj h
      subst h
      exact q_iretI mcap_0 rfl rfl
    · dsimp only at h
      refine q_vR1 mcap_0 rfl rfl ob_0 rfl (by decide) (ok_X11_sheetAt  e5) ?_
      refine q_astore rfl rfl ?_
      refine q_aload rfl ?_
      refine q_ifnullR ?_
      refine q_aload rfl ?_
      refine q_ifnonnullR ?_
      refine mAt.blk bk_X11_move_30 ck_X11_move_30 ?_
      refine q_aload rfl ?_
      refine q_getI ((ty_X11_sheetAt e1)).1 rfl ?_
      refine q_if_eq (fun c7 => ?_) (fun c7 => ?_)
      · rw [if_pos c7] at h
        refine mAt.blk bk_X11_move_46 ck_X11_move_46 ?_
        refine q_aload_n rfl ?_
        refine q_iconst ?_
        obtain ⟨q8, e8, h⟩ := mbind h
        refine q_vI1 mcap_0 rfl rfl ob_0 rfl (by decide) (ok_X11_error  e8) ?_
        have h := Option.some.inj h
        subst h
        exact q_iretI mcap_0 rfl rfl
      · rw [if_neg c7] at h
        refine q_aload rfl ?_
        refine q_getI ((ty_X11_sheetAt e5)).1 rfl ?_
        refine q_if_ne (fun c9 => ?_) (fun c9 => ?_)
        · rw [if_pos c9] at h
          refine mAt.blk bk_X11_move_46 ck_X11_move_46 ?_
          refine q_aload_n rfl ?_
          refine q_iconst ?_
          obtain ⟨q19, e19, h⟩ := mbind h
          refine q_vI1 mcap_0 rfl rfl ob_0 rfl (by decide) (ok_X11_error  e19) ?_
          have h := Option.some.inj h
          subst h
          exact q_iretI mcap_0 rfl rfl
        · rw [if_neg c9] at h
          refine mAt.blk bk_X11_move_52 ck_X11_move_52 ?_
          refine q_aload rfl ?_
          refine q_getI ((ty_X11_sheetAt e1)).1 rfl ?_
          refine q_aload rfl ?_
          refine q_getI ((ty_X11_sheetAt e5)).1 rfl ?_
          refine q_ic_eq (fun c10 => ?_) (fun c10 => ?_)
          · rw [if_pos c10] at h
            refine mAt.blk bk_X11_move_71 ck_X11_move_71 ?_
            refine q_aload rfl ?_
            refine q_iload_n rfl ?_
            refine q_iload rfl ?_
            obtain ⟨q11, e11, h⟩ := mbind h
            refine q_vI2 mcap_0 rfl rfl ((ty_X11_sheetAt e1)).1 rfl (by decide) (ok_X5_hasSpan (ty_X11_sheetAt e1) e11) ?_
            refine q_if_eq (fun c12 => ?_) (fun c12 => ?_)
            · rw [if_pos c12] at h
              refine mAt.blk bk_X11_move_94 ck_X11_move_94 ?_
              refine q_aload_n rfl ?_
              refine q_iconst ?_
              obtain ⟨q13, e13, h⟩ := mbind h
              refine q_vI1 mcap_0 rfl rfl ob_0 rfl (by decide) (ok_X11_error  e13) ?_
              have h := Option.some.inj h
              subst h
              exact q_iretI mcap_0 rfl rfl
            · rw [if_neg c12] at h
              refine q_aload rfl ?_
              refine q_iload rfl ?_
              refine q_iload rfl ?_
              obtain ⟨q14, e14, h⟩ := mbind h
              refine q_vI2 mcap_0 rfl rfl ((ty_X11_sheetAt e5)).1 rfl (by decide) (ok_X5_hasSpan (ty_X11_sheetAt e5) e14) ?_
              refine q_if_ne (fun c15 => ?_) (fun c15 => ?_)
              · rw [if_pos c15] at h
                refine mAt.blk bk_X11_move_94 ck_X11_move_94 ?_
                refine q_aload_n rfl ?_
                refine q_iconst ?_
                obtain ⟨q17, e17, h⟩ := mbind h
                refine q_vI1 mcap_0 rfl rfl ob_0 rfl (by decide) (ok_X11_error  e17) ?_
                have h := Option.some.inj h
                subst h
                exact q_iretI mcap_0 rfl rfl
              · rw [if_neg c15] at h
                refine mAt.blk bk_X11_move_100 ck_X11_move_100 ?_
                refine q_aload rfl ?_
                refine q_getR ((ty_X11_sheetAt e1)).1 rfl rfl ?_
                refine q_iload_n rfl ?_
                refine q_aload rfl ?_
                refine q_getR ((ty_X11_sheetAt e5)).1 rfl rfl ?_
                refine q_iload rfl ?_
                refine q_iload rfl ?_
                obtain ⟨c16, h⟩ := mnone h
                refine q_copy rfl (by decide) ((ty_X11_sheetAt e1)).2 ((ty_X11_sheetAt e5)).2 c16 ?_
                refine q_iload rfl ?_
                have h := Option.some.inj h
                subst h
                exact q_iretI mcap_0 rfl rfl
          · rw [if_neg c10] at h
            refine q_aload_n rfl ?_
            refine q_iconst ?_
            obtain ⟨q18, e18, h⟩ := mbind h
            refine q_vI1 mcap_0 rfl rfl ob_0 rfl (by decide) (ok_X11_error  e18) ?_
            have h := Option.some.inj h
            subst h
            exact q_iretI mcap_0 rfl rfl
def bk_X11_image_0 : List mI := [(.aload_n 0, 1, 0, 0, 0, []), (.getfield 38, 3, 11, 2, 363, []), (.aload_n 0, 1, 0, 0, 0, []), (.getfield 31, 3, 11, 0, 361, []), (.invokevirtual 224, 3, 68, 0, 689, []), (.aload_n 0, 1, 0, 0, 0, []), (.getfield 16, 3, 11, 4, 365, []), (.aload_n 0, 1, 0, 0, 0, []), (.getfield 10, 3, 11, 3, 364, []), (.invokevirtual 313, 3, 6, 0, 892, []), (.aload_n 0, 1, 0, 0, 0, []), (.dup, 1, 0, 0, 0, []), (.getfield 316, 3, 11, 10, 371, []), (.iconst 1, 1, 0, 0, 0, [(1, 0)]), (.iadd, 1, 0, 0, 0, []), (.putfield 316, 3, 11, 10, 371, []), (.aload_n 0, 1, 0, 0, 0, []), (.getfield 316, 3, 11, 10, 371, []), (.ireturn, 1, 0, 0, 0, [])]
theorem ck_X11_image_0 : mChk 117 0 bk_X11_image_0 = true := by decide +kernel
def f_X11_image (σ : Sg) : Option (Int32 × Sg) := ((f_X10_copyFrom 57 21 24 31 6 9 σ).bind fun q1 => ((f_X1_copyFrom 16 1 q1).bind fun q2 => (some (((mup q2 0 10 ((q2 0 10) + (1 : Int32))) 0 10), (mup q2 0 10 ((q2 0 10) + (1 : Int32)))))))
set_option maxHeartbeats 4000000 in
theorem ok_X11_image {L : Nat} {σ : Sg} {R : Int32 × Sg} (h : f_X11_image σ = some R) : mEv 4 117 [.ref 0] (mSh, L, σ) (some (.int R.1)) (mSh, L, R.2) := by
  refine mEv.of (by decide) rfl rfl ?_
  unfold f_X11_image at h
  refine mAt.blk bk_X11_image_0 ck_X11_image_0 ?_
  refine q_aload_n rfl ?_
  refine q_getR ob_0 rfl rfl ?_
  refine q_aload_n rfl ?_
  refine q_getR ob_0 rfl rfl ?_
  obtain ⟨q1, e1, h⟩ := mbind h
  refine q_vV1 mcap_0 rfl rfl ob_57 rfl (by decide) (ok_X10_copyFrom p10_57 p10_31 e1) ?_
  refine q_aload_n rfl ?_
  refine q_getR ob_0 rfl rfl ?_
  refine q_aload_n rfl ?_
  refine q_getR ob_0 rfl rfl ?_
  obtain ⟨q2, e2, h⟩ := mbind h
  refine q_vV1 mcap_0 rfl rfl ob_16 rfl (by decide) (ok_X1_copyFrom p1_16 p1_1 e2) ?_
  refine q_aload_n rfl ?_
  refine q_dupR ?_
  refine q_getI ob_0 rfl ?_
  refine q_iconst ?_
  refine q_iadd ?_
  refine q_putI ob_0 rfl ?_
  refine q_aload_n rfl ?_
  refine q_getI ob_0 rfl ?_
  have h := Option.some.inj h
  subst h
  exact q_iretI mcap_0 rfl rfl
def bk_X11_restore_0 : List mI := [(.aload_n 0, 1, 0, 0, 0, []), (.getfield 316, 3, 11, 10, 371, []), (.ifCond .ne 9, 3, 13, 0, 0, []), (.aload_n 0, 1, 0, 0, 0, []), (.iconst 2, 1, 0, 0, 0, [(2, 0)]), (.invokevirtual 89, 3, 123, 0, 399, []), (.ireturn, 1, 0, 0, 0, [])]
theorem ck_X11_restore_0 : mChk 118 0 bk_X11_restore_0 = true := by decide +kernel
def bk_X11_restore_13 : List mI := [(.aload_n 0, 1, 0, 0, 0, []), (.getfield 31, 3, 11, 0, 361, []), (.aload_n 0, 1, 0, 0, 0, []), (.getfield 38, 3, 11, 2, 363, []), (.invokevirtual 224, 3, 68, 0, 689, []), (.aload_n 0, 1, 0, 0, 0, []), (.getfield 10, 3, 11, 3, 364, []), (.aload_n 0, 1, 0, 0, 0, []), (.getfield 16, 3, 11, 4, 365, []), (.invokevirtual 313, 3, 6, 0, 892, []), (.aload_n 0, 1, 0, 0, 0, []), (.getfield 31, 3, 11, 0, 361, []), (.getfield 212, 3, 10, 4, 256, []), (.ireturn, 1, 0, 0, 0, [])]
theorem ck_X11_restore_13 : mChk 118 13 bk_X11_restore_13 = true := by decide +kernel
def f_X11_restore (σ : Sg) : Option (Int32 × Sg) := (if (σ 0 10) = 0 then ((f_X11_error (2 : Int32) σ).bind fun q4 => (some (q4.1, q4.2))) else ((f_X10_copyFrom 31 6 9 57 21 24 σ).bind fun q2 => ((f_X1_copyFrom 1 16 q2).bind fun q3 => (some ((q3 31 4), q3)))))
set_option maxHeartbeats 4000000 in
theorem ok_X11_restore {L : Nat} {σ : Sg} {R : Int32 × Sg} (h : f_X11_restore σ = some R) : mEv 4 118 [.ref 0] (mSh, L, σ) (some (.int R.1)) (mSh, L, R.2) := by
  refine mEv.of (by decide) rfl rfl ?_
  unfold f_X11_restore at h
  refine mAt.blk bk_X11_restore_0 ck_X11_restore_0 ?_
  refine q_aload_n rfl ?_
  refine q_getI ob_0 rfl ?_
  refine q_if_ne (fun c1 => ?_) (fun c1 => ?_)
  · rw [if_pos c1] at h
    refine q_aload_n rfl ?_
    refine q_iconst ?_
    obtain ⟨q4, e4, h⟩ := mbind h
    refine q_vI1 mcap_0 rfl rfl ob_0 rfl (by decide) (ok_X11_error  e4) ?_
    have h := Option.some.inj h
    subst h
    exact q_iretI mcap_0 rfl rfl
  · rw [if_neg c1] at h
    refine mAt.blk bk_X11_restore_13 ck_X11_restore_13 ?_
    refine q_aload_n rfl ?_
    refine q_getR ob_0 rfl rfl ?_
    refine q_aload_n rfl ?_
    refine q_getR ob_0 rfl rfl ?_
    obtain ⟨q2, e2, h⟩ := mbind h
    refine q_vV1 mcap_0 rfl rfl ob_31 rfl (by decide) (ok_X10_copyFrom p10_31 p10_57 e2) ?_
    refine q_aload_n rfl ?_
    refine q_getR ob_0 rfl rfl ?_
    refine q_aload_n rfl ?_
    refine q_getR ob_0 rfl rfl ?_
    obtain ⟨q3, e3, h⟩ := mbind h
    refine q_vV1 mcap_0 rfl rfl ob_1 rfl (by decide) (ok_X1_copyFrom p1_1 p1_16 e3) ?_
    refine q_aload_n rfl ?_
    refine q_getR ob_0 rfl rfl ?_
    refine q_getI ob_31 rfl ?_
    have h := Option.some.inj h
    subst h
    exact q_iretI mcap_0 rfl rfl
def bk_X11_tell_0 : List mI := [(.aload_n 0, 1, 0, 0, 0, []), (.getfield 10, 3, 11, 3, 364, []), (.getfield 319, 3, 1, 4, 158, []), (.getfield 186, 3, 4, 1, 143, []), (.bipush 20, 2, 0, 0, 0, [(20, 0)]), (.if_icmp .lt 9, 3, 21, 0, 0, []), (.aload_n 0, 1, 0, 0, 0, []), (.iconst 4, 1, 0, 0, 0, [(4, 0)]), (.invokevirtual 89, 3, 123, 0, 399, []), (.ireturn, 1, 0, 0, 0, [])]
theorem ck_X11_tell_0 : mChk 119 0 bk_X11_tell_0 = true := by decide +kernel
def bk_X11_tell_21 : List mI := [(.aload_n 0, 1, 0, 0, 0, []), (.getfield 10, 3, 11, 3, 364, []), (.getfield 319, 3, 1, 4, 158, []), (.iload_n 1, 1, 0, 0, 0, []), (.invokevirtual 189, 3, 26, 0, 579, []), (.aload_n 0, 1, 0, 0, 0, []), (.getfield 10, 3, 11, 3, 364, []), (.getfield 319, 3, 1, 4, 158, []), (.getfield 186, 3, 4, 1, 143, []), (.ireturn, 1, 0, 0, 0, [])]
theorem ck_X11_tell_21 : mChk 119 21 bk_X11_tell_21 = true := by decide +kernel
def f_X11_tell (p0 : Int32) (σ : Sg) : Option (Int32 × Sg) := (if (σ 14 1) < (20 : Int32) then ((f_X4_append 14 20 p0 σ).bind fun q2 => (some ((q2 14 1), q2))) else ((f_X11_error (4 : Int32) σ).bind fun q3 => (some (q3.1, q3.2))))
set_option maxHeartbeats 4000000 in
theorem ok_X11_tell {L : Nat} {p0 : Int32} {σ : Sg} {R : Int32 × Sg} (h : f_X11_tell p0 σ = some R) : mEv 2 119 [.ref 0, .int p0] (mSh, L, σ) (some (.int R.1)) (mSh, L, R.2) := by
  refine mEv.of (by decide) rfl rfl ?_
  unfold f_X11_tell at h
  refine mAt.blk bk_X11_tell_0 ck_X11_tell_0 ?_
  refine q_aload_n rfl ?_
  refine q_getR ob_0 rfl rfl ?_
  refine q_getR ob_1 rfl rfl ?_
  refine q_getI ob_14 rfl ?_
  refine q_bipush ?_
  refine q_ic_lt (fun c1 => ?_) (fun c1 => ?_)
  · rw [if_pos c1] at h
    refine mAt.blk bk_X11_tell_21 ck_X11_tell_21 ?_
    refine q_aload_n rfl ?_
    refine q_getR ob_0 rfl rfl ?_
    refine q_getR ob_1 rfl rfl ?_
    refine q_iload_n rfl ?_
    obtain ⟨q2, e2, h⟩ := mbind h
    refine q_vV1 mcap_0 rfl rfl ob_14 rfl (by decide) (ok_X4_append p4_14 e2) ?_
    refine q_aload_n rfl ?_
    refine q_getR ob_0 rfl rfl ?_
    refine q_getR ob_1 rfl rfl ?_
    refine q_getI ob_14 rfl ?_
    have h := Option.some.inj h
    subst h
    exact q_iretI mcap_0 rfl rfl
  · rw [if_neg c1] at h
    refine q_aload_n rfl ?_
    refine q_iconst ?_
    obtain ⟨q3, e3, h⟩ := mbind h
    refine q_vI1 mcap_0 rfl rfl ob_0 rfl (by decide) (ok_X11_error  e3) ?_
    have h := Option.some.inj h
    subst h
    exact q_iretI mcap_0 rfl rfl
def bk_X11_check_0 : List mI := [(.aload_n 0, 1, 0, 0, 0, []), (.getfield 10, 3, 11, 3, 364, []), (.getfield 319, 3, 1, 4, 158, []), (.getfield 186, 3, 4, 1, 143, []), (.istore_n 2, 1, 0, 0, 0, []), (.aload_n 0, 1, 0, 0, 0, []), (.getfield 10, 3, 11, 3, 364, []), (.getfield 319, 3, 1, 4, 158, []), (.iconst 0, 1, 0, 0, 0, [(0, 0)]), (.putfield 186, 3, 4, 1, 143, []), (.aload_n 0, 1, 0, 0, 0, []), (.getfield 31, 3, 11, 0, 361, []), (.getfield 133, 3, 10, 1, 252, []), (.iload_n 1, 1, 0, 0, 0, []), (.invokevirtual 160, 3, 39, 0, 486, []), (.ifCond .ne 9, 3, 42, 0, 0, []), (.aload_n 0, 1, 0, 0, 0, []), (.iconst 1, 1, 0, 0, 0, [(1, 0)]), (.invokevirtual 89, 3, 123, 0, 399, []), (.ireturn, 1, 0, 0, 0, [])]
theorem ck_X11_check_0 : mChk 120 0 bk_X11_check_0 = true := by decide +kernel
def bk_X11_check_42 : List mI := [(.aload_n 0, 1, 0, 0, 0, []), (.getfield 35, 3, 11, 1, 362, []), (.aload_n 0, 1, 0, 0, 0, []), (.getfield 31, 3, 11, 0, 361, []), (.invokevirtual 224, 3, 68, 0, 689, []), (.iconst 0, 1, 0, 0, 0, [(0, 0)]), (.istore_n 3, 1, 0, 0, 0, [])]
theorem ck_X11_check_42 : mChk 120 42 bk_X11_check_42 = true := by decide +kernel
def bk_X11_check_55 : List mI := [(.iload_n 3, 1, 0, 0, 0, []), (.iload_n 2, 1, 0, 0, 0, []), (.if_icmp .ge 49, 3, 106, 0, 0, []), (.aload_n 0, 1, 0, 0, 0, []), (.getfield 35, 3, 11, 1, 362, []), (.iconst 1, 1, 0, 0, 0, [(1, 0)]), (.invokevirtual 215, 3, 69, 0, 653, []), (.aload_n 0, 1, 0, 0, 0, []), (.getfield 35, 3, 11, 1, 362, []), (.getfield 133, 3, 10, 1, 252, []), (.iload_n 1, 1, 0, 0, 0, []), (.invokevirtual 227, 3, 42, 0, 711, []), (.aload_n 0, 1, 0, 0, 0, []), (.getfield 10, 3, 11, 3, 364, []), (.getfield 319, 3, 1, 4, 158, []), (.getfield 322, 3, 4, 0, 140, []), (.iload_n 3, 1, 0, 0, 0, []), (.invokestatic 122, 3, 130, 0, 403, []), (.if_icmp .eq 7, 3, 100, 0, 0, []), (.iconst 1, 1, 0, 0, 0, [(1, 0)]), (.iload_n 3, 1, 0, 0, 0, []), (.iadd, 1, 0, 0, 0, []), (.ireturn, 1, 0, 0, 0, [])]
theorem ck_X11_check_55 : mChk 120 55 bk_X11_check_55 = true := by decide +kernel
def bk_X11_check_100 : List mI := [(.iinc 3 1, 3, 0, 0, 0, [(1, 0)]), (.goto (-48), 3, 55, 0, 0, [])]
theorem ck_X11_check_100 : mChk 120 100 bk_X11_check_100 = true := by decide +kernel
def bk_X11_check_106 : List mI := [(.iconst 0, 1, 0, 0, 0, [(0, 0)]), (.ireturn, 1, 0, 0, 0, [])]
theorem ck_X11_check_106 : mChk 120 106 bk_X11_check_106 = true := by decide +kernel
def c_X11_check_55 : Nat → Int32 → Int32 → Int32 → Sg → Option (Int32 × Sg)
  | 0, _, _, _, _ => none
  | n + 1, x1, x2, x3, σ => (if x2 ≤ x3 then (some ((0 : Int32), σ)) else ((f_X10_goBy 44 6 9 (1 : Int32) σ).bind fun q2 => ((f_X7_wellOf 50 x1 q2).bind fun q3 => ((f_X11_pick 15 20 x3 q2).bind fun q4 => (if q3 = q4 then (c_X11_check_55  n x1 x2 (x3 + (1 : Int32)) q2) else (some (((1 : Int32) + x3), q2)))))))
set_option maxHeartbeats 4000000 in
theorem okc_X11_check_55 {L : Nat} {R : Int32 × Sg} {n : Nat} {x1 : Int32} {x2 : Int32} {x3 : Int32} {σ : Sg} {pl : mLoc} (h : c_X11_check_55 n x1 x2 x3 σ = some R) (hl : mlf [some (.ref 0), some (.int x1), some (.int x2), some (.int x3)] pl) : mAt 6 120 (some (.int R.1), (mSh, L, R.2)) 55 pl [] (mSh, L, σ) 0 0 := by
  induction n generalizing x1 x2 x3 σ pl with
  | zero =>
    rw [c_X11_check_55.eq_1] at h
    cases h
  | succ n ih =>
    refine mAt.less hl ?_
    rw [c_X11_check_55.eq_2] at h
    refine mAt.blk bk_X11_check_55 ck_X11_check_55 ?_
    refine q_iload_n rfl ?_
    refine q_iload_n rfl ?_
    refine q_ic_ge (fun c1 => ?_) (fun c1 => ?_)
    · rw [if_pos c1] at h
      refine mAt.blk bk_X11_check_106 ck_X11_check_106 ?_
      refine q_iconst ?_
      have h := Option.some.inj h
      subst h
      exact q_iretI mcap_0 rfl rfl
    · rw [if_neg c1] at h
      refine q_aload_n rfl ?_
      refine q_getR ob_0 rfl rfl ?_
      refine q_iconst ?_
      obtain ⟨q2, e2, h⟩ := mbind h
      refine q_vV1 mcap_0 rfl rfl ob_44 rfl (by decide) (ok_X10_goBy p10_44 e2) ?_
      refine q_aload_n rfl ?_
      refine q_getR ob_0 rfl rfl ?_
      refine q_getR ob_44 rfl rfl ?_
      refine q_iload_n rfl ?_
      obtain ⟨q3, e3, h⟩ := mbind h
      refine q_vI1 mcap_0 rfl rfl ob_50 rfl (by decide) (ok_X7_wellOf p7_50 e3) ?_
      refine q_aload_n rfl ?_
      refine q_getR ob_0 rfl rfl ?_
      refine q_getR ob_1 rfl rfl ?_
      refine q_getR ob_14 rfl rfl ?_
      refine q_iload_n rfl ?_
      obtain ⟨q4, e4, h⟩ := mbind h
      refine q_sI2 mcap_0 rfl rfl rfl rfl (by decide) (ok_X11_pick (mrd ar_15) e4) ?_
      refine q_ic_eq (fun c5 => ?_) (fun c5 => ?_)
      · rw [if_pos c5] at h
        refine mAt.blk bk_X11_check_100 ck_X11_check_100 ?_
        refine q_iinc rfl rfl ?_
        refine q_goto ?_
        exact ih  h ⟨rfl, rfl, rfl, rfl, trivial⟩
      · rw [if_neg c5] at h
        refine q_iconst ?_
        refine q_iload_n rfl ?_
        refine q_iadd ?_
        have h := Option.some.inj h
        subst h
        exact q_iretI mcap_0 rfl rfl
def f_X11_check (p0 : Int32) (σ : Sg) : Option (Int32 × Sg) := ((f_X7_has 37 p0 (mup σ 14 1 (0 : Int32))).bind fun q6 => (if q6 = 0 then ((f_X11_error (1 : Int32) (mup σ 14 1 (0 : Int32))).bind fun q9 => (some (q9.1, q9.2))) else ((f_X10_copyFrom 44 6 9 31 6 9 (mup σ 14 1 (0 : Int32))).bind fun q8 => (c_X11_check_55   1000 p0 (σ 14 1) (0 : Int32) q8))))
set_option maxHeartbeats 4000000 in
theorem ok_X11_check {L : Nat} {p0 : Int32} {σ : Sg} {R : Int32 × Sg} (h : f_X11_check p0 σ = some R) : mEv 6 120 [.ref 0, .int p0] (mSh, L, σ) (some (.int R.1)) (mSh, L, R.2) := by
  refine mEv.of (by decide) rfl rfl ?_
  unfold f_X11_check at h
  refine mAt.blk bk_X11_check_0 ck_X11_check_0 ?_
  refine q_aload_n rfl ?_
  refine q_getR ob_0 rfl rfl ?_
  refine q_getR ob_1 rfl rfl ?_
  refine q_getI ob_14 rfl ?_
  refine q_istore_n rfl rfl ?_
  refine q_aload_n rfl ?_
  refine q_getR ob_0 rfl rfl ?_
  refine q_getR ob_1 rfl rfl ?_
  refine q_iconst ?_
  refine q_putI ob_14 rfl ?_
  refine q_aload_n rfl ?_
  refine q_getR ob_0 rfl rfl ?_
  refine q_getR ob_31 rfl rfl ?_
  refine q_iload_n rfl ?_
  obtain ⟨q6, e6, h⟩ := mbind h
  refine q_vI1 mcap_0 rfl rfl ob_37 rfl (by decide) (ok_X7_has p7_37 e6) ?_
  refine q_if_ne (fun c7 => ?_) (fun c7 => ?_)
  · rw [if_pos c7] at h
    refine q_aload_n rfl ?_
    refine q_iconst ?_
    obtain ⟨q9, e9, h⟩ := mbind h
    refine q_vI1 mcap_0 rfl rfl ob_0 rfl (by decide) (ok_X11_error  e9) ?_
    have h := Option.some.inj h
    subst h
    exact q_iretI mcap_0 rfl rfl
  · rw [if_neg c7] at h
    refine mAt.blk bk_X11_check_42 ck_X11_check_42 ?_
    refine q_aload_n rfl ?_
    refine q_getR ob_0 rfl rfl ?_
    refine q_aload_n rfl ?_
    refine q_getR ob_0 rfl rfl ?_
    obtain ⟨q8, e8, h⟩ := mbind h
    refine q_vV1 mcap_0 rfl rfl ob_44 rfl (by decide) (ok_X10_copyFrom p10_44 p10_31 e8) ?_
    refine q_iconst ?_
    refine q_istore_n rfl rfl ?_
    exact okc_X11_check_55  h ⟨rfl, rfl, rfl, rfl, trivial⟩
def bk_X11_count_0 : List mI := [(.iload_n 1, 1, 0, 0, 0, []), (.tableswitch 141 0 8 #[51, 59, 70, 81, 92, 103, 114, 125, 133], 51, 142, 0, 0, [(0, 52), (1, 60), (2, 71), (3, 82), (4, 93), (5, 104), (6, 115), (7, 126), (8, 134)])]
theorem ck_X11_count_0 : mChk 121 0 bk_X11_count_0 = true := by decide +kernel
def bk_X11_count_52 : List mI := [(.aload_n 0, 1, 0, 0, 0, []), (.getfield 31, 3, 11, 0, 361, []), (.getfield 212, 3, 10, 4, 256, []), (.ireturn, 1, 0, 0, 0, [])]
theorem ck_X11_count_52 : mChk 121 52 bk_X11_count_52 = true := by decide +kernel
def bk_X11_count_60 : List mI := [(.aload_n 0, 1, 0, 0, 0, []), (.getfield 31, 3, 11, 0, 361, []), (.getfield 79, 3, 10, 0, 250, []), (.getfield 83, 3, 9, 4, 194, []), (.ireturn, 1, 0, 0, 0, [])]
theorem ck_X11_count_60 : mChk 121 60 bk_X11_count_60 = true := by decide +kernel
def bk_X11_count_71 : List mI := [(.aload_n 0, 1, 0, 0, 0, []), (.getfield 31, 3, 11, 0, 361, []), (.getfield 133, 3, 10, 1, 252, []), (.getfield 156, 3, 7, 6, 233, []), (.ireturn, 1, 0, 0, 0, [])]
theorem ck_X11_count_71 : mChk 121 71 bk_X11_count_71 = true := by decide +kernel
def bk_X11_count_82 : List mI := [(.aload_n 0, 1, 0, 0, 0, []), (.getfield 31, 3, 11, 0, 361, []), (.getfield 133, 3, 10, 1, 252, []), (.invokevirtual 323, 3, 46, 0, 923, []), (.ireturn, 1, 0, 0, 0, [])]
theorem ck_X11_count_82 : mChk 121 82 bk_X11_count_82 = true := by decide +kernel
def bk_X11_count_93 : List mI := [(.aload_n 0, 1, 0, 0, 0, []), (.getfield 10, 3, 11, 3, 364, []), (.getfield 250, 3, 1, 0, 150, []), (.getfield 254, 3, 2, 3, 100, []), (.ireturn, 1, 0, 0, 0, [])]
theorem ck_X11_count_93 : mChk 121 93 bk_X11_count_93 = true := by decide +kernel
def bk_X11_count_104 : List mI := [(.aload_n 0, 1, 0, 0, 0, []), (.getfield 10, 3, 11, 3, 364, []), (.getfield 43, 3, 1, 3, 156, []), (.getfield 186, 3, 4, 1, 143, []), (.ireturn, 1, 0, 0, 0, [])]
theorem ck_X11_count_104 : mChk 121 104 bk_X11_count_104 = true := by decide +kernel
def bk_X11_count_115 : List mI := [(.aload_n 0, 1, 0, 0, 0, []), (.getfield 10, 3, 11, 3, 364, []), (.getfield 319, 3, 1, 4, 158, []), (.getfield 186, 3, 4, 1, 143, []), (.ireturn, 1, 0, 0, 0, [])]
theorem ck_X11_count_115 : mChk 121 115 bk_X11_count_115 = true := by decide +kernel
def bk_X11_count_126 : List mI := [(.aload_n 0, 1, 0, 0, 0, []), (.getfield 64, 3, 11, 7, 368, []), (.getfield 294, 3, 8, 1, 326, []), (.ireturn, 1, 0, 0, 0, [])]
theorem ck_X11_count_126 : mChk 121 126 bk_X11_count_126 = true := by decide +kernel
def bk_X11_count_134 : List mI := [(.aload_n 0, 1, 0, 0, 0, []), (.getfield 10, 3, 11, 3, 364, []), (.getfield 288, 3, 1, 5, 160, []), (.ireturn, 1, 0, 0, 0, [])]
theorem ck_X11_count_134 : mChk 121 134 bk_X11_count_134 = true := by decide +kernel
def bk_X11_count_142 : List mI := [(.aload_n 0, 1, 0, 0, 0, []), (.iconst 1, 1, 0, 0, 0, [(1, 0)]), (.invokevirtual 89, 3, 123, 0, 399, []), (.ireturn, 1, 0, 0, 0, [])]
theorem ck_X11_count_142 : mChk 121 142 bk_X11_count_142 = true := by decide +kernel
def f_X11_count (p0 : Int32) (σ : Sg) : Option (Int32 × Sg) := (if p0 = (0 : Int32) then (some ((σ 31 4), σ)) else (if p0 = (1 : Int32) then (some ((σ 32 4), σ)) else (if p0 = (2 : Int32) then (some ((σ 37 6), σ)) else (if p0 = (3 : Int32) then ((f_X7_howManyOut 37 σ).bind fun q1 => (some (q1, σ))) else (if p0 = (4 : Int32) then (some ((σ 2 3), σ)) else (if p0 = (5 : Int32) then (some ((σ 12 1), σ)) else (if p0 = (6 : Int32) then (some ((σ 14 1), σ)) else (if p0 = (7 : Int32) then (some ((σ 81 1), σ)) else (if p0 = (8 : Int32) then (some ((σ 1 5), σ)) else ((f_X11_error (1 : Int32) σ).bind fun q2 => (some (q2.1, q2.2))))))))))))
set_option maxHeartbeats 4000000 in
theorem ok_X11_count {L : Nat} {p0 : Int32} {σ : Sg} {R : Int32 × Sg} (h : f_X11_count p0 σ = some R) : mEv 2 121 [.ref 0, .int p0] (mSh, L, σ) (some (.int R.1)) (mSh, L, R.2) := by
  refine mEv.of (by decide) rfl rfl ?_
  unfold f_X11_count at h
  refine mAt.blk bk_X11_count_0 ck_X11_count_0 ?_
  refine q_iload_n rfl ?_
  refine q_tsw ?_
  refine ⟨fun c11 => ?_, fun c11 => ?_⟩
  · rw [if_pos c11] at h
    refine mAt.blk bk_X11_count_52 ck_X11_count_52 ?_
    refine q_aload_n rfl ?_
    refine q_getR ob_0 rfl rfl ?_
    refine q_getI ob_31 rfl ?_
    have h := Option.some.inj h
    subst h
    exact q_iretI mcap_0 rfl rfl
  · rw [if_neg c11] at h
    refine ⟨fun c10 => ?_, fun c10 => ?_⟩
    · rw [if_pos c10] at h
      refine mAt.blk bk_X11_count_60 ck_X11_count_60 ?_
      refine q_aload_n rfl ?_
      refine q_getR ob_0 rfl rfl ?_
      refine q_getR ob_31 rfl rfl ?_
      refine q_getI ob_32 rfl ?_
      have h := Option.some.inj h
      subst h
      exact q_iretI mcap_0 rfl rfl
    · rw [if_neg c10] at h
      refine ⟨fun c9 => ?_, fun c9 => ?_⟩
      · rw [if_pos c9] at h
        refine mAt.blk bk_X11_count_71 ck_X11_count_71 ?_
        refine q_aload_n rfl ?_
        refine q_getR ob_0 rfl rfl ?_
        refine q_getR ob_31 rfl rfl ?_
        refine q_getI ob_37 rfl ?_
        have h := Option.some.inj h
        subst h
        exact q_iretI mcap_0 rfl rfl
      · rw [if_neg c9] at h
        refine ⟨fun c8 => ?_, fun c8 => ?_⟩
        · rw [if_pos c8] at h
          refine mAt.blk bk_X11_count_82 ck_X11_count_82 ?_
          refine q_aload_n rfl ?_
          refine q_getR ob_0 rfl rfl ?_
          refine q_getR ob_31 rfl rfl ?_
          obtain ⟨q1, e1, h⟩ := mbind h
          refine q_vI0 mcap_0 rfl rfl ob_37 rfl (by decide) (ok_X7_howManyOut p7_37 e1) ?_
          have h := Option.some.inj h
          subst h
          exact q_iretI mcap_0 rfl rfl
        · rw [if_neg c8] at h
          refine ⟨fun c7 => ?_, fun c7 => ?_⟩
          · rw [if_pos c7] at h
            refine mAt.blk bk_X11_count_93 ck_X11_count_93 ?_
            refine q_aload_n rfl ?_
            refine q_getR ob_0 rfl rfl ?_
            refine q_getR ob_1 rfl rfl ?_
            refine q_getI ob_2 rfl ?_
            have h := Option.some.inj h
            subst h
            exact q_iretI mcap_0 rfl rfl
          · rw [if_neg c7] at h
            refine ⟨fun c6 => ?_, fun c6 => ?_⟩
            · rw [if_pos c6] at h
              refine mAt.blk bk_X11_count_104 ck_X11_count_104 ?_
              refine q_aload_n rfl ?_
              refine q_getR ob_0 rfl rfl ?_
              refine q_getR ob_1 rfl rfl ?_
              refine q_getI ob_12 rfl ?_
              have h := Option.some.inj h
              subst h
              exact q_iretI mcap_0 rfl rfl
            · rw [if_neg c6] at h
              refine ⟨fun c5 => ?_, fun c5 => ?_⟩
              · rw [if_pos c5] at h
                refine mAt.blk bk_X11_count_115 ck_X11_count_115 ?_
                refine q_aload_n rfl ?_
                refine q_getR ob_0 rfl rfl ?_
                refine q_getR ob_1 rfl rfl ?_
                refine q_getI ob_14 rfl ?_
                have h := Option.some.inj h
                subst h
                exact q_iretI mcap_0 rfl rfl
              · rw [if_neg c5] at h
                refine ⟨fun c4 => ?_, fun c4 => ?_⟩
                · rw [if_pos c4] at h
                  refine mAt.blk bk_X11_count_126 ck_X11_count_126 ?_
                  refine q_aload_n rfl ?_
                  refine q_getR ob_0 rfl rfl ?_
                  refine q_getI ob_81 rfl ?_
                  have h := Option.some.inj h
                  subst h
                  exact q_iretI mcap_0 rfl rfl
                · rw [if_neg c4] at h
                  refine ⟨fun c3 => ?_, fun c3 => ?_⟩
                  · rw [if_pos c3] at h
                    refine mAt.blk bk_X11_count_134 ck_X11_count_134 ?_
                    refine q_aload_n rfl ?_
                    refine q_getR ob_0 rfl rfl ?_
                    refine q_getI ob_1 rfl ?_
                    have h := Option.some.inj h
                    subst h
                    exact q_iretI mcap_0 rfl rfl
                  · rw [if_neg c3] at h
                    refine mAt.blk bk_X11_count_142 ck_X11_count_142 ?_
                    refine q_aload_n rfl ?_
                    refine q_iconst ?_
                    obtain ⟨q2, e2, h⟩ := mbind h
                    refine q_vI1 mcap_0 rfl rfl ob_0 rfl (by decide) (ok_X11_error  e2) ?_
                    have h := Option.some.inj h
                    subst h
                    exact q_iretI mcap_0 rfl rfl
def bk_X11_told_0 : List mI := [(.iload_n 1, 1, 0, 0, 0, []), (.iconst 1, 1, 0, 0, 0, [(1, 0)]), (.iconst 5, 1, 0, 0, 0, [(5, 0)]), (.invokestatic 112, 3, 125, 0, 445, []), (.ifCond .ne 9, 3, 15, 0, 0, []), (.aload_n 0, 1, 0, 0, 0, []), (.iconst 1, 1, 0, 0, 0, [(1, 0)]), (.invokevirtual 89, 3, 123, 0, 399, []), (.ireturn, 1, 0, 0, 0, [])]
theorem ck_X11_told_0 : mChk 122 0 bk_X11_told_0 = true := by decide +kernel
def bk_X11_told_15 : List mI := [(.aload_n 0, 1, 0, 0, 0, []), (.getfield 75, 3, 11, 9, 370, []), (.iload_n 1, 1, 0, 0, 0, []), (.invokestatic 122, 3, 130, 0, 403, []), (.ireturn, 1, 0, 0, 0, [])]
theorem ck_X11_told_15 : mChk 122 15 bk_X11_told_15 = true := by decide +kernel
def f_X11_told (p0 : Int32) (σ : Sg) : Option (Int32 × Sg) := ((f_X11_within p0 (1 : Int32) (5 : Int32) σ).bind fun q1 => (if q1 = 0 then ((f_X11_error (1 : Int32) σ).bind fun q4 => (some (q4.1, q4.2))) else ((f_X11_pick 92 6 p0 σ).bind fun q3 => (some (q3, σ)))))
set_option maxHeartbeats 4000000 in
theorem ok_X11_told {L : Nat} {p0 : Int32} {σ : Sg} {R : Int32 × Sg} (h : f_X11_told p0 σ = some R) : mEv 2 122 [.ref 0, .int p0] (mSh, L, σ) (some (.int R.1)) (mSh, L, R.2) := by
  refine mEv.of (by decide) rfl rfl ?_
  unfold f_X11_told at h
  refine mAt.blk bk_X11_told_0 ck_X11_told_0 ?_
  refine q_iload_n rfl ?_
  refine q_iconst ?_
  refine q_iconst ?_
  obtain ⟨q1, e1, h⟩ := mbind h
  refine q_sI3 mcap_0 rfl rfl rfl rfl (by decide) (ok_X11_within  e1) ?_
  refine q_if_ne (fun c2 => ?_) (fun c2 => ?_)
  · rw [if_pos c2] at h
    refine q_aload_n rfl ?_
    refine q_iconst ?_
    obtain ⟨q4, e4, h⟩ := mbind h
    refine q_vI1 mcap_0 rfl rfl ob_0 rfl (by decide) (ok_X11_error  e4) ?_
    have h := Option.some.inj h
    subst h
    exact q_iretI mcap_0 rfl rfl
  · rw [if_neg c2] at h
    refine mAt.blk bk_X11_told_15 ck_X11_told_15 ?_
    refine q_aload_n rfl ?_
    refine q_getR ob_0 rfl rfl ?_
    refine q_iload_n rfl ?_
    obtain ⟨q3, e3, h⟩ := mbind h
    refine q_sI2 mcap_0 rfl rfl rfl rfl (by decide) (ok_X11_pick (mrd ar_92) e3) ?_
    have h := Option.some.inj h
    subst h
    exact q_iretI mcap_0 rfl rfl
def bk_X12_finds_0 : List mI := [(.aload_n 0, 1, 0, 0, 0, []), (.getfield 19, 3, 12, 4, 941, []), (.iload_n 1, 1, 0, 0, 0, []), (.dup2, 1, 0, 0, 0, []), (.iaload, 1, 0, 0, 0, []), (.iconst 1, 1, 0, 0, 0, [(1, 0)]), (.iadd, 1, 0, 0, 0, []), (.iastore, 1, 0, 0, 0, []), (.ldc 47, 2, 0, 0, 1014, [((-1000000000), 0)]), (.iload_n 1, 1, 0, 0, 0, []), (.isub, 1, 0, 0, 0, []), (.ireturn, 1, 0, 0, 0, [])]
theorem ck_X12_finds_0 : mChk 134 0 bk_X12_finds_0 = true := by decide +kernel
def f_X12_finds (p0 : Int32) (σ : Sg) : Option (Int32 × Sg) := (if p0 < 0 ∨ 6 ≤ (p0).toNatClampNeg then none else (if p0 < 0 ∨ 6 ≤ (p0).toNatClampNeg then none else (some (((-1000000000 : Int32) - p0), (mup σ 97 (p0).toNatClampNeg ((σ 97 (p0).toNatClampNeg) + (1 : Int32)))))))
set_option maxHeartbeats 4000000 in
theorem ok_X12_finds {L : Nat} {p0 : Int32} {σ : Sg} {R : Int32 × Sg} (h : f_X12_finds p0 σ = some R) : mEv 0 134 [.ref 93, .int p0] (mSh, L, σ) (some (.int R.1)) (mSh, L, R.2) := by
  refine mEv.of (by decide) rfl rfl ?_
  unfold f_X12_finds at h
  refine mAt.blk bk_X12_finds_0 ck_X12_finds_0 ?_
  refine q_aload_n rfl ?_
  refine q_getR ob_93 rfl rfl ?_
  refine q_iload_n rfl ?_
  refine q_dup2 ?_
  obtain ⟨c1, h⟩ := mnone h
  refine q_iald (mrd ar_97 _ _) rfl c1 ?_
  refine q_iconst ?_
  refine q_iadd ?_
  obtain ⟨c2, h⟩ := mnone h
  refine q_iast rfl ar_97 c2 ?_
  refine q_ldc ?_
  refine q_iload_n rfl ?_
  refine q_isub ?_
  have h := Option.some.inj h
  subst h
  exact q_iretI mcap_0 rfl rfl
def bk_X12_isIn_0 : List mI := [(.lload_n 0, 1, 0, 0, 0, []), (.lload_n 2, 1, 0, 0, 0, []), (.lcmp, 1, 0, 0, 0, []), (.ifCond .lt 14, 3, 17, 0, 0, []), (.lload_n 0, 1, 0, 0, 0, []), (.lload 4, 2, 0, 0, 0, []), (.lcmp, 1, 0, 0, 0, []), (.ifCond .gt 7, 3, 17, 0, 0, []), (.iconst 1, 1, 0, 0, 0, [(1, 0)]), (.goto 4, 3, 18, 0, 0, [])]
theorem ck_X12_isIn_0 : mChk 135 0 bk_X12_isIn_0 = true := by decide +kernel
def bk_X12_isIn_17 : List mI := [(.iconst 0, 1, 0, 0, 0, [(0, 0)])]
theorem ck_X12_isIn_17 : mChk 135 17 bk_X12_isIn_17 = true := by decide +kernel
def bk_X12_isIn_18 : List mI := [(.ireturn, 1, 0, 0, 0, [])]
theorem ck_X12_isIn_18 : mChk 135 18 bk_X12_isIn_18 = true := by decide +kernel
def f_X12_isIn (p0 : Int64) (p1 : Int64) (p2 : Int64) (σ : Sg) : Option (Int32) := (if (lg_cmp p0 p1) < 0 then (some (0 : Int32)) else (if 0 < (lg_cmp p0 p2) then (some (0 : Int32)) else (some (1 : Int32))))
set_option maxHeartbeats 4000000 in
theorem ok_X12_isIn {L : Nat} {p0 : Int64} {p1 : Int64} {p2 : Int64} {σ : Sg} {R : Int32} (h : f_X12_isIn p0 p1 p2 σ = some R) : mEv 0 135 [.long p0, .long p1, .long p2] (mSh, L, σ) (some (.int R)) (mSh, L, σ) := by
  refine mEv.of (by decide) rfl rfl ?_
  unfold f_X12_isIn at h
  refine mAt.blk bk_X12_isIn_0 ck_X12_isIn_0 ?_
  refine q_lload_n rfl ?_
  refine q_lload_n rfl ?_
  refine q_lcmp ?_
  refine q_if_lt (fun c1 => ?_) (fun c1 => ?_)
  · rw [if_pos c1] at h
    refine mAt.blk bk_X12_isIn_17 ck_X12_isIn_17 ?_
    refine q_iconst ?_
    refine mAt.blk bk_X12_isIn_18 ck_X12_isIn_18 ?_
    have h := Option.some.inj h
    subst h
    exact q_iretZ mcap_0 rfl (by decide) rfl
  · rw [if_neg c1] at h
    refine q_lload_n rfl ?_
    refine q_lload rfl ?_
    refine q_lcmp ?_
    refine q_if_gt (fun c2 => ?_) (fun c2 => ?_)
    · rw [if_pos c2] at h
      refine mAt.blk bk_X12_isIn_17 ck_X12_isIn_17 ?_
      refine q_iconst ?_
      refine mAt.blk bk_X12_isIn_18 ck_X12_isIn_18 ?_
      have h := Option.some.inj h
      subst h
      exact q_iretZ mcap_0 rfl (by decide) rfl
    · rw [if_neg c2] at h
      refine q_iconst ?_
      refine q_goto ?_
      refine mAt.blk bk_X12_isIn_18 ck_X12_isIn_18 ?_
      have h := Option.some.inj h
      subst h
      exact q_iretZ mcap_0 rfl (by decide) rfl
def bk_X12_held_0 : List mI := [(.iload_n 0, 1, 0, 0, 0, []), (.iload_n 1, 1, 0, 0, 0, []), (.if_icmp .ge 7, 3, 9, 0, 0, []), (.iload_n 1, 1, 0, 0, 0, []), (.goto 13, 3, 19, 0, 0, [])]
theorem ck_X12_held_0 : mChk 136 0 bk_X12_held_0 = true := by decide +kernel
def bk_X12_held_9 : List mI := [(.iload_n 0, 1, 0, 0, 0, []), (.iload_n 2, 1, 0, 0, 0, []), (.if_icmp .le 7, 3, 18, 0, 0, []), (.iload_n 2, 1, 0, 0, 0, []), (.goto 4, 3, 19, 0, 0, [])]
theorem ck_X12_held_9 : mChk 136 9 bk_X12_held_9 = true := by decide +kernel
def bk_X12_held_18 : List mI := [(.iload_n 0, 1, 0, 0, 0, [])]
theorem ck_X12_held_18 : mChk 136 18 bk_X12_held_18 = true := by decide +kernel
def bk_X12_held_19 : List mI := [(.ireturn, 1, 0, 0, 0, [])]
theorem ck_X12_held_19 : mChk 136 19 bk_X12_held_19 = true := by decide +kernel
def f_X12_held (p0 : Int32) (p1 : Int32) (p2 : Int32) (σ : Sg) : Option (Int32) := (if p1 ≤ p0 then (if p0 ≤ p2 then (some p0) else (some p2)) else (some p1))
set_option maxHeartbeats 4000000 in
theorem ok_X12_held {L : Nat} {p0 : Int32} {p1 : Int32} {p2 : Int32} {σ : Sg} {R : Int32} (h : f_X12_held p0 p1 p2 σ = some R) : mEv 0 136 [.int p0, .int p1, .int p2] (mSh, L, σ) (some (.int R)) (mSh, L, σ) := by
  refine mEv.of (by decide) rfl rfl ?_
  unfold f_X12_held at h
  refine mAt.blk bk_X12_held_0 ck_X12_held_0 ?_
  refine q_iload_n rfl ?_
  refine q_iload_n rfl ?_
  refine q_ic_ge (fun c1 => ?_) (fun c1 => ?_)
  · rw [if_pos c1] at h
    refine mAt.blk bk_X12_held_9 ck_X12_held_9 ?_
    refine q_iload_n rfl ?_
    refine q_iload_n rfl ?_
    refine q_ic_le (fun c2 => ?_) (fun c2 => ?_)
    · rw [if_pos c2] at h
      refine mAt.blk bk_X12_held_18 ck_X12_held_18 ?_
      refine q_iload_n rfl ?_
      refine mAt.blk bk_X12_held_19 ck_X12_held_19 ?_
      have h := Option.some.inj h
      subst h
      exact q_iretI mcap_0 rfl rfl
    · rw [if_neg c2] at h
      refine q_iload_n rfl ?_
      refine q_goto ?_
      refine mAt.blk bk_X12_held_19 ck_X12_held_19 ?_
      have h := Option.some.inj h
      subst h
      exact q_iretI mcap_0 rfl rfl
  · rw [if_neg c1] at h
    refine q_iload_n rfl ?_
    refine q_goto ?_
    refine mAt.blk bk_X12_held_19 ck_X12_held_19 ?_
    have h := Option.some.inj h
    subst h
    exact q_iretI mcap_0 rfl rfl
def bk_X12_copies_0 : List mI := [(.iconst 0, 1, 0, 0, 0, [(0, 0)]), (.istore_n 2, 1, 0, 0, 0, [])]
theorem ck_X12_copies_0 : mChk 137 0 bk_X12_copies_0 = true := by decide +kernel
def bk_X12_copies_2 : List mI := [(.iload_n 2, 1, 0, 0, 0, []), (.sipush 320, 3, 0, 0, 0, [(320, 0)]), (.if_icmp .ge 15, 3, 21, 0, 0, []), (.aload_n 1, 1, 0, 0, 0, []), (.iload_n 2, 1, 0, 0, 0, []), (.aload_n 0, 1, 0, 0, 0, []), (.iload_n 2, 1, 0, 0, 0, []), (.iaload, 1, 0, 0, 0, []), (.iastore, 1, 0, 0, 0, []), (.iinc 2 1, 3, 0, 0, 0, [(1, 0)]), (.goto (-16), 3, 2, 0, 0, [])]
theorem ck_X12_copies_2 : mChk 137 2 bk_X12_copies_2 = true := by decide +kernel
def bk_X12_copies_21 : List mI := [(.return_, 1, 0, 0, 0, [])]
theorem ck_X12_copies_21 : mChk 137 21 bk_X12_copies_21 = true := by decide +kernel
def c_X12_copies_2 (r0 r1 : Nat) : Nat → Int32 → Sg → Option (Sg)
  | 0, _, _ => none
  | n + 1, x2, σ => (if (320 : Int32) ≤ x2 then (some σ) else (if x2 < 0 ∨ 320 ≤ (x2).toNatClampNeg then none else (if x2 < 0 ∨ 320 ≤ (x2).toNatClampNeg then none else (c_X12_copies_2 r0 r1 n (x2 + (1 : Int32)) (mup σ r1 (x2).toNatClampNeg (σ r0 (x2).toNatClampNeg))))))
set_option maxHeartbeats 4000000 in
theorem okc_X12_copies_2 {L : Nat} {r0 r1 : Nat} {R : Sg} (hr0 : mnth mSh r0 = some (1, 320, [])) (hr1 : mnth mSh r1 = some (1, 320, [])) {n : Nat} {x2 : Int32} {σ : Sg} {pl : mLoc} (h : c_X12_copies_2 r0 r1 n x2 σ = some R) (hl : mlf [some (.ref r0), some (.ref r1), some (.int x2)] pl) : mAt 0 137 (none, (mSh, L, R)) 2 pl [] (mSh, L, σ) 0 0 := by
  induction n generalizing x2 σ pl with
  | zero =>
    rw [c_X12_copies_2.eq_1] at h
    cases h
  | succ n ih =>
    refine mAt.less hl ?_
    rw [c_X12_copies_2.eq_2] at h
    refine mAt.blk bk_X12_copies_2 ck_X12_copies_2 ?_
    refine q_iload_n rfl ?_
    refine q_sipush ?_
    refine q_ic_ge (fun c1 => ?_) (fun c1 => ?_)
    · rw [if_pos c1] at h
      refine mAt.blk bk_X12_copies_21 ck_X12_copies_21 ?_
      have h := Option.some.inj h
      subst h
      exact q_vret mcap_0 rfl rfl
    · rw [if_neg c1] at h
      refine q_aload_n rfl ?_
      refine q_iload_n rfl ?_
      refine q_aload_n rfl ?_
      refine q_iload_n rfl ?_
      obtain ⟨c2, h⟩ := mnone h
      refine q_iald (mrd hr0 _ _) rfl c2 ?_
      obtain ⟨c3, h⟩ := mnone h
      refine q_iast rfl hr1 c3 ?_
      refine q_iinc rfl rfl ?_
      refine q_goto ?_
      exact ih  h ⟨rfl, rfl, rfl, trivial⟩
def f_X12_copies (r0 r1 : Nat) (σ : Sg) : Option (Sg) := (c_X12_copies_2  r0 r1 1000 (0 : Int32) σ)
set_option maxHeartbeats 4000000 in
theorem ok_X12_copies {L : Nat} {r0 r1 : Nat} {σ : Sg} {R : Sg} (hr0 : mnth mSh r0 = some (1, 320, [])) (hr1 : mnth mSh r1 = some (1, 320, [])) (h : f_X12_copies r0 r1 σ = some R) : mEv 0 137 [.ref r0, .ref r1] (mSh, L, σ) none (mSh, L, R) := by
  refine mEv.of (by decide) rfl rfl ?_
  unfold f_X12_copies at h
  refine mAt.blk bk_X12_copies_0 ck_X12_copies_0 ?_
  refine q_iconst ?_
  refine q_istore_n rfl rfl ?_
  exact okc_X12_copies_2 hr0 hr1 h ⟨rfl, rfl, rfl, trivial⟩
def bk_X12_isWell_0 : List mI := [(.iload_n 1, 1, 0, 0, 0, []), (.i2l, 1, 0, 0, 0, []), (.lconst 0, 1, 0, 0, 0, [(0, 0)]), (.aload_n 0, 1, 0, 0, 0, []), (.getfield 7, 3, 12, 0, 937, []), (.iconst 1, 1, 0, 0, 0, [(1, 0)]), (.iaload, 1, 0, 0, 0, []), (.iconst 1, 1, 0, 0, 0, [(1, 0)]), (.isub, 1, 0, 0, 0, []), (.i2l, 1, 0, 0, 0, []), (.invokestatic 48, 3, 135, 0, 1007, []), (.ireturn, 1, 0, 0, 0, [])]
theorem ck_X12_isWell_0 : mChk 138 0 bk_X12_isWell_0 = true := by decide +kernel
def f_X12_isWell (p0 : Int32) (σ : Sg) : Option (Int32) := ((f_X12_isIn (p0).toInt64 (0 : Int32).toInt64 (((σ 94 1) - (1 : Int32))).toInt64 σ).bind fun q2 => (if q2 = 0 ∨ q2 = 1 then some q2 else none))
set_option maxHeartbeats 4000000 in
theorem ok_X12_isWell {L : Nat} {p0 : Int32} {σ : Sg} {R : Int32} (h : f_X12_isWell p0 σ = some R) : mEv 1 138 [.ref 93, .int p0] (mSh, L, σ) (some (.int R)) (mSh, L, σ) := by
  refine mEv.of (by decide) rfl rfl ?_
  unfold f_X12_isWell at h
  refine mAt.blk bk_X12_isWell_0 ck_X12_isWell_0 ?_
  refine q_iload_n rfl ?_
  refine q_i2l ?_
  refine q_lconst ?_
  refine q_aload_n rfl ?_
  refine q_getR ob_93 rfl rfl ?_
  refine q_iconst ?_
  refine q_iald (j := 1) (mrd ar_94 _ _) (by decide) (by decide) ?_
  refine q_iconst ?_
  refine q_isub ?_
  refine q_i2l ?_
  obtain ⟨q2, e2, h⟩ := mbind h
  refine q_sI3 mcap_0 rfl rfl rfl rfl (by decide) (ok_X12_isIn  e2) ?_
  obtain ⟨c3, h⟩ := msome h
  have h := Option.some.inj h
  subst h
  exact q_iretZ mcap_0 rfl c3 rfl
def bk_X12_isThing_0 : List mI := [(.iload_n 1, 1, 0, 0, 0, []), (.i2l, 1, 0, 0, 0, []), (.lconst 0, 1, 0, 0, 0, [(0, 0)]), (.aload_n 0, 1, 0, 0, 0, []), (.getfield 7, 3, 12, 0, 937, []), (.iconst 2, 1, 0, 0, 0, [(2, 0)]), (.iaload, 1, 0, 0, 0, []), (.iconst 1, 1, 0, 0, 0, [(1, 0)]), (.isub, 1, 0, 0, 0, []), (.i2l, 1, 0, 0, 0, []), (.invokestatic 48, 3, 135, 0, 1007, []), (.ireturn, 1, 0, 0, 0, [])]
theorem ck_X12_isThing_0 : mChk 139 0 bk_X12_isThing_0 = true := by decide +kernel
def f_X12_isThing (p0 : Int32) (σ : Sg) : Option (Int32) := ((f_X12_isIn (p0).toInt64 (0 : Int32).toInt64 (((σ 94 2) - (1 : Int32))).toInt64 σ).bind fun q2 => (if q2 = 0 ∨ q2 = 1 then some q2 else none))
set_option maxHeartbeats 4000000 in
theorem ok_X12_isThing {L : Nat} {p0 : Int32} {σ : Sg} {R : Int32} (h : f_X12_isThing p0 σ = some R) : mEv 1 139 [.ref 93, .int p0] (mSh, L, σ) (some (.int R)) (mSh, L, σ) := by
  refine mEv.of (by decide) rfl rfl ?_
  unfold f_X12_isThing at h
  refine mAt.blk bk_X12_isThing_0 ck_X12_isThing_0 ?_
  refine q_iload_n rfl ?_
  refine q_i2l ?_
  refine q_lconst ?_
  refine q_aload_n rfl ?_
  refine q_getR ob_93 rfl rfl ?_
  refine q_iconst ?_
  refine q_iald (j := 2) (mrd ar_94 _ _) (by decide) (by decide) ?_
  refine q_iconst ?_
  refine q_isub ?_
  refine q_i2l ?_
  obtain ⟨q2, e2, h⟩ := mbind h
  refine q_sI3 mcap_0 rfl rfl rfl rfl (by decide) (ok_X12_isIn  e2) ?_
  obtain ⟨c3, h⟩ := msome h
  have h := Option.some.inj h
  subst h
  exact q_iretZ mcap_0 rfl c3 rfl
def bk_X12_aWell_0 : List mI := [(.aload_n 0, 1, 0, 0, 0, []), (.bipush 10, 2, 0, 0, 0, [(10, 0)]), (.iconst 4, 1, 0, 0, 0, [(4, 0)]), (.iload_n 1, 1, 0, 0, 0, []), (.imul, 1, 0, 0, 0, []), (.iadd, 1, 0, 0, 0, []), (.iload_n 2, 1, 0, 0, 0, []), (.iadd, 1, 0, 0, 0, []), (.iaload, 1, 0, 0, 0, []), (.ireturn, 1, 0, 0, 0, [])]
theorem ck_X12_aWell_0 : mChk 140 0 bk_X12_aWell_0 = true := by decide +kernel
def f_X12_aWell (r0 : Nat) (p1 : Int32) (p2 : Int32) (σ : Sg) : Option (Int32) := (if (((10 : Int32) + ((4 : Int32) * p1)) + p2) < 0 ∨ 320 ≤ ((((10 : Int32) + ((4 : Int32) * p1)) + p2)).toNatClampNeg then none else (some (σ r0 ((((10 : Int32) + ((4 : Int32) * p1)) + p2)).toNatClampNeg)))
set_option maxHeartbeats 4000000 in
theorem ok_X12_aWell {L : Nat} {r0 : Nat} {p1 : Int32} {p2 : Int32} {σ : Sg} {R : Int32} (hr0 : mnth mSh r0 = some (1, 320, [])) (h : f_X12_aWell r0 p1 p2 σ = some R) : mEv 0 140 [.ref r0, .int p1, .int p2] (mSh, L, σ) (some (.int R)) (mSh, L, σ) := by
  refine mEv.of (by decide) rfl rfl ?_
  unfold f_X12_aWell at h
  refine mAt.blk bk_X12_aWell_0 ck_X12_aWell_0 ?_
  refine q_aload_n rfl ?_
  refine q_bipush ?_
  refine q_iconst ?_
  refine q_iload_n rfl ?_
  refine q_imul ?_
  refine q_iadd ?_
  refine q_iload_n rfl ?_
  refine q_iadd ?_
  obtain ⟨c1, h⟩ := mnone h
  refine q_iald (mrd hr0 _ _) rfl c1 ?_
  have h := Option.some.inj h
  subst h
  exact q_iretI mcap_0 rfl rfl
def bk_X12_aThing_0 : List mI := [(.aload_n 0, 1, 0, 0, 0, []), (.bipush 46, 2, 0, 0, 0, [(46, 0)]), (.bipush 6, 2, 0, 0, 0, [(6, 0)]), (.iload_n 1, 1, 0, 0, 0, []), (.imul, 1, 0, 0, 0, []), (.iadd, 1, 0, 0, 0, []), (.iload_n 2, 1, 0, 0, 0, []), (.iadd, 1, 0, 0, 0, []), (.iaload, 1, 0, 0, 0, []), (.ireturn, 1, 0, 0, 0, [])]
theorem ck_X12_aThing_0 : mChk 141 0 bk_X12_aThing_0 = true := by decide +kernel
def f_X12_aThing (r0 : Nat) (p1 : Int32) (p2 : Int32) (σ : Sg) : Option (Int32) := (if (((46 : Int32) + ((6 : Int32) * p1)) + p2) < 0 ∨ 320 ≤ ((((46 : Int32) + ((6 : Int32) * p1)) + p2)).toNatClampNeg then none else (some (σ r0 ((((46 : Int32) + ((6 : Int32) * p1)) + p2)).toNatClampNeg)))
set_option maxHeartbeats 4000000 in
theorem ok_X12_aThing {L : Nat} {r0 : Nat} {p1 : Int32} {p2 : Int32} {σ : Sg} {R : Int32} (hr0 : mnth mSh r0 = some (1, 320, [])) (h : f_X12_aThing r0 p1 p2 σ = some R) : mEv 0 141 [.ref r0, .int p1, .int p2] (mSh, L, σ) (some (.int R)) (mSh, L, σ) := by
  refine mEv.of (by decide) rfl rfl ?_
  unfold f_X12_aThing at h
  refine mAt.blk bk_X12_aThing_0 ck_X12_aThing_0 ?_
  refine q_aload_n rfl ?_
  refine q_bipush ?_
  refine q_bipush ?_
  refine q_iload_n rfl ?_
  refine q_imul ?_
  refine q_iadd ?_
  refine q_iload_n rfl ?_
  refine q_iadd ?_
  obtain ⟨c1, h⟩ := mnone h
  refine q_iald (mrd hr0 _ _) rfl c1 ?_
  have h := Option.some.inj h
  subst h
  exact q_iretI mcap_0 rfl rfl
def bk_X12_here_0 : List mI := [(.aload_n 0, 1, 0, 0, 0, []), (.getfield 52, 3, 12, 6, 943, []), (.aload_n 0, 1, 0, 0, 0, []), (.getfield 56, 3, 12, 7, 944, []), (.if_icmp .ge 27, 3, 35, 0, 0, []), (.aload_n 0, 1, 0, 0, 0, []), (.getfield 59, 3, 12, 8, 945, []), (.ifCond .ge 20, 3, 35, 0, 0, []), (.aload_n 0, 1, 0, 0, 0, []), (.getfield 7, 3, 12, 0, 937, []), (.aload_n 0, 1, 0, 0, 0, []), (.getfield 62, 3, 12, 5, 942, []), (.aload_n 0, 1, 0, 0, 0, []), (.getfield 52, 3, 12, 6, 943, []), (.iadd, 1, 0, 0, 0, []), (.iaload, 1, 0, 0, 0, []), (.goto 4, 3, 36, 0, 0, [])]
theorem ck_X12_here_0 : mChk 142 0 bk_X12_here_0 = true := by decide +kernel
def bk_X12_here_35 : List mI := [(.iconst (-1), 1, 0, 0, 0, [((-1), 0)])]
theorem ck_X12_here_35 : mChk 142 35 bk_X12_here_35 = true := by decide +kernel
def bk_X12_here_36 : List mI := [(.ireturn, 1, 0, 0, 0, [])]
theorem ck_X12_here_36 : mChk 142 36 bk_X12_here_36 = true := by decide +kernel
def f_X12_here (σ : Sg) : Option (Int32) := (if (σ 93 7) ≤ (σ 93 6) then (some (-1 : Int32)) else (if 0 ≤ (σ 93 8) then (some (-1 : Int32)) else (if ((σ 93 5) + (σ 93 6)) < 0 ∨ 320 ≤ (((σ 93 5) + (σ 93 6))).toNatClampNeg then none else (some (σ 94 (((σ 93 5) + (σ 93 6))).toNatClampNeg)))))
set_option maxHeartbeats 4000000 in
theorem ok_X12_here {L : Nat} {σ : Sg} {R : Int32} (h : f_X12_here σ = some R) : mEv 0 142 [.ref 93] (mSh, L, σ) (some (.int R)) (mSh, L, σ) := by
  refine mEv.of (by decide) rfl rfl ?_
  unfold f_X12_here at h
  refine mAt.blk bk_X12_here_0 ck_X12_here_0 ?_
  refine q_aload_n rfl ?_
  refine q_getI ob_93 rfl ?_
  refine q_aload_n rfl ?_
  refine q_getI ob_93 rfl ?_
  refine q_ic_ge (fun c1 => ?_) (fun c1 => ?_)
  · rw [if_pos c1] at h
    refine mAt.blk bk_X12_here_35 ck_X12_here_35 ?_
    refine q_iconst ?_
    refine mAt.blk bk_X12_here_36 ck_X12_here_36 ?_
    have h := Option.some.inj h
    subst h
    exact q_iretI mcap_0 rfl rfl
  · rw [if_neg c1] at h
    refine q_aload_n rfl ?_
    refine q_getI ob_93 rfl ?_
    refine q_if_ge (fun c2 => ?_) (fun c2 => ?_)
    · rw [if_pos c2] at h
      refine mAt.blk bk_X12_here_35 ck_X12_here_35 ?_
      refine q_iconst ?_
      refine mAt.blk bk_X12_here_36 ck_X12_here_36 ?_
      have h := Option.some.inj h
      subst h
      exact q_iretI mcap_0 rfl rfl
    · rw [if_neg c2] at h
      refine q_aload_n rfl ?_
      refine q_getR ob_93 rfl rfl ?_
      refine q_aload_n rfl ?_
      refine q_getI ob_93 rfl ?_
      refine q_aload_n rfl ?_
      refine q_getI ob_93 rfl ?_
      refine q_iadd ?_
      obtain ⟨c3, h⟩ := mnone h
      refine q_iald (mrd ar_94 _ _) rfl c3 ?_
      refine q_goto ?_
      refine mAt.blk bk_X12_here_36 ck_X12_here_36 ?_
      have h := Option.some.inj h
      subst h
      exact q_iretI mcap_0 rfl rfl
def bk_X12_wrong_0 : List mI := [(.aload_n 0, 1, 0, 0, 0, []), (.aload_n 0, 1, 0, 0, 0, []), (.getfield 59, 3, 12, 8, 945, []), (.ifCond .ge 10, 3, 15, 0, 0, []), (.aload_n 0, 1, 0, 0, 0, []), (.getfield 52, 3, 12, 6, 943, []), (.goto 7, 3, 19, 0, 0, [])]
theorem ck_X12_wrong_0 : mChk 143 0 bk_X12_wrong_0 = true := by decide +kernel
def bk_X12_wrong_15 : List mI := [(.aload_n 0, 1, 0, 0, 0, []), (.getfield 59, 3, 12, 8, 945, [])]
theorem ck_X12_wrong_15 : mChk 143 15 bk_X12_wrong_15 = true := by decide +kernel
def bk_X12_wrong_19 : List mI := [(.putfield 59, 3, 12, 8, 945, []), (.iconst 0, 1, 0, 0, 0, [(0, 0)]), (.ireturn, 1, 0, 0, 0, [])]
theorem ck_X12_wrong_19 : mChk 143 19 bk_X12_wrong_19 = true := by decide +kernel
def f_X12_wrong (σ : Sg) : Option (Int32 × Sg) := (if 0 ≤ (σ 93 8) then (some ((0 : Int32), (mup σ 93 8 (σ 93 8)))) else (some ((0 : Int32), (mup σ 93 8 (σ 93 6)))))
set_option maxHeartbeats 4000000 in
theorem ok_X12_wrong {L : Nat} {σ : Sg} {R : Int32 × Sg} (h : f_X12_wrong σ = some R) : mEv 0 143 [.ref 93] (mSh, L, σ) (some (.int R.1)) (mSh, L, R.2) := by
  refine mEv.of (by decide) rfl rfl ?_
  unfold f_X12_wrong at h
  refine mAt.blk bk_X12_wrong_0 ck_X12_wrong_0 ?_
  refine q_aload_n rfl ?_
  refine q_aload_n rfl ?_
  refine q_getI ob_93 rfl ?_
  refine q_if_ge (fun c1 => ?_) (fun c1 => ?_)
  · rw [if_pos c1] at h
    refine mAt.blk bk_X12_wrong_15 ck_X12_wrong_15 ?_
    refine q_aload_n rfl ?_
    refine q_getI ob_93 rfl ?_
    refine mAt.blk bk_X12_wrong_19 ck_X12_wrong_19 ?_
    refine q_putI ob_93 rfl ?_
    refine q_iconst ?_
    have h := Option.some.inj h
    subst h
    exact q_iretI mcap_0 rfl rfl
  · rw [if_neg c1] at h
    refine q_aload_n rfl ?_
    refine q_getI ob_93 rfl ?_
    refine q_goto ?_
    refine mAt.blk bk_X12_wrong_19 ck_X12_wrong_19 ?_
    refine q_putI ob_93 rfl ?_
    refine q_iconst ?_
    have h := Option.some.inj h
    subst h
    exact q_iretI mcap_0 rfl rfl
def bk_X12_takes_0 : List mI := [(.aload_n 0, 1, 0, 0, 0, []), (.invokevirtual 65, 3, 142, 0, 1048, []), (.iload_n 1, 1, 0, 0, 0, []), (.if_icmp .eq 5, 3, 10, 0, 0, []), (.iconst 0, 1, 0, 0, 0, [(0, 0)]), (.ireturn, 1, 0, 0, 0, [])]
theorem ck_X12_takes_0 : mChk 144 0 bk_X12_takes_0 = true := by decide +kernel
def bk_X12_takes_10 : List mI := [(.aload_n 0, 1, 0, 0, 0, []), (.dup, 1, 0, 0, 0, []), (.getfield 52, 3, 12, 6, 943, []), (.iconst 1, 1, 0, 0, 0, [(1, 0)]), (.iadd, 1, 0, 0, 0, []), (.putfield 52, 3, 12, 6, 943, []), (.iconst 1, 1, 0, 0, 0, [(1, 0)]), (.ireturn, 1, 0, 0, 0, [])]
theorem ck_X12_takes_10 : mChk 144 10 bk_X12_takes_10 = true := by decide +kernel
def f_X12_takes (p0 : Int32) (σ : Sg) : Option (Int32 × Sg) := ((f_X12_here  σ).bind fun q1 => (if q1 = p0 then (some ((1 : Int32), (mup σ 93 6 ((σ 93 6) + (1 : Int32))))) else (some ((0 : Int32), σ))))
set_option maxHeartbeats 4000000 in
theorem ok_X12_takes {L : Nat} {p0 : Int32} {σ : Sg} {R : Int32 × Sg} (h : f_X12_takes p0 σ = some R) : mEv 1 144 [.ref 93, .int p0] (mSh, L, σ) (some (.int R.1)) (mSh, L, R.2) := by
  refine mEv.of (by decide) rfl rfl ?_
  unfold f_X12_takes at h
  refine mAt.blk bk_X12_takes_0 ck_X12_takes_0 ?_
  refine q_aload_n rfl ?_
  obtain ⟨q1, e1, h⟩ := mbind h
  refine q_vI0 mcap_0 rfl rfl ob_93 rfl (by decide) (ok_X12_here  e1) ?_
  refine q_iload_n rfl ?_
  refine q_ic_eq (fun c2 => ?_) (fun c2 => ?_)
  · rw [if_pos c2] at h
    refine mAt.blk bk_X12_takes_10 ck_X12_takes_10 ?_
    refine q_aload_n rfl ?_
    refine q_dupR ?_
    refine q_getI ob_93 rfl ?_
    refine q_iconst ?_
    refine q_iadd ?_
    refine q_putI ob_93 rfl ?_
    refine q_iconst ?_
    have h := Option.some.inj h
    subst h
    exact q_iretZ mcap_0 rfl (by decide) rfl
  · rw [if_neg c2] at h
    refine q_iconst ?_
    have h := Option.some.inj h
    subst h
    exact q_iretZ mcap_0 rfl (by decide) rfl
