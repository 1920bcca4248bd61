def bk_X12_waitsFor_0 : List mI := [(.iload_n 1, 1, 0, 0, 0, []), (.lookupswitch 70 #[(0, 27), (3, 53)], 27, 71, 0, 0, [(0, 28), (3, 54)])]
theorem ck_X12_waitsFor_0 : mChk 213 0 bk_X12_waitsFor_0 = true := by decide +kernel
def bk_X12_waitsFor_28 : List mI := [(.aload_n 0, 1, 0, 0, 0, []), (.bipush 12, 2, 0, 0, 0, [(12, 0)]), (.invokevirtual 259, 3, 209, 0, 1318, []), (.iload_n 2, 1, 0, 0, 0, []), (.aload_n 0, 1, 0, 0, 0, []), (.getfield 7, 3, 12, 0, 937, []), (.bipush 46, 2, 0, 0, 0, [(46, 0)]), (.bipush 6, 2, 0, 0, 0, [(6, 0)]), (.aload_n 0, 1, 0, 0, 0, []), (.getfield 262, 3, 12, 16, 953, []), (.imul, 1, 0, 0, 0, []), (.iadd, 1, 0, 0, 0, []), (.iconst 1, 1, 0, 0, 0, [(1, 0)]), (.iadd, 1, 0, 0, 0, []), (.iaload, 1, 0, 0, 0, []), (.isub, 1, 0, 0, 0, []), (.ireturn, 1, 0, 0, 0, [])]
theorem ck_X12_waitsFor_28 : mChk 213 28 bk_X12_waitsFor_28 = true := by decide +kernel
def bk_X12_waitsFor_54 : List mI := [(.aload_n 0, 1, 0, 0, 0, []), (.bipush 40, 2, 0, 0, 0, [(40, 0)]), (.invokevirtual 259, 3, 209, 0, 1318, []), (.aload_n 0, 1, 0, 0, 0, []), (.iconst 3, 1, 0, 0, 0, [(3, 0)]), (.invokestatic 265, 3, 210, 0, 1322, []), (.iload_n 2, 1, 0, 0, 0, []), (.invokevirtual 274, 3, 213, 0, 1329, []), (.ineg, 1, 0, 0, 0, []), (.ireturn, 1, 0, 0, 0, [])]
theorem ck_X12_waitsFor_54 : mChk 213 54 bk_X12_waitsFor_54 = true := by decide +kernel
def bk_X12_waitsFor_71 : List mI := [(.aload_n 0, 1, 0, 0, 0, []), (.iload_n 1, 1, 0, 0, 0, []), (.invokestatic 265, 3, 210, 0, 1322, []), (.iload_n 2, 1, 0, 0, 0, []), (.invokevirtual 274, 3, 213, 0, 1329, []), (.ireturn, 1, 0, 0, 0, [])]
theorem ck_X12_waitsFor_71 : mChk 213 71 bk_X12_waitsFor_71 = true := by decide +kernel
def b_X12_waitsFor (g_X12_waitsFor : Int32 → Int32 → Sg → Option (Int32 × Sg)) (p0 : Int32) (p1 : Int32) (σ : Sg) : Option (Int32 × Sg) := (if p0 = (0 : Int32) then ((f_X12_ran (12 : Int32) σ).bind fun q1 => (if (((46 : Int32) + ((6 : Int32) * (q1 93 16))) + (1 : Int32)) < 0 ∨ 320 ≤ ((((46 : Int32) + ((6 : Int32) * (q1 93 16))) + (1 : Int32))).toNatClampNeg then none else (some ((p1 - (q1 94 ((((46 : Int32) + ((6 : Int32) * (q1 93 16))) + (1 : Int32))).toNatClampNeg)), q1)))) else (if p0 = (3 : Int32) then ((f_X12_ran (40 : Int32) σ).bind fun q3 => ((f_X12_above (3 : Int32) q3).bind fun q4 => ((g_X12_waitsFor q4 p1 q3).bind fun q5 => (some ((-q5.1), q5.2))))) else ((f_X12_above p0 σ).bind fun q6 => ((g_X12_waitsFor q6 p1 σ).bind fun q7 => (some (q7.1, q7.2))))))
set_option maxHeartbeats 4000000 in
theorem okb_X12_waitsFor {L : Nat} {g_X12_waitsFor : Int32 → Int32 → Sg → Option (Int32 × Sg)} {dd : Nat} {p0 : Int32} {p1 : Int32} {σ : Sg} {R : Int32 × Sg} (G_X12_waitsFor : ∀ (p0 : Int32) (p1 : Int32) (σ : Sg) (R : Int32 × Sg), g_X12_waitsFor p0 p1 σ = some R → mEv dd 213 [.ref 93, .int p0, .int p1] (mSh, L, σ) (some (.int R.1)) (mSh, L, R.2)) (hdd : 1 ≤ dd) (h : b_X12_waitsFor g_X12_waitsFor p0 p1 σ = some R) : mEv (dd + 1) 213 [.ref 93, .int p0, .int p1] (mSh, L, σ) (some (.int R.1)) (mSh, L, R.2) := by
  refine mEv.of (by decide) rfl rfl ?_
  unfold b_X12_waitsFor at h
  refine mAt.blk bk_X12_waitsFor_0 ck_X12_waitsFor_0 ?_
  refine q_iload_n rfl ?_
  refine q_lsw ?_
  refine ⟨fun c9 => ?_, fun c9 => ?_⟩
  · rw [if_pos c9] at h
    refine mAt.blk bk_X12_waitsFor_28 ck_X12_waitsFor_28 ?_
    refine q_aload_n rfl ?_
    refine q_bipush ?_
    obtain ⟨q1, e1, h⟩ := mbind h
    refine q_vV1 mcap_0 rfl rfl ob_93 rfl (by omega) (ok_X12_ran  e1) ?_
    refine q_iload_n rfl ?_
    refine q_aload_n rfl ?_
    refine q_getR ob_93 rfl rfl ?_
    refine q_bipush ?_
    refine q_bipush ?_
    refine q_aload_n rfl ?_
    refine q_getI ob_93 rfl ?_
    refine q_imul ?_
    refine q_iadd ?_
    refine q_iconst ?_
    refine q_iadd ?_
    obtain ⟨c2, h⟩ := mnone h
    refine q_iald (mrd ar_94 _ _) rfl c2 ?_
    refine q_isub ?_
    have h := Option.some.inj h
    subst h
    exact q_iretI mcap_0 rfl rfl
  · rw [if_neg c9] at h
    refine ⟨fun c8 => ?_, fun c8 => ?_⟩
    · rw [if_pos c8] at h
      refine mAt.blk bk_X12_waitsFor_54 ck_X12_waitsFor_54 ?_
      refine q_aload_n rfl ?_
      refine q_bipush ?_
      obtain ⟨q3, e3, h⟩ := mbind h
      refine q_vV1 mcap_0 rfl rfl ob_93 rfl (by omega) (ok_X12_ran  e3) ?_
      refine q_aload_n rfl ?_
      refine q_iconst ?_
      obtain ⟨q4, e4, h⟩ := mbind h
      refine q_sI1 mcap_0 rfl rfl rfl rfl (by omega) (ok_X12_above  e4) ?_
      refine q_iload_n rfl ?_
      obtain ⟨q5, e5, h⟩ := mbind h
      refine q_vI2 mcap_0 rfl rfl ob_93 rfl (by omega) (G_X12_waitsFor _ _ _ _ e5) ?_
      refine q_ineg ?_
      have h := Option.some.inj h
      subst h
      exact q_iretI mcap_0 rfl rfl
    · rw [if_neg c8] at h
      refine mAt.blk bk_X12_waitsFor_71 ck_X12_waitsFor_71 ?_
      refine q_aload_n rfl ?_
      refine q_iload_n rfl ?_
      obtain ⟨q6, e6, h⟩ := mbind h
      refine q_sI1 mcap_0 rfl rfl rfl rfl (by omega) (ok_X12_above  e6) ?_
      refine q_iload_n rfl ?_
      obtain ⟨q7, e7, h⟩ := mbind h
      refine q_vI2 mcap_0 rfl rfl ob_93 rfl (by omega) (G_X12_waitsFor _ _ _ _ e7) ?_
      have h := Option.some.inj h
      subst h
      exact q_iretI mcap_0 rfl rfl
def F_X12_waitsFor : Nat → (Int32 → Int32 → Sg → Option (Int32 × Sg))
  | 0 => ((fun _ _ _ => none))
  | n + 1 => ((fun p0 p1 σ => b_X12_waitsFor ((F_X12_waitsFor n)) p0 p1 σ))
def f_X12_waitsFor (n : Nat) (p0 : Int32) (p1 : Int32) (σ : Sg) : Option (Int32 × Sg) := ((F_X12_waitsFor n)) p0 p1 σ
theorem f_X12_waitsFor_0 (p0 : Int32) (p1 : Int32) (σ : Sg) : f_X12_waitsFor 0 p0 p1 σ = none := rfl
theorem f_X12_waitsFor_s (n : Nat) (p0 : Int32) (p1 : Int32) (σ : Sg) : f_X12_waitsFor (n + 1) p0 p1 σ = b_X12_waitsFor (f_X12_waitsFor n) p0 p1 σ := rfl
set_option maxHeartbeats 4000000 in
theorem okg_X12_waitsFor {L : Nat} : ∀ n : Nat, (∀ (p0 : Int32) (p1 : Int32) (σ : Sg) (R : Int32 × Sg), f_X12_waitsFor n p0 p1 σ = some R → mEv (n + 1) 213 [.ref 93, .int p0, .int p1] (mSh, L, σ) (some (.int R.1)) (mSh, L, R.2))
  | 0 => (fun _ _ _ _ h => by rw [f_X12_waitsFor_0] at h; cases h)
  | n + 1 => by
    have ih := okg_X12_waitsFor (L := L) n
    exact (fun _ _ _ _ h => by rw [f_X12_waitsFor_s] at h; exact (by have := okb_X12_waitsFor (L := L) (dd := n + 1) (ih) (by omega) h; rw [show n + 1 + 1 = n + 1 + 1 by omega]; exact this))
theorem ok_X12_waitsFor {L : Nat} {p0 : Int32} {p1 : Int32} {σ : Sg} {R : Int32 × Sg} (h : f_X12_waitsFor 64 p0 p1 σ = some R) : mEv 65 213 [.ref 93, .int p0, .int p1] (mSh, L, σ) (some (.int R.1)) (mSh, L, R.2) := (okg_X12_waitsFor (L := L) 64) _ _ _ _ h
def bk_X12_goes_0 : List mI := [(.iload_n 1, 1, 0, 0, 0, []), (.tableswitch 107 0 4 #[35, 57, 107, 107, 89], 35, 108, 0, 0, [(0, 36), (1, 58), (2, 108), (3, 108), (4, 90)])]
theorem ck_X12_goes_0 : mChk 212 0 bk_X12_goes_0 = true := by decide +kernel
def bk_X12_goes_36 : List mI := [(.aload_n 0, 1, 0, 0, 0, []), (.bipush 11, 2, 0, 0, 0, [(11, 0)]), (.invokevirtual 259, 3, 209, 0, 1318, []), (.aload_n 0, 1, 0, 0, 0, []), (.aload_n 0, 1, 0, 0, 0, []), (.aload_n 0, 1, 0, 0, 0, []), (.getfield 262, 3, 12, 16, 953, []), (.invokevirtual 188, 3, 174, 0, 1165, []), (.iload_n 2, 1, 0, 0, 0, []), (.invokevirtual 268, 3, 211, 0, 1314, []), (.iconst 2, 1, 0, 0, 0, [(2, 0)]), (.imul, 1, 0, 0, 0, []), (.ireturn, 1, 0, 0, 0, [])]
theorem ck_X12_goes_36 : mChk 212 36 bk_X12_goes_36 = true := by decide +kernel
def bk_X12_goes_58 : List mI := [(.aload_n 0, 1, 0, 0, 0, []), (.bipush 20, 2, 0, 0, 0, [(20, 0)]), (.invokevirtual 259, 3, 209, 0, 1318, []), (.aload_n 0, 1, 0, 0, 0, []), (.iconst 1, 1, 0, 0, 0, [(1, 0)]), (.invokestatic 265, 3, 210, 0, 1322, []), (.iload_n 2, 1, 0, 0, 0, []), (.invokevirtual 271, 3, 212, 0, 1325, []), (.istore_n 3, 1, 0, 0, 0, []), (.iload_n 3, 1, 0, 0, 0, []), (.aload_n 0, 1, 0, 0, 0, []), (.aload_n 0, 1, 0, 0, 0, []), (.aload_n 0, 1, 0, 0, 0, []), (.getfield 262, 3, 12, 16, 953, []), (.invokevirtual 188, 3, 174, 0, 1165, []), (.iconst 1, 1, 0, 0, 0, [(1, 0)]), (.invokevirtual 274, 3, 213, 0, 1329, []), (.isub, 1, 0, 0, 0, []), (.ireturn, 1, 0, 0, 0, [])]
theorem ck_X12_goes_58 : mChk 212 58 bk_X12_goes_58 = true := by decide +kernel
def bk_X12_goes_90 : List mI := [(.aload_n 0, 1, 0, 0, 0, []), (.bipush 50, 2, 0, 0, 0, [(50, 0)]), (.invokevirtual 259, 3, 209, 0, 1318, []), (.aload_n 0, 1, 0, 0, 0, []), (.iconst 4, 1, 0, 0, 0, [(4, 0)]), (.invokestatic 265, 3, 210, 0, 1322, []), (.iload_n 2, 1, 0, 0, 0, []), (.iconst 1, 1, 0, 0, 0, [(1, 0)]), (.iadd, 1, 0, 0, 0, []), (.invokevirtual 271, 3, 212, 0, 1325, []), (.ireturn, 1, 0, 0, 0, [])]
theorem ck_X12_goes_90 : mChk 212 90 bk_X12_goes_90 = true := by decide +kernel
def bk_X12_goes_108 : List mI := [(.aload_n 0, 1, 0, 0, 0, []), (.iload_n 1, 1, 0, 0, 0, []), (.invokestatic 265, 3, 210, 0, 1322, []), (.iload_n 2, 1, 0, 0, 0, []), (.invokevirtual 271, 3, 212, 0, 1325, []), (.ireturn, 1, 0, 0, 0, [])]
theorem ck_X12_goes_108 : mChk 212 108 bk_X12_goes_108 = true := by decide +kernel
def b_X12_goes (g_X12_goes : Int32 → Int32 → Sg → Option (Int32 × Sg)) (p0 : Int32) (p1 : Int32) (σ : Sg) : Option (Int32 × Sg) := (if p0 = (0 : Int32) then ((f_X12_ran (11 : Int32) σ).bind fun q1 => ((f_X12_itsKind (q1 93 16) q1).bind fun q2 => ((f_X12_sinks 64 q2 p1 q1).bind fun q3 => (some ((q3.1 * (2 : Int32)), q3.2))))) else (if p0 = (1 : Int32) then ((f_X12_ran (20 : Int32) σ).bind fun q4 => ((f_X12_above (1 : Int32) q4).bind fun q5 => ((g_X12_goes q5 p1 q4).bind fun q6 => ((f_X12_itsKind (q6.2 93 16) q6.2).bind fun q7 => ((f_X12_waitsFor 64 q7 (1 : Int32) q6.2).bind fun q8 => (some ((q6.1 - q8.1), q8.2))))))) else (if p0 = (2 : Int32) then ((f_X12_above p0 σ).bind fun q9 => ((g_X12_goes q9 p1 σ).bind fun q10 => (some (q10.1, q10.2)))) else (if p0 = (3 : Int32) then ((f_X12_above p0 σ).bind fun q11 => ((g_X12_goes q11 p1 σ).bind fun q12 => (some (q12.1, q12.2)))) else (if p0 = (4 : Int32) then ((f_X12_ran (50 : Int32) σ).bind fun q13 => ((f_X12_above (4 : Int32) q13).bind fun q14 => ((g_X12_goes q14 (p1 + (1 : Int32)) q13).bind fun q15 => (some (q15.1, q15.2))))) else ((f_X12_above p0 σ).bind fun q16 => ((g_X12_goes q16 p1 σ).bind fun q17 => (some (q17.1, q17.2)))))))))
set_option maxHeartbeats 4000000 in
theorem okb_X12_goes {L : Nat} {g_X12_goes : Int32 → Int32 → Sg → Option (Int32 × Sg)} {dd : Nat} {p0 : Int32} {p1 : Int32} {σ : Sg} {R : Int32 × Sg} (G_X12_goes : ∀ (p0 : Int32) (p1 : Int32) (σ : Sg) (R : Int32 × Sg), g_X12_goes p0 p1 σ = some R → mEv dd 212 [.ref 93, .int p0, .int p1] (mSh, L, σ) (some (.int R.1)) (mSh, L, R.2)) (hdd : 66 ≤ dd) (h : b_X12_goes g_X12_goes p0 p1 σ = some R) : mEv (dd + 1) 212 [.ref 93, .int p0, .int p1] (mSh, L, σ) (some (.int R.1)) (mSh, L, R.2) := by
  refine mEv.of (by decide) rfl rfl ?_
  unfold b_X12_goes at h
  refine mAt.blk bk_X12_goes_0 ck_X12_goes_0 ?_
  refine q_iload_n rfl ?_
  refine q_tsw ?_
  refine ⟨fun c22 => ?_, fun c22 => ?_⟩
  · rw [if_pos c22] at h
    refine mAt.blk bk_X12_goes_36 ck_X12_goes_36 ?_
    refine q_aload_n rfl ?_
    refine q_bipush ?_
    obtain ⟨q1, e1, h⟩ := mbind h
    refine q_vV1 mcap_0 rfl rfl ob_93 rfl (by omega) (ok_X12_ran  e1) ?_
    refine q_aload_n rfl ?_
    refine q_aload_n rfl ?_
    refine q_aload_n rfl ?_
    refine q_getI ob_93 rfl ?_
    obtain ⟨q2, e2, h⟩ := mbind h
    refine q_vI1 mcap_0 rfl rfl ob_93 rfl (by omega) (ok_X12_itsKind  e2) ?_
    refine q_iload_n rfl ?_
    obtain ⟨q3, e3, h⟩ := mbind h
    refine q_vI2 mcap_0 rfl rfl ob_93 rfl (by omega) (ok_X12_sinks  e3) ?_
    refine q_iconst ?_
    refine q_imul ?_
    have h := Option.some.inj h
    subst h
    exact q_iretI mcap_0 rfl rfl
  · rw [if_neg c22] at h
    refine ⟨fun c21 => ?_, fun c21 => ?_⟩
    · rw [if_pos c21] at h
      refine mAt.blk bk_X12_goes_58 ck_X12_goes_58 ?_
      refine q_aload_n rfl ?_
      refine q_bipush ?_
      obtain ⟨q4, e4, h⟩ := mbind h
      refine q_vV1 mcap_0 rfl rfl ob_93 rfl (by omega) (ok_X12_ran  e4) ?_
      refine q_aload_n rfl ?_
      refine q_iconst ?_
      obtain ⟨q5, e5, h⟩ := mbind h
      refine q_sI1 mcap_0 rfl rfl rfl rfl (by omega) (ok_X12_above  e5) ?_
      refine q_iload_n rfl ?_
      obtain ⟨q6, e6, h⟩ := mbind h
      refine q_vI2 mcap_0 rfl rfl ob_93 rfl (by omega) (G_X12_goes _ _ _ _ e6) ?_
      refine q_istore_n rfl rfl ?_
      refine q_iload_n rfl ?_
      refine q_aload_n rfl ?_
      refine q_aload_n rfl ?_
      refine q_aload_n rfl ?_
      refine q_getI ob_93 rfl ?_
      obtain ⟨q7, e7, h⟩ := mbind h
      refine q_vI1 mcap_0 rfl rfl ob_93 rfl (by omega) (ok_X12_itsKind  e7) ?_
      refine q_iconst ?_
      obtain ⟨q8, e8, h⟩ := mbind h
      refine q_vI2 mcap_0 rfl rfl ob_93 rfl (by omega) (ok_X12_waitsFor  e8) ?_
      refine q_isub ?_
      have h := Option.some.inj h
      subst h
      exact q_iretI mcap_0 rfl rfl
    · rw [if_neg c21] at h
      refine ⟨fun c20 => ?_, fun c20 => ?_⟩
      · rw [if_pos c20] at h
        refine mAt.blk bk_X12_goes_108 ck_X12_goes_108 ?_
        refine q_aload_n rfl ?_
        refine q_iload_n rfl ?_
        obtain ⟨q9, e9, h⟩ := mbind h
        refine q_sI1 mcap_0 rfl rfl rfl rfl (by omega) (ok_X12_above  e9) ?_
        refine q_iload_n rfl ?_
        obtain ⟨q10, e10, h⟩ := mbind h
        refine q_vI2 mcap_0 rfl rfl ob_93 rfl (by omega) (G_X12_goes _ _ _ _ e10) ?_
        have h := Option.some.inj h
        subst h
        exact q_iretI mcap_0 rfl rfl
      · rw [if_neg c20] at h
        refine ⟨fun c19 => ?_, fun c19 => ?_⟩
        · rw [if_pos c19] at h
          refine mAt.blk bk_X12_goes_108 ck_X12_goes_108 ?_
          refine q_aload_n rfl ?_
          refine q_iload_n rfl ?_
          obtain ⟨q11, e11, h⟩ := mbind h
          refine q_sI1 mcap_0 rfl rfl rfl rfl (by omega) (ok_X12_above  e11) ?_
          refine q_iload_n rfl ?_
          obtain ⟨q12, e12, h⟩ := mbind h
          refine q_vI2 mcap_0 rfl rfl ob_93 rfl (by omega) (G_X12_goes _ _ _ _ e12) ?_
          have h := Option.some.inj h
          subst h
          exact q_iretI mcap_0 rfl rfl
        · rw [if_neg c19] at h
          refine ⟨fun c18 => ?_, fun c18 => ?_⟩
          · rw [if_pos c18] at h
            refine mAt.blk bk_X12_goes_90 ck_X12_goes_90 ?_
            refine q_aload_n rfl ?_
            refine q_bipush ?_
            obtain ⟨q13, e13, h⟩ := mbind h
            refine q_vV1 mcap_0 rfl rfl ob_93 rfl (by omega) (ok_X12_ran  e13) ?_
            refine q_aload_n rfl ?_
            refine q_iconst ?_
            obtain ⟨q14, e14, h⟩ := mbind h
            refine q_sI1 mcap_0 rfl rfl rfl rfl (by omega) (ok_X12_above  e14) ?_
            refine q_iload_n rfl ?_
            refine q_iconst ?_
            refine q_iadd ?_
            obtain ⟨q15, e15, h⟩ := mbind h
            refine q_vI2 mcap_0 rfl rfl ob_93 rfl (by omega) (G_X12_goes _ _ _ _ e15) ?_
            have h := Option.some.inj h
            subst h
            exact q_iretI mcap_0 rfl rfl
          · rw [if_neg c18] at h
            refine mAt.blk bk_X12_goes_108 ck_X12_goes_108 ?_
            refine q_aload_n rfl ?_
            refine q_iload_n rfl ?_
            obtain ⟨q16, e16, h⟩ := mbind h
            refine q_sI1 mcap_0 rfl rfl rfl rfl (by omega) (ok_X12_above  e16) ?_
            refine q_iload_n rfl ?_
            obtain ⟨q17, e17, h⟩ := mbind h
            refine q_vI2 mcap_0 rfl rfl ob_93 rfl (by omega) (G_X12_goes _ _ _ _ e17) ?_
            have h := Option.some.inj h
            subst h
            exact q_iretI mcap_0 rfl rfl
def F_X12_goes : Nat → (Int32 → Int32 → Sg → Option (Int32 × Sg))
  | 0 => ((fun _ _ _ => none))
  | n + 1 => ((fun p0 p1 σ => b_X12_goes ((F_X12_goes n)) p0 p1 σ))
def f_X12_goes (n : Nat) (p0 : Int32) (p1 : Int32) (σ : Sg) : Option (Int32 × Sg) := ((F_X12_goes n)) p0 p1 σ
theorem f_X12_goes_0 (p0 : Int32) (p1 : Int32) (σ : Sg) : f_X12_goes 0 p0 p1 σ = none := rfl
theorem f_X12_goes_s (n : Nat) (p0 : Int32) (p1 : Int32) (σ : Sg) : f_X12_goes (n + 1) p0 p1 σ = b_X12_goes (f_X12_goes n) p0 p1 σ := rfl
set_option maxHeartbeats 4000000 in
theorem okg_X12_goes {L : Nat} : ∀ n : Nat, (∀ (p0 : Int32) (p1 : Int32) (σ : Sg) (R : Int32 × Sg), f_X12_goes n p0 p1 σ = some R → mEv (n + 66) 212 [.ref 93, .int p0, .int p1] (mSh, L, σ) (some (.int R.1)) (mSh, L, R.2))
  | 0 => (fun _ _ _ _ h => by rw [f_X12_goes_0] at h; cases h)
  | n + 1 => by
    have ih := okg_X12_goes (L := L) n
    exact (fun _ _ _ _ h => by rw [f_X12_goes_s] at h; exact (by have := okb_X12_goes (L := L) (dd := n + 66) (ih) (by omega) h; rw [show n + 1 + 66 = n + 66 + 1 by omega]; exact this))
theorem ok_X12_goes {L : Nat} {p0 : Int32} {p1 : Int32} {σ : Sg} {R : Int32 × Sg} (h : f_X12_goes 64 p0 p1 σ = some R) : mEv 130 212 [.ref 93, .int p0, .int p1] (mSh, L, σ) (some (.int R.1)) (mSh, L, R.2) := (okg_X12_goes (L := L) 64) _ _ _ _ h
def bk_X12_tells_0 : List mI := [(.iload_n 1, 1, 0, 0, 0, []), (.lookupswitch 136 #[(0, 35), (5, 71), (6, 103)], 35, 137, 0, 0, [(0, 36), (5, 72), (6, 104)])]
theorem ck_X12_tells_0 : mChk 214 0 bk_X12_tells_0 = true := by decide +kernel
def bk_X12_tells_36 : List mI := [(.aload_n 0, 1, 0, 0, 0, []), (.bipush 13, 2, 0, 0, 0, [(13, 0)]), (.invokevirtual 259, 3, 209, 0, 1318, []), (.aload_n 0, 1, 0, 0, 0, []), (.aload_n 0, 1, 0, 0, 0, []), (.aload_n 0, 1, 0, 0, 0, []), (.getfield 262, 3, 12, 16, 953, []), (.invokevirtual 188, 3, 174, 0, 1165, []), (.iload_n 2, 1, 0, 0, 0, []), (.invokevirtual 271, 3, 212, 0, 1325, []), (.istore_n 3, 1, 0, 0, 0, []), (.iload_n 3, 1, 0, 0, 0, []), (.aload_n 0, 1, 0, 0, 0, []), (.aload_n 0, 1, 0, 0, 0, []), (.aload_n 0, 1, 0, 0, 0, []), (.getfield 262, 3, 12, 16, 953, []), (.invokevirtual 188, 3, 174, 0, 1165, []), (.iload_n 2, 1, 0, 0, 0, []), (.invokevirtual 274, 3, 213, 0, 1329, []), (.ixor, 1, 0, 0, 0, []), (.ireturn, 1, 0, 0, 0, [])]
theorem ck_X12_tells_36 : mChk 214 36 bk_X12_tells_36 = true := by decide +kernel
def bk_X12_tells_72 : List mI := [(.aload_n 0, 1, 0, 0, 0, []), (.bipush 60, 2, 0, 0, 0, [(60, 0)]), (.invokevirtual 259, 3, 209, 0, 1318, []), (.aload_n 0, 1, 0, 0, 0, []), (.iconst 5, 1, 0, 0, 0, [(5, 0)]), (.invokestatic 265, 3, 210, 0, 1322, []), (.iload_n 2, 1, 0, 0, 0, []), (.invokevirtual 277, 3, 214, 0, 1333, []), (.istore_n 3, 1, 0, 0, 0, []), (.iload_n 3, 1, 0, 0, 0, []), (.aload_n 0, 1, 0, 0, 0, []), (.aload_n 0, 1, 0, 0, 0, []), (.aload_n 0, 1, 0, 0, 0, []), (.getfield 262, 3, 12, 16, 953, []), (.invokevirtual 188, 3, 174, 0, 1165, []), (.iconst 2, 1, 0, 0, 0, [(2, 0)]), (.invokevirtual 268, 3, 211, 0, 1314, []), (.isub, 1, 0, 0, 0, []), (.ireturn, 1, 0, 0, 0, [])]
theorem ck_X12_tells_72 : mChk 214 72 bk_X12_tells_72 = true := by decide +kernel
def bk_X12_tells_104 : List mI := [(.aload_n 0, 1, 0, 0, 0, []), (.bipush 71, 2, 0, 0, 0, [(71, 0)]), (.invokevirtual 259, 3, 209, 0, 1318, []), (.aload_n 0, 1, 0, 0, 0, []), (.aload_n 0, 1, 0, 0, 0, []), (.aload_n 0, 1, 0, 0, 0, []), (.getfield 262, 3, 12, 16, 953, []), (.invokevirtual 188, 3, 174, 0, 1165, []), (.iload_n 2, 1, 0, 0, 0, []), (.invokevirtual 271, 3, 212, 0, 1325, []), (.istore_n 3, 1, 0, 0, 0, []), (.iload_n 3, 1, 0, 0, 0, []), (.aload_n 0, 1, 0, 0, 0, []), (.bipush 6, 2, 0, 0, 0, [(6, 0)]), (.invokestatic 265, 3, 210, 0, 1322, []), (.iload_n 2, 1, 0, 0, 0, []), (.invokevirtual 277, 3, 214, 0, 1333, []), (.isub, 1, 0, 0, 0, []), (.ireturn, 1, 0, 0, 0, [])]
theorem ck_X12_tells_104 : mChk 214 104 bk_X12_tells_104 = true := by decide +kernel
def bk_X12_tells_137 : List mI := [(.aload_n 0, 1, 0, 0, 0, []), (.iload_n 1, 1, 0, 0, 0, []), (.invokestatic 265, 3, 210, 0, 1322, []), (.iload_n 2, 1, 0, 0, 0, []), (.invokevirtual 277, 3, 214, 0, 1333, []), (.ireturn, 1, 0, 0, 0, [])]
theorem ck_X12_tells_137 : mChk 214 137 bk_X12_tells_137 = true := by decide +kernel
def b_X12_tells (g_X12_tells : Int32 → Int32 → Sg → Option (Int32 × Sg)) (p0 : Int32) (p1 : Int32) (σ : Sg) : Option (Int32 × Sg) := (if p0 = (0 : Int32) then ((f_X12_ran (13 : Int32) σ).bind fun q1 => ((f_X12_itsKind (q1 93 16) q1).bind fun q2 => ((f_X12_goes 64 q2 p1 q1).bind fun q3 => ((f_X12_itsKind (q3.2 93 16) q3.2).bind fun q4 => ((f_X12_waitsFor 64 q4 p1 q3.2).bind fun q5 => (some ((q3.1 ^^^ q5.1), q5.2))))))) else (if p0 = (5 : Int32) then ((f_X12_ran (60 : Int32) σ).bind fun q6 => ((f_X12_above (5 : Int32) q6).bind fun q7 => ((g_X12_tells q7 p1 q6).bind fun q8 => ((f_X12_itsKind (q8.2 93 16) q8.2).bind fun q9 => ((f_X12_sinks 64 q9 (2 : Int32) q8.2).bind fun q10 => (some ((q8.1 - q10.1), q10.2))))))) else (if p0 = (6 : Int32) then ((f_X12_ran (71 : Int32) σ).bind fun q11 => ((f_X12_itsKind (q11 93 16) q11).bind fun q12 => ((f_X12_goes 64 q12 p1 q11).bind fun q13 => ((f_X12_above (6 : Int32) q13.2).bind fun q14 => ((g_X12_tells q14 p1 q13.2).bind fun q15 => (some ((q13.1 - q15.1), q15.2))))))) else ((f_X12_above p0 σ).bind fun q16 => ((g_X12_tells q16 p1 σ).bind fun q17 => (some (q17.1, q17.2)))))))
set_option maxHeartbeats 4000000 in
theorem okb_X12_tells {L : Nat} {g_X12_tells : Int32 → Int32 → Sg → Option (Int32 × Sg)} {dd : Nat} {p0 : Int32} {p1 : Int32} {σ : Sg} {R : Int32 × Sg} (G_X12_tells : ∀ (p0 : Int32) (p1 : Int32) (σ : Sg) (R : Int32 × Sg), g_X12_tells p0 p1 σ = some R → mEv dd 214 [.ref 93, .int p0, .int p1] (mSh, L, σ) (some (.int R.1)) (mSh, L, R.2)) (hdd : 131 ≤ dd) (h : b_X12_tells g_X12_tells p0 p1 σ = some R) : mEv (dd + 1) 214 [.ref 93, .int p0, .int p1] (mSh, L, σ) (some (.int R.1)) (mSh, L, R.2) := by
  refine mEv.of (by decide) rfl rfl ?_
  unfold b_X12_tells at h
  refine mAt.blk bk_X12_tells_0 ck_X12_tells_0 ?_
  refine q_iload_n rfl ?_
  refine q_lsw ?_
  refine ⟨fun c20 => ?_, fun c20 => ?_⟩
  · rw [if_pos c20] at h
    refine mAt.blk bk_X12_tells_36 ck_X12_tells_36 ?_
    refine q_aload_n rfl ?_
    refine q_bipush ?_
    obtain ⟨q1, e1, h⟩ := mbind h
    refine q_vV1 mcap_0 rfl rfl ob_93 rfl (by omega) (ok_X12_ran  e1) ?_
    refine q_aload_n rfl ?_
    refine q_aload_n rfl ?_
    refine q_aload_n rfl ?_
    refine q_getI ob_93 rfl ?_
    obtain ⟨q2, e2, h⟩ := mbind h
    refine q_vI1 mcap_0 rfl rfl ob_93 rfl (by omega) (ok_X12_itsKind  e2) ?_
    refine q_iload_n rfl ?_
    obtain ⟨q3, e3, h⟩ := mbind h
    refine q_vI2 mcap_0 rfl rfl ob_93 rfl (by omega) (ok_X12_goes  e3) ?_
    refine q_istore_n rfl rfl ?_
    refine q_iload_n rfl ?_
    refine q_aload_n rfl ?_
    refine q_aload_n rfl ?_
    refine q_aload_n rfl ?_
    refine q_getI ob_93 rfl ?_
    obtain ⟨q4, e4, h⟩ := mbind h
    refine q_vI1 mcap_0 rfl rfl ob_93 rfl (by omega) (ok_X12_itsKind  e4) ?_
    refine q_iload_n rfl ?_
    obtain ⟨q5, e5, h⟩ := mbind h
    refine q_vI2 mcap_0 rfl rfl ob_93 rfl (by omega) (ok_X12_waitsFor  e5) ?_
    refine q_ixor ?_
    have h := Option.some.inj h
    subst h
    exact q_iretI mcap_0 rfl rfl
  · rw [if_neg c20] at h
    refine ⟨fun c19 => ?_, fun c19 => ?_⟩
    · rw [if_pos c19] at h
      refine mAt.blk bk_X12_tells_72 ck_X12_tells_72 ?_
      refine q_aload_n rfl ?_
      refine q_bipush ?_
      obtain ⟨q6, e6, h⟩ := mbind h
      refine q_vV1 mcap_0 rfl rfl ob_93 rfl (by omega) (ok_X12_ran  e6) ?_
      refine q_aload_n rfl ?_
      refine q_iconst ?_
      obtain ⟨q7, e7, h⟩ := mbind h
      refine q_sI1 mcap_0 rfl rfl rfl rfl (by omega) (ok_X12_above  e7) ?_
      refine q_iload_n rfl ?_
      obtain ⟨q8, e8, h⟩ := mbind h
      refine q_vI2 mcap_0 rfl rfl ob_93 rfl (by omega) (G_X12_tells _ _ _ _ e8) ?_
      refine q_istore_n rfl rfl ?_
      refine q_iload_n rfl ?_
      refine q_aload_n rfl ?_
      refine q_aload_n rfl ?_
      refine q_aload_n rfl ?_
      refine q_getI ob_93 rfl ?_
      obtain ⟨q9, e9, h⟩ := mbind h
      refine q_vI1 mcap_0 rfl rfl ob_93 rfl (by omega) (ok_X12_itsKind  e9) ?_
      refine q_iconst ?_
      obtain ⟨q10, e10, h⟩ := mbind h
      refine q_vI2 mcap_0 rfl rfl ob_93 rfl (by omega) (ok_X12_sinks  e10) ?_
      refine q_isub ?_
      have h := Option.some.inj h
      subst h
      exact q_iretI mcap_0 rfl rfl
    · rw [if_neg c19] at h
      refine ⟨fun c18 => ?_, fun c18 => ?_⟩
      · rw [if_pos c18] at h
        refine mAt.blk bk_X12_tells_104 ck_X12_tells_104 ?_
        refine q_aload_n rfl ?_
        refine q_bipush ?_
        obtain ⟨q11, e11, h⟩ := mbind h
        refine q_vV1 mcap_0 rfl rfl ob_93 rfl (by omega) (ok_X12_ran  e11) ?_
        refine q_aload_n rfl ?_
        refine q_aload_n rfl ?_
        refine q_aload_n rfl ?_
        refine q_getI ob_93 rfl ?_
        obtain ⟨q12, e12, h⟩ := mbind h
        refine q_vI1 mcap_0 rfl rfl ob_93 rfl (by omega) (ok_X12_itsKind  e12) ?_
        refine q_iload_n rfl ?_
        obtain ⟨q13, e13, h⟩ := mbind h
        refine q_vI2 mcap_0 rfl rfl ob_93 rfl (by omega) (ok_X12_goes  e13) ?_
        refine q_istore_n rfl rfl ?_
        refine q_iload_n rfl ?_
        refine q_aload_n rfl ?_
        refine q_bipush ?_
        obtain ⟨q14, e14, h⟩ := mbind h
        refine q_sI1 mcap_0 rfl rfl rfl rfl (by omega) (ok_X12_above  e14) ?_
        refine q_iload_n rfl ?_
        obtain ⟨q15, e15, h⟩ := mbind h
        refine q_vI2 mcap_0 rfl rfl ob_93 rfl (by omega) (G_X12_tells _ _ _ _ e15) ?_
        refine q_isub ?_
        have h := Option.some.inj h
        subst h
        exact q_iretI mcap_0 rfl rfl
      · rw [if_neg c18] at h
        refine mAt.blk bk_X12_tells_137 ck_X12_tells_137 ?_
        refine q_aload_n rfl ?_
        refine q_iload_n rfl ?_
        obtain ⟨q16, e16, h⟩ := mbind h
        refine q_sI1 mcap_0 rfl rfl rfl rfl (by omega) (ok_X12_above  e16) ?_
        refine q_iload_n rfl ?_
        obtain ⟨q17, e17, h⟩ := mbind h
        refine q_vI2 mcap_0 rfl rfl ob_93 rfl (by omega) (G_X12_tells _ _ _ _ e17) ?_
        have h := Option.some.inj h
        subst h
        exact q_iretI mcap_0 rfl rfl
def F_X12_tells : Nat → (Int32 → Int32 → Sg → Option (Int32 × Sg))
  | 0 => ((fun _ _ _ => none))
  | n + 1 => ((fun p0 p1 σ => b_X12_tells ((F_X12_tells n)) p0 p1 σ))
def f_X12_tells (n : Nat) (p0 : Int32) (p1 : Int32) (σ : Sg) : Option (Int32 × Sg) := ((F_X12_tells n)) p0 p1 σ
theorem f_X12_tells_0 (p0 : Int32) (p1 : Int32) (σ : Sg) : f_X12_tells 0 p0 p1 σ = none := rfl
theorem f_X12_tells_s (n : Nat) (p0 : Int32) (p1 : Int32) (σ : Sg) : f_X12_tells (n + 1) p0 p1 σ = b_X12_tells (f_X12_tells n) p0 p1 σ := rfl
set_option maxHeartbeats 4000000 in
theorem okg_X12_tells {L : Nat} : ∀ n : Nat, (∀ (p0 : Int32) (p1 : Int32) (σ : Sg) (R : Int32 × Sg), f_X12_tells n p0 p1 σ = some R → mEv (n + 131) 214 [.ref 93, .int p0, .int p1] (mSh, L, σ) (some (.int R.1)) (mSh, L, R.2))
  | 0 => (fun _ _ _ _ h => by rw [f_X12_tells_0] at h; cases h)
  | n + 1 => by
    have ih := okg_X12_tells (L := L) n
    exact (fun _ _ _ _ h => by rw [f_X12_tells_s] at h; exact (by have := okb_X12_tells (L := L) (dd := n + 131) (ih) (by omega) h; rw [show n + 1 + 131 = n + 131 + 1 by omega]; exact this))
theorem ok_X12_tells {L : Nat} {p0 : Int32} {p1 : Int32} {σ : Sg} {R : Int32 × Sg} (h : f_X12_tells 64 p0 p1 σ = some R) : mEv 195 214 [.ref 93, .int p0, .int p1] (mSh, L, σ) (some (.int R.1)) (mSh, L, R.2) := (okg_X12_tells (L := L) 64) _ _ _ _ h
def bk_X12_voice_0 : List mI := [(.aload_n 0, 1, 0, 0, 0, []), (.iload_n 1, 1, 0, 0, 0, []), (.invokevirtual 182, 3, 139, 0, 1136, []), (.ifCond .eq 15, 3, 20, 0, 0, []), (.iload_n 2, 1, 0, 0, 0, []), (.i2l, 1, 0, 0, 0, []), (.lconst 0, 1, 0, 0, 0, [(0, 0)]), (.ldc2_w 280, 3, 0, 0, 1126, [(3, 0)]), (.invokestatic 48, 3, 135, 0, 1007, []), (.ifCond .ne 9, 3, 26, 0, 0, [])]
theorem ck_X12_voice_0 : mChk 215 0 bk_X12_voice_0 = true := by decide +kernel
def bk_X12_voice_20 : List mI := [(.aload_n 0, 1, 0, 0, 0, []), (.iconst 1, 1, 0, 0, 0, [(1, 0)]), (.invokevirtual 111, 3, 134, 0, 1010, []), (.ireturn, 1, 0, 0, 0, [])]
theorem ck_X12_voice_20 : mChk 215 20 bk_X12_voice_20 = true := by decide +kernel
def bk_X12_voice_26 : List mI := [(.aload_n 0, 1, 0, 0, 0, []), (.iconst 0, 1, 0, 0, 0, [(0, 0)]), (.putfield 256, 3, 12, 15, 952, []), (.aload_n 0, 1, 0, 0, 0, []), (.iload_n 1, 1, 0, 0, 0, []), (.putfield 262, 3, 12, 16, 953, []), (.aload_n 0, 1, 0, 0, 0, []), (.iload_n 1, 1, 0, 0, 0, []), (.invokevirtual 188, 3, 174, 0, 1165, []), (.istore 4, 2, 0, 0, 0, []), (.iload_n 2, 1, 0, 0, 0, []), (.ifCond .ne 13, 3, 57, 0, 0, []), (.aload_n 0, 1, 0, 0, 0, []), (.iload 4, 2, 0, 0, 0, []), (.iload_n 3, 1, 0, 0, 0, []), (.invokevirtual 268, 3, 211, 0, 1314, []), (.goto 40, 3, 94, 0, 0, [])]
theorem ck_X12_voice_26 : mChk 215 26 bk_X12_voice_26 = true := by decide +kernel
def bk_X12_voice_57 : List mI := [(.iload_n 2, 1, 0, 0, 0, []), (.iconst 1, 1, 0, 0, 0, [(1, 0)]), (.if_icmp .ne 13, 3, 72, 0, 0, []), (.aload_n 0, 1, 0, 0, 0, []), (.iload 4, 2, 0, 0, 0, []), (.iload_n 3, 1, 0, 0, 0, []), (.invokevirtual 271, 3, 212, 0, 1325, []), (.goto 25, 3, 94, 0, 0, [])]
theorem ck_X12_voice_57 : mChk 215 57 bk_X12_voice_57 = true := by decide +kernel
def bk_X12_voice_72 : List mI := [(.iload_n 2, 1, 0, 0, 0, []), (.iconst 2, 1, 0, 0, 0, [(2, 0)]), (.if_icmp .ne 13, 3, 87, 0, 0, []), (.aload_n 0, 1, 0, 0, 0, []), (.iload 4, 2, 0, 0, 0, []), (.iload_n 3, 1, 0, 0, 0, []), (.invokevirtual 274, 3, 213, 0, 1329, []), (.goto 10, 3, 94, 0, 0, [])]
theorem ck_X12_voice_72 : mChk 215 72 bk_X12_voice_72 = true := by decide +kernel
def bk_X12_voice_87 : List mI := [(.aload_n 0, 1, 0, 0, 0, []), (.iload 4, 2, 0, 0, 0, []), (.iload_n 3, 1, 0, 0, 0, []), (.invokevirtual 277, 3, 214, 0, 1333, [])]
theorem ck_X12_voice_87 : mChk 215 87 bk_X12_voice_87 = true := by decide +kernel
def bk_X12_voice_94 : List mI := [(.ireturn, 1, 0, 0, 0, [])]
theorem ck_X12_voice_94 : mChk 215 94 bk_X12_voice_94 = true := by decide +kernel
def f_X12_voice (p0 : Int32) (p1 : Int32) (p2 : Int32) (σ : Sg) : Option (Int32 × Sg) := ((f_X12_isThing p0 σ).bind fun q1 => (if q1 = 0 then ((f_X12_finds (1 : Int32) σ).bind fun q3 => (some (q3.1, q3.2))) else ((f_X12_isIn (p1).toInt64 (0 : Int32).toInt64 (3 : Int32).toInt64 σ).bind fun q4 => (if q4 = 0 then ((f_X12_finds (1 : Int32) σ).bind fun q14 => (some (q14.1, q14.2))) else ((f_X12_itsKind p0 (mup (mup σ 93 15 (0 : Int32)) 93 16 p0)).bind fun q6 => (if p1 = 0 then ((f_X12_sinks 64 q6 p2 (mup (mup σ 93 15 (0 : Int32)) 93 16 p0)).bind fun q13 => (some (q13.1, q13.2))) else (if p1 = (1 : Int32) then ((f_X12_goes 64 q6 p2 (mup (mup σ 93 15 (0 : Int32)) 93 16 p0)).bind fun q12 => (some (q12.1, q12.2))) else (if p1 = (2 : Int32) then ((f_X12_waitsFor 64 q6 p2 (mup (mup σ 93 15 (0 : Int32)) 93 16 p0)).bind fun q11 => (some (q11.1, q11.2))) else ((f_X12_tells 64 q6 p2 (mup (mup σ 93 15 (0 : Int32)) 93 16 p0)).bind fun q10 => (some (q10.1, q10.2)))))))))))
set_option maxHeartbeats 4000000 in
theorem ok_X12_voice {L : Nat} {p0 : Int32} {p1 : Int32} {p2 : Int32} {σ : Sg} {R : Int32 × Sg} (h : f_X12_voice p0 p1 p2 σ = some R) : mEv 196 215 [.ref 93, .int p0, .int p1, .int p2] (mSh, L, σ) (some (.int R.1)) (mSh, L, R.2) := by
  refine mEv.of (by decide) rfl rfl ?_
  unfold f_X12_voice at h
  refine mAt.blk bk_X12_voice_0 ck_X12_voice_0 ?_
  refine q_aload_n rfl ?_
  refine q_iload_n rfl ?_
  obtain ⟨q1, e1, h⟩ := mbind h
  refine q_vI1 mcap_0 rfl rfl ob_93 rfl (by decide) (ok_X12_isThing  e1) ?_
  refine q_if_eq (fun c2 => ?_) (fun c2 => ?_)
  · rw [if_pos c2] at h
    refine mAt.blk bk_X12_voice_20 ck_X12_voice_20 ?_
    refine q_aload_n rfl ?_
    refine q_iconst ?_
    obtain ⟨q3, e3, h⟩ := mbind h
    refine q_vI1 mcap_0 rfl rfl ob_93 rfl (by decide) (ok_X12_finds  e3) ?_
    have h := Option.some.inj h
    subst h
    exact q_iretI mcap_0 rfl rfl
  · rw [if_neg c2] at h
    refine q_iload_n rfl ?_
    refine q_i2l ?_
    refine q_lconst ?_
    refine q_ldc2_w ?_
    obtain ⟨q4, e4, h⟩ := mbind h
    refine q_sI3 mcap_0 rfl rfl rfl rfl (by decide) (ok_X12_isIn  e4) ?_
    refine q_if_ne (fun c5 => ?_) (fun c5 => ?_)
    · rw [if_pos c5] at h
      refine mAt.blk bk_X12_voice_20 ck_X12_voice_20 ?_
      refine q_aload_n rfl ?_
      refine q_iconst ?_
      obtain ⟨q14, e14, h⟩ := mbind h
      refine q_vI1 mcap_0 rfl rfl ob_93 rfl (by decide) (ok_X12_finds  e14) ?_
      have h := Option.some.inj h
      subst h
      exact q_iretI mcap_0 rfl rfl
    · rw [if_neg c5] at h
      refine mAt.blk bk_X12_voice_26 ck_X12_voice_26 ?_
      refine q_aload_n rfl ?_
      refine q_iconst ?_
      refine q_putI ob_93 rfl ?_
      refine q_aload_n rfl ?_
      refine q_iload_n rfl ?_
      refine q_putI ob_93 rfl ?_
      refine q_aload_n rfl ?_
      refine q_iload_n rfl ?_
      obtain ⟨q6, e6, h⟩ := mbind h
      refine q_vI1 mcap_0 rfl rfl ob_93 rfl (by decide) (ok_X12_itsKind  e6) ?_
      refine q_istore rfl rfl ?_
      refine q_iload_n rfl ?_
      refine q_if_ne (fun c7 => ?_) (fun c7 => ?_)
      · rw [if_pos c7] at h
        refine q_aload_n rfl ?_
        refine q_iload rfl ?_
        refine q_iload_n rfl ?_
        obtain ⟨q13, e13, h⟩ := mbind h
        refine q_vI2 mcap_0 rfl rfl ob_93 rfl (by decide) (ok_X12_sinks  e13) ?_
        refine q_goto ?_
        refine mAt.blk bk_X12_voice_94 ck_X12_voice_94 ?_
        have h := Option.some.inj h
        subst h
        exact q_iretI mcap_0 rfl rfl
      · rw [if_neg c7] at h
        refine mAt.blk bk_X12_voice_57 ck_X12_voice_57 ?_
        refine q_iload_n rfl ?_
        refine q_iconst ?_
        refine q_ic_ne (fun c8 => ?_) (fun c8 => ?_)
        · rw [if_pos c8] at h
          refine q_aload_n rfl ?_
          refine q_iload rfl ?_
          refine q_iload_n rfl ?_
          obtain ⟨q12, e12, h⟩ := mbind h
          refine q_vI2 mcap_0 rfl rfl ob_93 rfl (by decide) (ok_X12_goes  e12) ?_
          refine q_goto ?_
          refine mAt.blk bk_X12_voice_94 ck_X12_voice_94 ?_
          have h := Option.some.inj h
          subst h
          exact q_iretI mcap_0 rfl rfl
        · rw [if_neg c8] at h
          refine mAt.blk bk_X12_voice_72 ck_X12_voice_72 ?_
          refine q_iload_n rfl ?_
          refine q_iconst ?_
          refine q_ic_ne (fun c9 => ?_) (fun c9 => ?_)
          · rw [if_pos c9] at h
            refine q_aload_n rfl ?_
            refine q_iload rfl ?_
            refine q_iload_n rfl ?_
            obtain ⟨q11, e11, h⟩ := mbind h
            refine q_vI2 mcap_0 rfl rfl ob_93 rfl (by decide) (ok_X12_waitsFor  e11) ?_
            refine q_goto ?_
            refine mAt.blk bk_X12_voice_94 ck_X12_voice_94 ?_
            have h := Option.some.inj h
            subst h
            exact q_iretI mcap_0 rfl rfl
          · rw [if_neg c9] at h
            refine mAt.blk bk_X12_voice_87 ck_X12_voice_87 ?_
            refine q_aload_n rfl ?_
            refine q_iload rfl ?_
            refine q_iload_n rfl ?_
            obtain ⟨q10, e10, h⟩ := mbind h
            refine q_vI2 mcap_0 rfl rfl ob_93 rfl (by decide) (ok_X12_tells  e10) ?_
            refine mAt.blk bk_X12_voice_94 ck_X12_voice_94 ?_
            have h := Option.some.inj h
            subst h
            exact q_iretI mcap_0 rfl rfl
def bk_X12_trace_0 : List mI := [(.iload_n 1, 1, 0, 0, 0, []), (.i2l, 1, 0, 0, 0, []), (.lconst 0, 1, 0, 0, 0, [(0, 0)]), (.aload_n 0, 1, 0, 0, 0, []), (.getfield 256, 3, 12, 15, 952, []), (.iconst 1, 1, 0, 0, 0, [(1, 0)]), (.isub, 1, 0, 0, 0, []), (.i2l, 1, 0, 0, 0, []), (.invokestatic 48, 3, 135, 0, 1007, []), (.ifCond .eq 12, 3, 25, 0, 0, []), (.aload_n 0, 1, 0, 0, 0, []), (.getfield 32, 3, 12, 14, 951, []), (.iload_n 1, 1, 0, 0, 0, []), (.iaload, 1, 0, 0, 0, []), (.goto 8, 3, 30, 0, 0, [])]
theorem ck_X12_trace_0 : mChk 216 0 bk_X12_trace_0 = true := by decide +kernel
def bk_X12_trace_25 : List mI := [(.aload_n 0, 1, 0, 0, 0, []), (.iconst 2, 1, 0, 0, 0, [(2, 0)]), (.invokevirtual 111, 3, 134, 0, 1010, [])]
theorem ck_X12_trace_25 : mChk 216 25 bk_X12_trace_25 = true := by decide +kernel
def bk_X12_trace_30 : List mI := [(.ireturn, 1, 0, 0, 0, [])]
theorem ck_X12_trace_30 : mChk 216 30 bk_X12_trace_30 = true := by decide +kernel
def f_X12_trace (p0 : Int32) (σ : Sg) : Option (Int32 × Sg) := ((f_X12_isIn (p0).toInt64 (0 : Int32).toInt64 (((σ 93 15) - (1 : Int32))).toInt64 σ).bind fun q1 => (if q1 = 0 then ((f_X12_finds (2 : Int32) σ).bind fun q3 => (some (q3.1, q3.2))) else (if p0 < 0 ∨ 40 ≤ (p0).toNatClampNeg then none else (some ((σ 101 (p0).toNatClampNeg), σ)))))
set_option maxHeartbeats 4000000 in
theorem ok_X12_trace {L : Nat} {p0 : Int32} {σ : Sg} {R : Int32 × Sg} (h : f_X12_trace p0 σ = some R) : mEv 1 216 [.ref 93, .int p0] (mSh, L, σ) (some (.int R.1)) (mSh, L, R.2) := by
  refine mEv.of (by decide) rfl rfl ?_
  unfold f_X12_trace at h
  refine mAt.blk bk_X12_trace_0 ck_X12_trace_0 ?_
  refine q_iload_n rfl ?_
  refine q_i2l ?_
  refine q_lconst ?_
  refine q_aload_n rfl ?_
  refine q_getI ob_93 rfl ?_
  refine q_iconst ?_
  refine q_isub ?_
  refine q_i2l ?_
  obtain ⟨q1, e1, h⟩ := mbind h
  refine q_sI3 mcap_0 rfl rfl rfl rfl (by decide) (ok_X12_isIn  e1) ?_
  refine q_if_eq (fun c2 => ?_) (fun c2 => ?_)
  · rw [if_pos c2] at h
    refine mAt.blk bk_X12_trace_25 ck_X12_trace_25 ?_
    refine q_aload_n rfl ?_
    refine q_iconst ?_
    obtain ⟨q3, e3, h⟩ := mbind h
    refine q_vI1 mcap_0 rfl rfl ob_93 rfl (by decide) (ok_X12_finds  e3) ?_
    refine mAt.blk bk_X12_trace_30 ck_X12_trace_30 ?_
    have h := Option.some.inj h
    subst h
    exact q_iretI mcap_0 rfl rfl
  · rw [if_neg c2] at h
    refine q_aload_n rfl ?_
    refine q_getR ob_93 rfl rfl ?_
    refine q_iload_n rfl ?_
    obtain ⟨c4, h⟩ := mnone h
    refine q_iald (mrd ar_101 _ _) rfl c4 ?_
    refine q_goto ?_
    refine mAt.blk bk_X12_trace_30 ck_X12_trace_30 ?_
    have h := Option.some.inj h
    subst h
    exact q_iretI mcap_0 rfl rfl
def bk_X12_sheet_0 : List mI := [(.iload_n 1, 1, 0, 0, 0, []), (.invokestatic 157, 3, 217, 0, 1123, []), (.ifCond .eq 25, 3, 29, 0, 0, []), (.iload_n 2, 1, 0, 0, 0, []), (.ifCond .eq 27, 3, 35, 0, 0, []), (.iload_n 2, 1, 0, 0, 0, []), (.bipush 8, 2, 0, 0, 0, [(8, 0)]), (.if_icmp .eq 21, 3, 35, 0, 0, []), (.iload_n 2, 1, 0, 0, 0, []), (.bipush 16, 2, 0, 0, 0, [(16, 0)]), (.if_icmp .eq 15, 3, 35, 0, 0, []), (.iload_n 2, 1, 0, 0, 0, []), (.bipush 32, 2, 0, 0, 0, [(32, 0)]), (.if_icmp .eq 9, 3, 35, 0, 0, [])]
theorem ck_X12_sheet_0 : mChk 218 0 bk_X12_sheet_0 = true := by decide +kernel
def bk_X12_sheet_29 : List mI := [(.aload_n 0, 1, 0, 0, 0, []), (.iconst 1, 1, 0, 0, 0, [(1, 0)]), (.invokevirtual 111, 3, 134, 0, 1010, []), (.ireturn, 1, 0, 0, 0, [])]
theorem ck_X12_sheet_29 : mChk 218 29 bk_X12_sheet_29 = true := by decide +kernel
def bk_X12_sheet_35 : List mI := [(.iload_n 2, 1, 0, 0, 0, []), (.ifCond .eq 13, 3, 49, 0, 0, []), (.iload_n 3, 1, 0, 0, 0, []), (.ifCond .ge 9, 3, 49, 0, 0, []), (.aload_n 0, 1, 0, 0, 0, []), (.iconst 3, 1, 0, 0, 0, [(3, 0)]), (.invokevirtual 111, 3, 134, 0, 1010, []), (.ireturn, 1, 0, 0, 0, [])]
theorem ck_X12_sheet_35 : mChk 218 35 bk_X12_sheet_35 = true := by decide +kernel
def bk_X12_sheet_49 : List mI := [(.iload_n 2, 1, 0, 0, 0, []), (.ifCond .eq 15, 3, 65, 0, 0, []), (.iload_n 3, 1, 0, 0, 0, []), (.bipush 40, 2, 0, 0, 0, [(40, 0)]), (.if_icmp .le 9, 3, 65, 0, 0, []), (.aload_n 0, 1, 0, 0, 0, []), (.iconst 1, 1, 0, 0, 0, [(1, 0)]), (.invokevirtual 111, 3, 134, 0, 1010, []), (.ireturn, 1, 0, 0, 0, [])]
theorem ck_X12_sheet_49 : mChk 218 49 bk_X12_sheet_49 = true := by decide +kernel
def bk_X12_sheet_65 : List mI := [(.aload_n 0, 1, 0, 0, 0, []), (.getfield 35, 3, 12, 17, 954, []), (.iload_n 1, 1, 0, 0, 0, []), (.iload_n 2, 1, 0, 0, 0, []), (.iastore, 1, 0, 0, 0, []), (.aload_n 0, 1, 0, 0, 0, []), (.getfield 38, 3, 12, 18, 955, []), (.iload_n 1, 1, 0, 0, 0, []), (.iload_n 2, 1, 0, 0, 0, []), (.ifCond .ne 7, 3, 85, 0, 0, []), (.iconst 0, 1, 0, 0, 0, [(0, 0)]), (.goto 4, 3, 86, 0, 0, [])]
theorem ck_X12_sheet_65 : mChk 218 65 bk_X12_sheet_65 = true := by decide +kernel
def bk_X12_sheet_85 : List mI := [(.iload_n 3, 1, 0, 0, 0, [])]
theorem ck_X12_sheet_85 : mChk 218 85 bk_X12_sheet_85 = true := by decide +kernel
def bk_X12_sheet_86 : List mI := [(.iastore, 1, 0, 0, 0, []), (.iconst 0, 1, 0, 0, 0, [(0, 0)]), (.istore 4, 2, 0, 0, 0, [])]
theorem ck_X12_sheet_86 : mChk 218 86 bk_X12_sheet_86 = true := by decide +kernel
def bk_X12_sheet_90 : List mI := [(.iload 4, 2, 0, 0, 0, []), (.bipush 40, 2, 0, 0, 0, [(40, 0)]), (.if_icmp .ge 22, 3, 116, 0, 0, []), (.aload_n 0, 1, 0, 0, 0, []), (.getfield 41, 3, 12, 19, 956, []), (.bipush 40, 2, 0, 0, 0, [(40, 0)]), (.iload_n 1, 1, 0, 0, 0, []), (.imul, 1, 0, 0, 0, []), (.iload 4, 2, 0, 0, 0, []), (.iadd, 1, 0, 0, 0, []), (.iconst 0, 1, 0, 0, 0, [(0, 0)]), (.iastore, 1, 0, 0, 0, []), (.iinc 4 1, 3, 0, 0, 0, [(1, 0)]), (.goto (-23), 3, 90, 0, 0, [])]
theorem ck_X12_sheet_90 : mChk 218 90 bk_X12_sheet_90 = true := by decide +kernel
def bk_X12_sheet_116 : List mI := [(.iconst 1, 1, 0, 0, 0, [(1, 0)]), (.ireturn, 1, 0, 0, 0, [])]
theorem ck_X12_sheet_116 : mChk 218 116 bk_X12_sheet_116 = true := by decide +kernel
def c_X12_sheet_90 : Nat → Int32 → Int32 → Sg → Option (Int32 × Sg)
  | 0, _, _, _ => none
  | n + 1, x1, x4, σ => (if (40 : Int32) ≤ x4 then (some ((1 : Int32), σ)) else (if (((40 : Int32) * x1) + x4) < 0 ∨ 160 ≤ ((((40 : Int32) * x1) + x4)).toNatClampNeg then none else (c_X12_sheet_90  n x1 (x4 + (1 : Int32)) (mup σ 104 ((((40 : Int32) * x1) + x4)).toNatClampNeg (0 : Int32)))))
set_option maxHeartbeats 4000000 in
theorem okc_X12_sheet_90 {L : Nat} {R : Int32 × Sg} {n : Nat} {x1 : Int32} {x4 : Int32} {σ : Sg} {pl : mLoc} (h : c_X12_sheet_90 n x1 x4 σ = some R) (hl : mlf [some (.ref 93), some (.int x1), none, none, some (.int x4)] pl) : mAt 2 218 (some (.int R.1), (mSh, L, R.2)) 90 pl [] (mSh, L, σ) 0 0 := by
  induction n generalizing x1 x4 σ pl with
  | zero =>
    rw [c_X12_sheet_90.eq_1] at h
    cases h
  | succ n ih =>
    refine mAt.less hl ?_
    rw [c_X12_sheet_90.eq_2] at h
    refine mAt.blk bk_X12_sheet_90 ck_X12_sheet_90 ?_
    refine q_iload rfl ?_
    refine q_bipush ?_
    refine q_ic_ge (fun c10 => ?_) (fun c10 => ?_)
    · rw [if_pos c10] at h
      refine mAt.blk bk_X12_sheet_116 ck_X12_sheet_116 ?_
      refine q_iconst ?_
      have h := Option.some.inj h
      subst h
      exact q_iretI mcap_0 rfl rfl
    · rw [if_neg c10] at h
      refine q_aload_n rfl ?_
      refine q_getR ob_93 rfl rfl ?_
      refine q_bipush ?_
      refine q_iload_n rfl ?_
      refine q_imul ?_
      refine q_iload rfl ?_
      refine q_iadd ?_
      refine q_iconst ?_
      obtain ⟨c11, h⟩ := mnone h
      refine q_iast rfl ar_104 c11 ?_
      refine q_iinc rfl rfl ?_
      refine q_goto ?_
      exact ih  h ⟨rfl, rfl, rfl, trivial⟩
def c_X12_sheet_86 (x1 : Int32) (s1 : Int32) (s2 : Int32) (σ : Sg) : Option (Int32 × Sg) := (if s1 < 0 ∨ 4 ≤ (s1).toNatClampNeg then none else (c_X12_sheet_90   1000 x1 (0 : Int32) (mup σ 103 (s1).toNatClampNeg s2)))
set_option maxHeartbeats 4000000 in
theorem okc_X12_sheet_86 {L : Nat} {R : Int32 × Sg} {x1 : Int32} {s1 : Int32} {s2 : Int32} {σ : Sg} {pl : mLoc} (h : c_X12_sheet_86 x1 s1 s2 σ = some R) (hl : mlf [some (.ref 93), some (.int x1), none, none, none] pl) : mAt 2 218 (some (.int R.1), (mSh, L, R.2)) 86 pl [.int s2, .int s1, .ref 103] (mSh, L, σ) 0 0 := by
  refine mAt.less hl ?_
  unfold c_X12_sheet_86 at h
  refine mAt.blk bk_X12_sheet_86 ck_X12_sheet_86 ?_
  obtain ⟨c9, h⟩ := mnone h
  refine q_iast rfl ar_103 c9 ?_
  refine q_iconst ?_
  refine q_istore rfl rfl ?_
  exact okc_X12_sheet_90  h ⟨rfl, rfl, rfl, trivial⟩
def c_X12_sheet_65 (x1 : Int32) (x2 : Int32) (x3 : Int32) (σ : Sg) : Option (Int32 × Sg) := (if x1 < 0 ∨ 4 ≤ (x1).toNatClampNeg then none else (if x2 = 0 then (c_X12_sheet_86   x1 x1 (0 : Int32) (mup σ 102 (x1).toNatClampNeg x2)) else (c_X12_sheet_86   x1 x1 x3 (mup σ 102 (x1).toNatClampNeg x2))))
set_option maxHeartbeats 4000000 in
theorem okc_X12_sheet_65 {L : Nat} {R : Int32 × Sg} {x1 : Int32} {x2 : Int32} {x3 : Int32} {σ : Sg} {pl : mLoc} (h : c_X12_sheet_65 x1 x2 x3 σ = some R) (hl : mlf [some (.ref 93), some (.int x1), some (.int x2), some (.int x3), none] pl) : mAt 2 218 (some (.int R.1), (mSh, L, R.2)) 65 pl [] (mSh, L, σ) 0 0 := by
  refine mAt.less hl ?_
  unfold c_X12_sheet_65 at h
  refine mAt.blk bk_X12_sheet_65 ck_X12_sheet_65 ?_
  refine q_aload_n rfl ?_
  refine q_getR ob_93 rfl rfl ?_
  refine q_iload_n rfl ?_
  refine q_iload_n rfl ?_
  obtain ⟨c7, h⟩ := mnone h
  refine q_iast rfl ar_102 c7 ?_
  refine q_aload_n rfl ?_
  refine q_getR ob_93 rfl rfl ?_
  refine q_iload_n rfl ?_
  refine q_iload_n rfl ?_
  refine q_if_ne (fun c8 => ?_) (fun c8 => ?_)
  · rw [if_pos c8] at h
    refine q_iconst ?_
    refine q_goto ?_
    exact okc_X12_sheet_86  h ⟨rfl, rfl, trivial⟩
  · rw [if_neg c8] at h
    refine mAt.blk bk_X12_sheet_85 ck_X12_sheet_85 ?_
    refine q_iload_n rfl ?_
    exact okc_X12_sheet_86  h ⟨rfl, rfl, trivial⟩
def c_X12_sheet_49 (x1 : Int32) (x2 : Int32) (x3 : Int32) (σ : Sg) : Option (Int32 × Sg) := (if x2 = 0 then (c_X12_sheet_65   x1 x2 x3 σ) else (if x3 ≤ (40 : Int32) then (c_X12_sheet_65   x1 x2 x3 σ) else ((f_X12_finds (1 : Int32) σ).bind fun q6 => (some (q6.1, q6.2)))))
set_option maxHeartbeats 4000000 in
theorem okc_X12_sheet_49 {L : Nat} {R : Int32 × Sg} {x1 : Int32} {x2 : Int32} {x3 : Int32} {σ : Sg} {pl : mLoc} (h : c_X12_sheet_49 x1 x2 x3 σ = some R) (hl : mlf [some (.ref 93), some (.int x1), some (.int x2), some (.int x3), none] pl) : mAt 2 218 (some (.int R.1), (mSh, L, R.2)) 49 pl [] (mSh, L, σ) 0 0 := by
  refine mAt.less hl ?_
  unfold c_X12_sheet_49 at h
  refine mAt.blk bk_X12_sheet_49 ck_X12_sheet_49 ?_
  refine q_iload_n rfl ?_
  refine q_if_eq (fun c4 => ?_) (fun c4 => ?_)
  · rw [if_pos c4] at h
    exact okc_X12_sheet_65  h ⟨rfl, rfl, rfl, rfl, trivial⟩
  · rw [if_neg c4] at h
    refine q_iload_n rfl ?_
    refine q_bipush ?_
    refine q_ic_le (fun c5 => ?_) (fun c5 => ?_)
    · rw [if_pos c5] at h
      exact okc_X12_sheet_65  h ⟨rfl, rfl, rfl, rfl, trivial⟩
    · rw [if_neg c5] at h
      refine q_aload_n rfl ?_
      refine q_iconst ?_
      obtain ⟨q6, e6, h⟩ := mbind h
      refine q_vI1 mcap_0 rfl rfl ob_93 rfl (by decide) (ok_X12_finds  e6) ?_
      have h := Option.some.inj h
      subst h
      exact q_iretI mcap_0 rfl rfl
def c_X12_sheet_35 (x1 : Int32) (x2 : Int32) (x3 : Int32) (σ : Sg) : Option (Int32 × Sg) := (if x2 = 0 then (c_X12_sheet_49   x1 x2 x3 σ) else (if 0 ≤ x3 then (c_X12_sheet_49   x1 x2 x3 σ) else ((f_X12_finds (3 : Int32) σ).bind fun q3 => (some (q3.1, q3.2)))))
set_option maxHeartbeats 4000000 in
theorem okc_X12_sheet_35 {L : Nat} {R : Int32 × Sg} {x1 : Int32} {x2 : Int32} {x3 : Int32} {σ : Sg} {pl : mLoc} (h : c_X12_sheet_35 x1 x2 x3 σ = some R) (hl : mlf [some (.ref 93), some (.int x1), some (.int x2), some (.int x3), none] pl) : mAt 2 218 (some (.int R.1), (mSh, L, R.2)) 35 pl [] (mSh, L, σ) 0 0 := by
  refine mAt.less hl ?_
  unfold c_X12_sheet_35 at h
  refine mAt.blk bk_X12_sheet_35 ck_X12_sheet_35 ?_
  refine q_iload_n rfl ?_
  refine q_if_eq (fun c1 => ?_) (fun c1 => ?_)
  · rw [if_pos c1] at h
    exact okc_X12_sheet_49  h ⟨rfl, rfl, rfl, rfl, trivial⟩
  · rw [if_neg c1] at h
    refine q_iload_n rfl ?_
    refine q_if_ge (fun c2 => ?_) (fun c2 => ?_)
    · rw [if_pos c2] at h
      exact okc_X12_sheet_49  h ⟨rfl, rfl, rfl, rfl, trivial⟩
    · rw [if_neg c2] at h
      refine q_aload_n rfl ?_
      refine q_iconst ?_
      obtain ⟨q3, e3, h⟩ := mbind h
      refine q_vI1 mcap_0 rfl rfl ob_93 rfl (by decide) (ok_X12_finds  e3) ?_
      have h := Option.some.inj h
      subst h
      exact q_iretI mcap_0 rfl rfl
def f_X12_sheet (p0 : Int32) (p1 : Int32) (p2 : Int32) (σ : Sg) : Option (Int32 × Sg) := ((f_X12_isSheet p0 σ).bind fun q12 => (if q12 = 0 then ((f_X12_finds (1 : Int32) σ).bind fun q14 => (some (q14.1, q14.2))) else (if p1 = 0 then (c_X12_sheet_35   p0 p1 p2 σ) else (if p1 = (8 : Int32) then (c_X12_sheet_35   p0 p1 p2 σ) else (if p1 = (16 : Int32) then (c_X12_sheet_35   p0 p1 p2 σ) else (if p1 = (32 : Int32) then (c_X12_sheet_35   p0 p1 p2 σ) else ((f_X12_finds (1 : Int32) σ).bind fun q19 => (some (q19.1, q19.2)))))))))
set_option maxHeartbeats 4000000 in
theorem ok_X12_sheet {L : Nat} {p0 : Int32} {p1 : Int32} {p2 : Int32} {σ : Sg} {R : Int32 × Sg} (h : f_X12_sheet p0 p1 p2 σ = some R) : mEv 2 218 [.ref 93, .int p0, .int p1, .int p2] (mSh, L, σ) (some (.int R.1)) (mSh, L, R.2) := by
  refine mEv.of (by decide) rfl rfl ?_
  unfold f_X12_sheet at h
  refine mAt.blk bk_X12_sheet_0 ck_X12_sheet_0 ?_
  refine q_iload_n rfl ?_
  obtain ⟨q12, e12, h⟩ := mbind h
  refine q_sI1 mcap_0 rfl rfl rfl rfl (by decide) (ok_X12_isSheet  e12) ?_
  refine q_if_eq (fun c13 => ?_) (fun c13 => ?_)
  · rw [if_pos c13] at h
    refine mAt.blk bk_X12_sheet_29 ck_X12_sheet_29 ?_
    refine q_aload_n rfl ?_
    refine q_iconst ?_
    obtain ⟨q14, e14, h⟩ := mbind h
    refine q_vI1 mcap_0 rfl rfl ob_93 rfl (by decide) (ok_X12_finds  e14) ?_
    have h := Option.some.inj h
    subst h
    exact q_iretI mcap_0 rfl rfl
  · rw [if_neg c13] at h
    refine q_iload_n rfl ?_
    refine q_if_eq (fun c15 => ?_) (fun c15 => ?_)
    · rw [if_pos c15] at h
      exact okc_X12_sheet_35  h ⟨rfl, rfl, rfl, rfl, trivial⟩
    · rw [if_neg c15] at h
      refine q_iload_n rfl ?_
      refine q_bipush ?_
      refine q_ic_eq (fun c16 => ?_) (fun c16 => ?_)
      · rw [if_pos c16] at h
        exact okc_X12_sheet_35  h ⟨rfl, rfl, rfl, rfl, trivial⟩
      · rw [if_neg c16] at h
        refine q_iload_n rfl ?_
        refine q_bipush ?_
        refine q_ic_eq (fun c17 => ?_) (fun c17 => ?_)
        · rw [if_pos c17] at h
          exact okc_X12_sheet_35  h ⟨rfl, rfl, rfl, rfl, trivial⟩
        · rw [if_neg c17] at h
          refine q_iload_n rfl ?_
          refine q_bipush ?_
          refine q_ic_eq (fun c18 => ?_) (fun c18 => ?_)
          · rw [if_pos c18] at h
            exact okc_X12_sheet_35  h ⟨rfl, rfl, rfl, rfl, trivial⟩
          · rw [if_neg c18] at h
            refine mAt.blk bk_X12_sheet_29 ck_X12_sheet_29 ?_
            refine q_aload_n rfl ?_
            refine q_iconst ?_
            obtain ⟨q19, e19, h⟩ := mbind h
            refine q_vI1 mcap_0 rfl rfl ob_93 rfl (by decide) (ok_X12_finds  e19) ?_
            have h := Option.some.inj h
            subst h
            exact q_iretI mcap_0 rfl rfl
def bk_X12_put_0 : List mI := [(.iload_n 1, 1, 0, 0, 0, []), (.invokestatic 157, 3, 217, 0, 1123, []), (.ifCond .ne 9, 3, 13, 0, 0, []), (.aload_n 0, 1, 0, 0, 0, []), (.iconst 1, 1, 0, 0, 0, [(1, 0)]), (.invokevirtual 111, 3, 134, 0, 1010, []), (.ireturn, 1, 0, 0, 0, [])]
theorem ck_X12_put_0 : mChk 219 0 bk_X12_put_0 = true := by decide +kernel
def bk_X12_put_13 : List mI := [(.aload_n 0, 1, 0, 0, 0, []), (.getfield 35, 3, 12, 17, 954, []), (.iload_n 1, 1, 0, 0, 0, []), (.iaload, 1, 0, 0, 0, []), (.ifCond .ne 9, 3, 28, 0, 0, []), (.aload_n 0, 1, 0, 0, 0, []), (.iconst 2, 1, 0, 0, 0, [(2, 0)]), (.invokevirtual 111, 3, 134, 0, 1010, []), (.ireturn, 1, 0, 0, 0, [])]
theorem ck_X12_put_13 : mChk 219 13 bk_X12_put_13 = true := by decide +kernel
def bk_X12_put_28 : List mI := [(.iload_n 2, 1, 0, 0, 0, []), (.i2l, 1, 0, 0, 0, []), (.lconst 0, 1, 0, 0, 0, [(0, 0)]), (.aload_n 0, 1, 0, 0, 0, []), (.getfield 38, 3, 12, 18, 955, []), (.iload_n 1, 1, 0, 0, 0, []), (.iaload, 1, 0, 0, 0, []), (.iconst 1, 1, 0, 0, 0, [(1, 0)]), (.isub, 1, 0, 0, 0, []), (.i2l, 1, 0, 0, 0, []), (.invokestatic 48, 3, 135, 0, 1007, []), (.ifCond .ne 9, 3, 52, 0, 0, []), (.aload_n 0, 1, 0, 0, 0, []), (.iconst 1, 1, 0, 0, 0, [(1, 0)]), (.invokevirtual 111, 3, 134, 0, 1010, []), (.ireturn, 1, 0, 0, 0, [])]
theorem ck_X12_put_28 : mChk 219 28 bk_X12_put_28 = true := by decide +kernel
def bk_X12_put_52 : List mI := [(.aload_n 0, 1, 0, 0, 0, []), (.getfield 41, 3, 12, 19, 956, []), (.bipush 40, 2, 0, 0, 0, [(40, 0)]), (.iload_n 1, 1, 0, 0, 0, []), (.imul, 1, 0, 0, 0, []), (.iload_n 2, 1, 0, 0, 0, []), (.iadd, 1, 0, 0, 0, []), (.aload_n 0, 1, 0, 0, 0, []), (.getfield 35, 3, 12, 17, 954, []), (.iload_n 1, 1, 0, 0, 0, []), (.iaload, 1, 0, 0, 0, []), (.bipush 8, 2, 0, 0, 0, [(8, 0)]), (.if_icmp .ne 8, 3, 78, 0, 0, []), (.iload_n 3, 1, 0, 0, 0, []), (.i2b, 1, 0, 0, 0, []), (.goto 20, 3, 95, 0, 0, [])]
theorem ck_X12_put_52 : mChk 219 52 bk_X12_put_52 = true := by decide +kernel
def bk_X12_put_78 : List mI := [(.aload_n 0, 1, 0, 0, 0, []), (.getfield 35, 3, 12, 17, 954, []), (.iload_n 1, 1, 0, 0, 0, []), (.iaload, 1, 0, 0, 0, []), (.bipush 16, 2, 0, 0, 0, [(16, 0)]), (.if_icmp .ne 8, 3, 94, 0, 0, []), (.iload_n 3, 1, 0, 0, 0, []), (.i2s, 1, 0, 0, 0, []), (.goto 4, 3, 95, 0, 0, [])]
theorem ck_X12_put_78 : mChk 219 78 bk_X12_put_78 = true := by decide +kernel
def bk_X12_put_94 : List mI := [(.iload_n 3, 1, 0, 0, 0, [])]
theorem ck_X12_put_94 : mChk 219 94 bk_X12_put_94 = true := by decide +kernel
def bk_X12_put_95 : List mI := [(.iastore, 1, 0, 0, 0, []), (.iconst 1, 1, 0, 0, 0, [(1, 0)]), (.ireturn, 1, 0, 0, 0, [])]
theorem ck_X12_put_95 : mChk 219 95 bk_X12_put_95 = true := by decide +kernel
def f_X12_put (p0 : Int32) (p1 : Int32) (p2 : Int32) (σ : Sg) : Option (Int32 × Sg) := ((f_X12_isSheet p0 σ).bind fun q1 => (if q1 = 0 then ((f_X12_finds (1 : Int32) σ).bind fun q17 => (some (q17.1, q17.2))) else (if p0 < 0 ∨ 4 ≤ (p0).toNatClampNeg then none else (if (σ 102 (p0).toNatClampNeg) = 0 then ((f_X12_finds (2 : Int32) σ).bind fun q16 => (some (q16.1, q16.2))) else (if p0 < 0 ∨ 4 ≤ (p0).toNatClampNeg then none else ((f_X12_isIn (p1).toInt64 (0 : Int32).toInt64 (((σ 103 (p0).toNatClampNeg) - (1 : Int32))).toInt64 σ).bind fun q6 => (if q6 = 0 then ((f_X12_finds (1 : Int32) σ).bind fun q15 => (some (q15.1, q15.2))) else (if p0 < 0 ∨ 4 ≤ (p0).toNatClampNeg then none else (if (σ 102 (p0).toNatClampNeg) = (8 : Int32) then (if (((40 : Int32) * p0) + p1) < 0 ∨ 160 ≤ ((((40 : Int32) * p0) + p1)).toNatClampNeg then none else (some ((1 : Int32), (mup σ 104 ((((40 : Int32) * p0) + p1)).toNatClampNeg (p2).toInt8.toInt32)))) else (if p0 < 0 ∨ 4 ≤ (p0).toNatClampNeg then none else (if (σ 102 (p0).toNatClampNeg) = (16 : Int32) then (if (((40 : Int32) * p0) + p1) < 0 ∨ 160 ≤ ((((40 : Int32) * p0) + p1)).toNatClampNeg then none else (some ((1 : Int32), (mup σ 104 ((((40 : Int32) * p0) + p1)).toNatClampNeg (p2).toInt16.toInt32)))) else (if (((40 : Int32) * p0) + p1) < 0 ∨ 160 ≤ ((((40 : Int32) * p0) + p1)).toNatClampNeg then none else (some ((1 : Int32), (mup σ 104 ((((40 : Int32) * p0) + p1)).toNatClampNeg p2)))))))))))))))
set_option maxHeartbeats 4000000 in
theorem ok_X12_put {L : Nat} {p0 : Int32} {p1 : Int32} {p2 : Int32} {σ : Sg} {R : Int32 × Sg} (h : f_X12_put p0 p1 p2 σ = some R) : mEv 2 219 [.ref 93, .int p0, .int p1, .int p2] (mSh, L, σ) (some (.int R.1)) (mSh, L, R.2) := by
  refine mEv.of (by decide) rfl rfl ?_
  unfold f_X12_put at h
  refine mAt.blk bk_X12_put_0 ck_X12_put_0 ?_
  refine q_iload_n rfl ?_
  obtain ⟨q1, e1, h⟩ := mbind h
  refine q_sI1 mcap_0 rfl rfl rfl rfl (by decide) (ok_X12_isSheet  e1) ?_
  refine q_if_ne (fun c2 => ?_) (fun c2 => ?_)
  · rw [if_pos c2] at h
    refine q_aload_n rfl ?_
    refine q_iconst ?_
    obtain ⟨q17, e17, h⟩ := mbind h
    refine q_vI1 mcap_0 rfl rfl ob_93 rfl (by decide) (ok_X12_finds  e17) ?_
    have h := Option.some.inj h
    subst h
    exact q_iretI mcap_0 rfl rfl
  · rw [if_neg c2] at h
    refine mAt.blk bk_X12_put_13 ck_X12_put_13 ?_
    refine q_aload_n rfl ?_
    refine q_getR ob_93 rfl rfl ?_
    refine q_iload_n rfl ?_
    obtain ⟨c3, h⟩ := mnone h
    refine q_iald (mrd ar_102 _ _) rfl c3 ?_
    refine q_if_ne (fun c4 => ?_) (fun c4 => ?_)
    · rw [if_pos c4] at h
      refine q_aload_n rfl ?_
      refine q_iconst ?_
      obtain ⟨q16, e16, h⟩ := mbind h
      refine q_vI1 mcap_0 rfl rfl ob_93 rfl (by decide) (ok_X12_finds  e16) ?_
      have h := Option.some.inj h
      subst h
      exact q_iretI mcap_0 rfl rfl
    · rw [if_neg c4] at h
      refine mAt.blk bk_X12_put_28 ck_X12_put_28 ?_
      refine q_iload_n rfl ?_
      refine q_i2l ?_
      refine q_lconst ?_
      refine q_aload_n rfl ?_
      refine q_getR ob_93 rfl rfl ?_
      refine q_iload_n rfl ?_
      obtain ⟨c5, h⟩ := mnone h
      refine q_iald (mrd ar_103 _ _) rfl c5 ?_
      refine q_iconst ?_
      refine q_isub ?_
      refine q_i2l ?_
      obtain ⟨q6, e6, h⟩ := mbind h
      refine q_sI3 mcap_0 rfl rfl rfl rfl (by decide) (ok_X12_isIn  e6) ?_
      refine q_if_ne (fun c7 => ?_) (fun c7 => ?_)
      · rw [if_pos c7] at h
        refine q_aload_n rfl ?_
        refine q_iconst ?_
        obtain ⟨q15, e15, h⟩ := mbind h
        refine q_vI1 mcap_0 rfl rfl ob_93 rfl (by decide) (ok_X12_finds  e15) ?_
        have h := Option.some.inj h
        subst h
        exact q_iretI mcap_0 rfl rfl
      · rw [if_neg c7] at h
        refine mAt.blk bk_X12_put_52 ck_X12_put_52 ?_
        refine q_aload_n rfl ?_
        refine q_getR ob_93 rfl rfl ?_
        refine q_bipush ?_
        refine q_iload_n rfl ?_
        refine q_imul ?_
        refine q_iload_n rfl ?_
        refine q_iadd ?_
        refine q_aload_n rfl ?_
        refine q_getR ob_93 rfl rfl ?_
        refine q_iload_n rfl ?_
        obtain ⟨c8, h⟩ := mnone h
        refine q_iald (mrd ar_102 _ _) rfl c8 ?_
        refine q_bipush ?_
        refine q_ic_ne (fun c9 => ?_) (fun c9 => ?_)
        · rw [if_pos c9] at h
          refine q_iload_n rfl ?_
          refine q_i2b ?_
          refine q_goto ?_
          refine mAt.blk bk_X12_put_95 ck_X12_put_95 ?_
          obtain ⟨c14, h⟩ := mnone h
          refine q_iast rfl ar_104 c14 ?_
          refine q_iconst ?_
          have h := Option.some.inj h
          subst h
          exact q_iretI mcap_0 rfl rfl
        · rw [if_neg c9] at h
          refine mAt.blk bk_X12_put_78 ck_X12_put_78 ?_
          refine q_aload_n rfl ?_
          refine q_getR ob_93 rfl rfl ?_
          refine q_iload_n rfl ?_
          obtain ⟨c10, h⟩ := mnone h
          refine q_iald (mrd ar_102 _ _) rfl c10 ?_
          refine q_bipush ?_
          refine q_ic_ne (fun c11 => ?_) (fun c11 => ?_)
          · rw [if_pos c11] at h
            refine q_iload_n rfl ?_
            refine q_i2s ?_
            refine q_goto ?_
            refine mAt.blk bk_X12_put_95 ck_X12_put_95 ?_
            obtain ⟨c13, h⟩ := mnone h
            refine q_iast rfl ar_104 c13 ?_
            refine q_iconst ?_
            have h := Option.some.inj h
            subst h
            exact q_iretI mcap_0 rfl rfl
          · rw [if_neg c11] at h
            refine mAt.blk bk_X12_put_94 ck_X12_put_94 ?_
            refine q_iload_n rfl ?_
            refine mAt.blk bk_X12_put_95 ck_X12_put_95 ?_
            obtain ⟨c12, h⟩ := mnone h
            refine q_iast rfl ar_104 c12 ?_
            refine q_iconst ?_
            have h := Option.some.inj h
            subst h
            exact q_iretI mcap_0 rfl rfl
def bk_X12_move_0 : List mI := [(.iload_n 1, 1, 0, 0, 0, []), (.invokestatic 157, 3, 217, 0, 1123, []), (.ifCond .eq 10, 3, 14, 0, 0, []), (.iload_n 3, 1, 0, 0, 0, []), (.invokestatic 157, 3, 217, 0, 1123, []), (.ifCond .ne 9, 3, 20, 0, 0, [])]
theorem ck_X12_move_0 : mChk 220 0 bk_X12_move_0 = true := by decide +kernel
def bk_X12_move_14 : List mI := [(.aload_n 0, 1, 0, 0, 0, []), (.iconst 1, 1, 0, 0, 0, [(1, 0)]), (.invokevirtual 111, 3, 134, 0, 1010, []), (.ireturn, 1, 0, 0, 0, [])]
theorem ck_X12_move_14 : mChk 220 14 bk_X12_move_14 = true := by decide +kernel
def bk_X12_move_20 : List mI := [(.aload_n 0, 1, 0, 0, 0, []), (.getfield 35, 3, 12, 17, 954, []), (.iload_n 1, 1, 0, 0, 0, []), (.iaload, 1, 0, 0, 0, []), (.ifCond .eq 12, 3, 38, 0, 0, []), (.aload_n 0, 1, 0, 0, 0, []), (.getfield 35, 3, 12, 17, 954, []), (.iload_n 3, 1, 0, 0, 0, []), (.iaload, 1, 0, 0, 0, []), (.ifCond .ne 9, 3, 44, 0, 0, [])]
theorem ck_X12_move_20 : mChk 220 20 bk_X12_move_20 = true := by decide +kernel
def bk_X12_move_38 : List mI := [(.aload_n 0, 1, 0, 0, 0, []), (.iconst 2, 1, 0, 0, 0, [(2, 0)]), (.invokevirtual 111, 3, 134, 0, 1010, []), (.ireturn, 1, 0, 0, 0, [])]
theorem ck_X12_move_38 : mChk 220 38 bk_X12_move_38 = true := by decide +kernel
def bk_X12_move_44 : List mI := [(.aload_n 0, 1, 0, 0, 0, []), (.getfield 35, 3, 12, 17, 954, []), (.iload_n 1, 1, 0, 0, 0, []), (.iaload, 1, 0, 0, 0, []), (.aload_n 0, 1, 0, 0, 0, []), (.getfield 35, 3, 12, 17, 954, []), (.iload_n 3, 1, 0, 0, 0, []), (.iaload, 1, 0, 0, 0, []), (.if_icmp .eq 9, 3, 65, 0, 0, []), (.aload_n 0, 1, 0, 0, 0, []), (.iconst 5, 1, 0, 0, 0, [(5, 0)]), (.invokevirtual 111, 3, 134, 0, 1010, []), (.ireturn, 1, 0, 0, 0, [])]
theorem ck_X12_move_44 : mChk 220 44 bk_X12_move_44 = true := by decide +kernel
def bk_X12_move_65 : List mI := [(.iload 5, 2, 0, 0, 0, []), (.ifCond .lt 39, 3, 106, 0, 0, []), (.iload_n 2, 1, 0, 0, 0, []), (.ifCond .lt 35, 3, 106, 0, 0, []), (.iload 4, 2, 0, 0, 0, []), (.ifCond .lt 30, 3, 106, 0, 0, []), (.iload 5, 2, 0, 0, 0, []), (.aload_n 0, 1, 0, 0, 0, []), (.getfield 38, 3, 12, 18, 955, []), (.iload_n 1, 1, 0, 0, 0, []), (.iaload, 1, 0, 0, 0, []), (.iload_n 2, 1, 0, 0, 0, []), (.isub, 1, 0, 0, 0, []), (.if_icmp .gt 17, 3, 106, 0, 0, []), (.iload 5, 2, 0, 0, 0, []), (.aload_n 0, 1, 0, 0, 0, []), (.getfield 38, 3, 12, 18, 955, []), (.iload_n 3, 1, 0, 0, 0, []), (.iaload, 1, 0, 0, 0, []), (.iload 4, 2, 0, 0, 0, []), (.isub, 1, 0, 0, 0, []), (.if_icmp .le 9, 3, 112, 0, 0, [])]
theorem ck_X12_move_65 : mChk 220 65 bk_X12_move_65 = true := by decide +kernel
def bk_X12_move_106 : List mI := [(.aload_n 0, 1, 0, 0, 0, []), (.iconst 1, 1, 0, 0, 0, [(1, 0)]), (.invokevirtual 111, 3, 134, 0, 1010, []), (.ireturn, 1, 0, 0, 0, [])]
theorem ck_X12_move_106 : mChk 220 106 bk_X12_move_106 = true := by decide +kernel
def bk_X12_move_112 : List mI := [(.iconst 0, 1, 0, 0, 0, [(0, 0)]), (.istore 6, 2, 0, 0, 0, [])]
theorem ck_X12_move_112 : mChk 220 112 bk_X12_move_112 = true := by decide +kernel
def bk_X12_move_115 : List mI := [(.iload 6, 2, 0, 0, 0, []), (.iload 5, 2, 0, 0, 0, []), (.if_icmp .ge 30, 3, 149, 0, 0, []), (.aload_n 0, 1, 0, 0, 0, []), (.getfield 44, 3, 12, 20, 957, []), (.iload 6, 2, 0, 0, 0, []), (.aload_n 0, 1, 0, 0, 0, []), (.getfield 41, 3, 12, 19, 956, []), (.bipush 40, 2, 0, 0, 0, [(40, 0)]), (.iload_n 1, 1, 0, 0, 0, []), (.imul, 1, 0, 0, 0, []), (.iload_n 2, 1, 0, 0, 0, []), (.iadd, 1, 0, 0, 0, []), (.iload 6, 2, 0, 0, 0, []), (.iadd, 1, 0, 0, 0, []), (.iaload, 1, 0, 0, 0, []), (.iastore, 1, 0, 0, 0, []), (.iinc 6 1, 3, 0, 0, 0, [(1, 0)]), (.goto (-31), 3, 115, 0, 0, [])]
theorem ck_X12_move_115 : mChk 220 115 bk_X12_move_115 = true := by decide +kernel
def bk_X12_move_149 : List mI := [(.iconst 0, 1, 0, 0, 0, [(0, 0)]), (.istore 6, 2, 0, 0, 0, [])]
theorem ck_X12_move_149 : mChk 220 149 bk_X12_move_149 = true := by decide +kernel
def bk_X12_move_152 : List mI := [(.iload 6, 2, 0, 0, 0, []), (.iload 5, 2, 0, 0, 0, []), (.if_icmp .ge 31, 3, 187, 0, 0, []), (.aload_n 0, 1, 0, 0, 0, []), (.getfield 41, 3, 12, 19, 956, []), (.bipush 40, 2, 0, 0, 0, [(40, 0)]), (.iload_n 3, 1, 0, 0, 0, []), (.imul, 1, 0, 0, 0, []), (.iload 4, 2, 0, 0, 0, []), (.iadd, 1, 0, 0, 0, []), (.iload 6, 2, 0, 0, 0, []), (.iadd, 1, 0, 0, 0, []), (.aload_n 0, 1, 0, 0, 0, []), (.getfield 44, 3, 12, 20, 957, []), (.iload 6, 2, 0, 0, 0, []), (.iaload, 1, 0, 0, 0, []), (.iastore, 1, 0, 0, 0, []), (.iinc 6 1, 3, 0, 0, 0, [(1, 0)]), (.goto (-32), 3, 152, 0, 0, [])]
theorem ck_X12_move_152 : mChk 220 152 bk_X12_move_152 = true := by decide +kernel
def bk_X12_move_187 : List mI := [(.iload 5, 2, 0, 0, 0, []), (.ireturn, 1, 0, 0, 0, [])]
theorem ck_X12_move_187 : mChk 220 187 bk_X12_move_187 = true := by decide +kernel
def c_X12_move_152 : Nat → Int32 → Int32 → Int32 → Int32 → Sg → Option (Int32 × Sg)
  | 0, _, _, _, _, _ => none
  | n + 1, x3, x4, x5, x6, σ => (if x5 ≤ x6 then (some (x5, σ)) else (if x6 < 0 ∨ 40 ≤ (x6).toNatClampNeg then none else (if ((((40 : Int32) * x3) + x4) + x6) < 0 ∨ 160 ≤ (((((40 : Int32) * x3) + x4) + x6)).toNatClampNeg then none else (c_X12_move_152  n x3 x4 x5 (x6 + (1 : Int32)) (mup σ 104 (((((40 : Int32) * x3) + x4) + x6)).toNatClampNeg (σ 105 (x6).toNatClampNeg))))))
set_option maxHeartbeats 4000000 in
theorem okc_X12_move_152 {L : Nat} {R : Int32 × Sg} {n : Nat} {x3 : Int32} {x4 : Int32} {x5 : Int32} {x6 : Int32} {σ : Sg} {pl : mLoc} (h : c_X12_move_152 n x3 x4 x5 x6 σ = some R) (hl : mlf [some (.ref 93), none, none, some (.int x3), some (.int x4), some (.int x5), some (.int x6)] pl) : mAt 2 220 (some (.int R.1), (mSh, L, R.2)) 152 pl [] (mSh, L, σ) 0 0 := by
  induction n generalizing x3 x4 x5 x6 σ pl with
  | zero =>
    rw [c_X12_move_152.eq_1] at h
    cases h
  | succ n ih =>
    refine mAt.less hl ?_
    rw [c_X12_move_152.eq_2] at h
    refine mAt.blk bk_X12_move_152 ck_X12_move_152 ?_
    refine q_iload rfl ?_
    refine q_iload rfl ?_
    refine q_ic_ge (fun c4 => ?_) (fun c4 => ?_)
    · rw [if_pos c4] at h
      refine mAt.blk bk_X12_move_187 ck_X12_move_187 ?_
      refine q_iload rfl ?_
      have h := Option.some.inj h
      subst h
      exact q_iretI mcap_0 rfl rfl
    · rw [if_neg c4] at h
      refine q_aload_n rfl ?_
      refine q_getR ob_93 rfl rfl ?_
      refine q_bipush ?_
      refine q_iload_n rfl ?_
      refine q_imul ?_
      refine q_iload rfl ?_
      refine q_iadd ?_
      refine q_iload rfl ?_
      refine q_iadd ?_
      refine q_aload_n rfl ?_
      refine q_getR ob_93 rfl rfl ?_
      refine q_iload rfl ?_
      obtain ⟨c5, h⟩ := mnone h
      refine q_iald (mrd ar_105 _ _) rfl c5 ?_
      obtain ⟨c6, h⟩ := mnone h
      refine q_iast rfl ar_104 c6 ?_
      refine q_iinc rfl rfl ?_
      refine q_goto ?_
      exact ih  h ⟨rfl, rfl, rfl, rfl, rfl, trivial⟩
def c_X12_move_149 (x3 : Int32) (x4 : Int32) (x5 : Int32) (σ : Sg) : Option (Int32 × Sg) := (c_X12_move_152   1000 x3 x4 x5 (0 : Int32) σ)
set_option maxHeartbeats 4000000 in
theorem okc_X12_move_149 {L : Nat} {R : Int32 × Sg} {x3 : Int32} {x4 : Int32} {x5 : Int32} {σ : Sg} {pl : mLoc} (h : c_X12_move_149 x3 x4 x5 σ = some R) (hl : mlf [some (.ref 93), none, none, some (.int x3), some (.int x4), some (.int x5), none] pl) : mAt 2 220 (some (.int R.1), (mSh, L, R.2)) 149 pl [] (mSh, L, σ) 0 0 := by
  refine mAt.less hl ?_
  unfold c_X12_move_149 at h
  refine mAt.blk bk_X12_move_149 ck_X12_move_149 ?_
  refine q_iconst ?_
  refine q_istore rfl rfl ?_
  exact okc_X12_move_152  h ⟨rfl, rfl, rfl, rfl, rfl, trivial⟩
def c_X12_move_115 : Nat → Int32 → Int32 → Int32 → Int32 → Int32 → Int32 → Sg → Option (Int32 × Sg)
  | 0, _, _, _, _, _, _, _ => none
  | n + 1, x1, x2, x3, x4, x5, x6, σ => (if x5 ≤ x6 then (c_X12_move_149   x3 x4 x5 σ) else (if ((((40 : Int32) * x1) + x2) + x6) < 0 ∨ 160 ≤ (((((40 : Int32) * x1) + x2) + x6)).toNatClampNeg then none else (if x6 < 0 ∨ 40 ≤ (x6).toNatClampNeg then none else (c_X12_move_115  n x1 x2 x3 x4 x5 (x6 + (1 : Int32)) (mup σ 105 (x6).toNatClampNeg (σ 104 (((((40 : Int32) * x1) + x2) + x6)).toNatClampNeg))))))
set_option maxHeartbeats 4000000 in
theorem okc_X12_move_115 {L : Nat} {R : Int32 × Sg} {n : Nat} {x1 : Int32} {x2 : Int32} {x3 : Int32} {x4 : Int32} {x5 : Int32} {x6 : Int32} {σ : Sg} {pl : mLoc} (h : c_X12_move_115 n x1 x2 x3 x4 x5 x6 σ = some R) (hl : mlf [some (.ref 93), some (.int x1), some (.int x2), some (.int x3), some (.int x4), some (.int x5), some (.int x6)] pl) : mAt 2 220 (some (.int R.1), (mSh, L, R.2)) 115 pl [] (mSh, L, σ) 0 0 := by
  induction n generalizing x1 x2 x3 x4 x5 x6 σ pl with
  | zero =>
    rw [c_X12_move_115.eq_1] at h
    cases h
  | succ n ih =>
    refine mAt.less hl ?_
    rw [c_X12_move_115.eq_2] at h
    refine mAt.blk bk_X12_move_115 ck_X12_move_115 ?_
    refine q_iload rfl ?_
    refine q_iload rfl ?_
    refine q_ic_ge (fun c1 => ?_) (fun c1 => ?_)
    · rw [if_pos c1] at h
      exact okc_X12_move_149  h ⟨rfl, rfl, rfl, rfl, trivial⟩
    · rw [if_neg c1] at h
      refine q_aload_n rfl ?_
      refine q_getR ob_93 rfl rfl ?_
      refine q_iload rfl ?_
      refine q_aload_n rfl ?_
      refine q_getR ob_93 rfl rfl ?_
      refine q_bipush ?_
      refine q_iload_n rfl ?_
      refine q_imul ?_
      refine q_iload_n rfl ?_
      refine q_iadd ?_
      refine q_iload rfl ?_
      refine q_iadd ?_
      obtain ⟨c2, h⟩ := mnone h
      refine q_iald (mrd ar_104 _ _) rfl c2 ?_
      obtain ⟨c3, h⟩ := mnone h
      refine q_iast rfl ar_105 c3 ?_
      refine q_iinc rfl rfl ?_
      refine q_goto ?_
      exact ih  h ⟨rfl, rfl, rfl, rfl, rfl, rfl, rfl, trivial⟩
def f_X12_move (p0 : Int32) (p1 : Int32) (p2 : Int32) (p3 : Int32) (p4 : Int32) (σ : Sg) : Option (Int32 × Sg) := ((f_X12_isSheet p0 σ).bind fun q7 => (if q7 = 0 then ((f_X12_finds (1 : Int32) σ).bind fun q9 => (some (q9.1, q9.2))) else ((f_X12_isSheet p2 σ).bind fun q10 => (if q10 = 0 then ((f_X12_finds (1 : Int32) σ).bind fun q34 => (some (q34.1, q34.2))) else (if p0 < 0 ∨ 4 ≤ (p0).toNatClampNeg then none else (if (σ 102 (p0).toNatClampNeg) = 0 then ((f_X12_finds (2 : Int32) σ).bind fun q14 => (some (q14.1, q14.2))) else (if p2 < 0 ∨ 4 ≤ (p2).toNatClampNeg then none else (if (σ 102 (p2).toNatClampNeg) = 0 then ((f_X12_finds (2 : Int32) σ).bind fun q33 => (some (q33.1, q33.2))) else (if p0 < 0 ∨ 4 ≤ (p0).toNatClampNeg then none else (if p2 < 0 ∨ 4 ≤ (p2).toNatClampNeg then none else (if (σ 102 (p0).toNatClampNeg) = (σ 102 (p2).toNatClampNeg) then (if p4 < 0 then ((f_X12_finds (1 : Int32) σ).bind fun q21 => (some (q21.1, q21.2))) else (if p1 < 0 then ((f_X12_finds (1 : Int32) σ).bind fun q23 => (some (q23.1, q23.2))) else (if p3 < 0 then ((f_X12_finds (1 : Int32) σ).bind fun q25 => (some (q25.1, q25.2))) else (if p0 < 0 ∨ 4 ≤ (p0).toNatClampNeg then none else (if ((σ 103 (p0).toNatClampNeg) - p1) < p4 then ((f_X12_finds (1 : Int32) σ).bind fun q28 => (some (q28.1, q28.2))) else (if p2 < 0 ∨ 4 ≤ (p2).toNatClampNeg then none else (if p4 ≤ ((σ 103 (p2).toNatClampNeg) - p3) then (c_X12_move_115   1000 p0 p1 p2 p3 p4 (0 : Int32) σ) else ((f_X12_finds (1 : Int32) σ).bind fun q31 => (some (q31.1, q31.2)))))))))) else ((f_X12_finds (5 : Int32) σ).bind fun q32 => (some (q32.1, q32.2))))))))))))))
set_option maxHeartbeats 4000000 in
theorem ok_X12_move {L : Nat} {p0 : Int32} {p1 : Int32} {p2 : Int32} {p3 : Int32} {p4 : Int32} {σ : Sg} {R : Int32 × Sg} (h : f_X12_move p0 p1 p2 p3 p4 σ = some R) : mEv 2 220 [.ref 93, .int p0, .int p1, .int p2, .int p3, .int p4] (mSh, L, σ) (some (.int R.1)) (mSh, L, R.2) := by
  refine mEv.of (by decide) rfl rfl ?_
  unfold f_X12_move at h
  refine mAt.blk bk_X12_move_0 ck_X12_move_0 ?_
  refine q_iload_n rfl ?_
  obtain ⟨q7, e7, h⟩ := mbind h
  refine q_sI1 mcap_0 rfl rfl rfl rfl (by decide) (ok_X12_isSheet  e7) ?_
  refine q_if_eq (fun c8 => ?_) (fun c8 => ?_)
  · rw [if_pos c8] at h
    refine mAt.blk bk_X12_move_14 ck_X12_move_14 ?_
    refine q_aload_n rfl ?_
    refine q_iconst ?_
    obtain ⟨q9, e9, h⟩ := mbind h
    refine q_vI1 mcap_0 rfl rfl ob_93 rfl (by decide) (ok_X12_finds  e9) ?_
    have h := Option.some.inj h
    subst h
    exact q_iretI mcap_0 rfl rfl
  · rw [if_neg c8] at h
    refine q_iload_n rfl ?_
    obtain ⟨q10, e10, h⟩ := mbind h
    refine q_sI1 mcap_0 rfl rfl rfl rfl (by decide) (ok_X12_isSheet  e10) ?_
    refine q_if_ne (fun c11 => ?_) (fun c11 => ?_)
    · rw [if_pos c11] at h
      refine mAt.blk bk_X12_move_14 ck_X12_move_14 ?_
      refine q_aload_n rfl ?_
      refine q_iconst ?_
      obtain ⟨q34, e34, h⟩ := mbind h
      refine q_vI1 mcap_0 rfl rfl ob_93 rfl (by decide) (ok_X12_finds  e34) ?_
      have h := Option.some.inj h
      subst h
      exact q_iretI mcap_0 rfl rfl
    · rw [if_neg c11] at h
      refine mAt.blk bk_X12_move_20 ck_X12_move_20 ?_
      refine q_aload_n rfl ?_
      refine q_getR ob_93 rfl rfl ?_
      refine q_iload_n rfl ?_
      obtain ⟨c12, h⟩ := mnone h
      refine q_iald (mrd ar_102 _ _) rfl c12 ?_
      refine q_if_eq (fun c13 => ?_) (fun c13 => ?_)
      · rw [if_pos c13] at h
        refine mAt.blk bk_X12_move_38 ck_X12_move_38 ?_
        refine q_aload_n rfl ?_
        refine q_iconst ?_
        obtain ⟨q14, e14, h⟩ := mbind h
        refine q_vI1 mcap_0 rfl rfl ob_93 rfl (by decide) (ok_X12_finds  e14) ?_
        have h := Option.some.inj h
        subst h
        exact q_iretI mcap_0 rfl rfl
      · rw [if_neg c13] at h
        refine q_aload_n rfl ?_
        refine q_getR ob_93 rfl rfl ?_
        refine q_iload_n rfl ?_
        obtain ⟨c15, h⟩ := mnone h
        refine q_iald (mrd ar_102 _ _) rfl c15 ?_
        refine q_if_ne (fun c16 => ?_) (fun c16 => ?_)
        · rw [if_pos c16] at h
          refine mAt.blk bk_X12_move_38 ck_X12_move_38 ?_
          refine q_aload_n rfl ?_
          refine q_iconst ?_
          obtain ⟨q33, e33, h⟩ := mbind h
          refine q_vI1 mcap_0 rfl rfl ob_93 rfl (by decide) (ok_X12_finds  e33) ?_
          have h := Option.some.inj h
          subst h
          exact q_iretI mcap_0 rfl rfl
        · rw [if_neg c16] at h
          refine mAt.blk bk_X12_move_44 ck_X12_move_44 ?_
          refine q_aload_n rfl ?_
          refine q_getR ob_93 rfl rfl ?_
          refine q_iload_n rfl ?_
          obtain ⟨c17, h⟩ := mnone h
          refine q_iald (mrd ar_102 _ _) rfl c17 ?_
          refine q_aload_n rfl ?_
          refine q_getR ob_93 rfl rfl ?_
          refine q_iload_n rfl ?_
          obtain ⟨c18, h⟩ := mnone h
          refine q_iald (mrd ar_102 _ _) rfl c18 ?_
          refine q_ic_eq (fun c19 => ?_) (fun c19 => ?_)
          · rw [if_pos c19] at h
            refine mAt.blk bk_X12_move_65 ck_X12_move_65 ?_
            refine q_iload rfl ?_
            refine q_if_lt (fun c20 => ?_) (fun c20 => ?_)
            · rw [if_pos c20] at h
              refine mAt.blk bk_X12_move_106 ck_X12_move_106 ?_
              refine q_aload_n rfl ?_
              refine q_iconst ?_
              obtain ⟨q21, e21, h⟩ := mbind h
              refine q_vI1 mcap_0 rfl rfl ob_93 rfl (by decide) (ok_X12_finds  e21) ?_
              have h := Option.some.inj h
              subst h
              exact q_iretI mcap_0 rfl rfl
            · rw [if_neg c20] at h
              refine q_iload_n rfl ?_
              refine q_if_lt (fun c22 => ?_) (fun c22 => ?_)
              · rw [if_pos c22] at h
                refine mAt.blk bk_X12_move_106 ck_X12_move_106 ?_
                refine q_aload_n rfl ?_
                refine q_iconst ?_
                obtain ⟨q23, e23, h⟩ := mbind h
                refine q_vI1 mcap_0 rfl rfl ob_93 rfl (by decide) (ok_X12_finds  e23) ?_
                have h := Option.some.inj h
                subst h
                exact q_iretI mcap_0 rfl rfl
              · rw [if_neg c22] at h
                refine q_iload rfl ?_
                refine q_if_lt (fun c24 => ?_) (fun c24 => ?_)
                · rw [if_pos c24] at h
                  refine mAt.blk bk_X12_move_106 ck_X12_move_106 ?_
                  refine q_aload_n rfl ?_
                  refine q_iconst ?_
                  obtain ⟨q25, e25, h⟩ := mbind h
                  refine q_vI1 mcap_0 rfl rfl ob_93 rfl (by decide) (ok_X12_finds  e25) ?_
                  have h := Option.some.inj h
                  subst h
                  exact q_iretI mcap_0 rfl rfl
                · rw [if_neg c24] at h
                  refine q_iload rfl ?_
                  refine q_aload_n rfl ?_
                  refine q_getR ob_93 rfl rfl ?_
                  refine q_iload_n rfl ?_
                  obtain ⟨c26, h⟩ := mnone h
                  refine q_iald (mrd ar_103 _ _) rfl c26 ?_
                  refine q_iload_n rfl ?_
                  refine q_isub ?_
                  refine q_ic_gt (fun c27 => ?_) (fun c27 => ?_)
                  · rw [if_pos c27] at h
                    refine mAt.blk bk_X12_move_106 ck_X12_move_106 ?_
                    refine q_aload_n rfl ?_
                    refine q_iconst ?_
                    obtain ⟨q28, e28, h⟩ := mbind h
                    refine q_vI1 mcap_0 rfl rfl ob_93 rfl (by decide) (ok_X12_finds  e28) ?_
                    have h := Option.some.inj h
                    subst h
                    exact q_iretI mcap_0 rfl rfl
                  · rw [if_neg c27] at h
                    refine q_iload rfl ?_
                    refine q_aload_n rfl ?_
                    refine q_getR ob_93 rfl rfl ?_
                    refine q_iload_n rfl ?_
                    obtain ⟨c29, h⟩ := mnone h
                    refine q_iald (mrd ar_103 _ _) rfl c29 ?_
                    refine q_iload rfl ?_
                    refine q_isub ?_
                    refine q_ic_le (fun c30 => ?_) (fun c30 => ?_)
                    · rw [if_pos c30] at h
                      refine mAt.blk bk_X12_move_112 ck_X12_move_112 ?_
                      refine q_iconst ?_
                      refine q_istore rfl rfl ?_
                      exact okc_X12_move_115  h ⟨rfl, rfl, rfl, rfl, rfl, rfl, rfl, trivial⟩
                    · rw [if_neg c30] at h
                      refine mAt.blk bk_X12_move_106 ck_X12_move_106 ?_
                      refine q_aload_n rfl ?_
                      refine q_iconst ?_
                      obtain ⟨q31, e31, h⟩ := mbind h
                      refine q_vI1 mcap_0 rfl rfl ob_93 rfl (by decide) (ok_X12_finds  e31) ?_
                      have h := Option.some.inj h
                      subst h
                      exact q_iretI mcap_0 rfl rfl
          · rw [if_neg c19] at h
            refine q_aload_n rfl ?_
            refine q_iconst ?_
            obtain ⟨q32, e32, h⟩ := mbind h
            refine q_vI1 mcap_0 rfl rfl ob_93 rfl (by decide) (ok_X12_finds  e32) ?_
            have h := Option.some.inj h
            subst h
            exact q_iretI mcap_0 rfl rfl
