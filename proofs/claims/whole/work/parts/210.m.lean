def bk_X12_nameOf_0 : List mI := [(.iload_n 1, 1, 0, 0, 0, []), (.bipush 119, 2, 0, 0, 0, [(119, 0)]), (.if_icmp .ne 7, 3, 10, 0, 0, []), (.iconst 0, 1, 0, 0, 0, [(0, 0)]), (.goto 46, 3, 53, 0, 0, [])]
theorem ck_X12_nameOf_0 : mChk 145 0 bk_X12_nameOf_0 = true := by decide +kernel
def bk_X12_nameOf_10 : List mI := [(.iload_n 1, 1, 0, 0, 0, []), (.bipush 107, 2, 0, 0, 0, [(107, 0)]), (.if_icmp .ne 7, 3, 20, 0, 0, []), (.iconst 1, 1, 0, 0, 0, [(1, 0)]), (.goto 36, 3, 53, 0, 0, [])]
theorem ck_X12_nameOf_10 : mChk 145 10 bk_X12_nameOf_10 = true := by decide +kernel
def bk_X12_nameOf_20 : List mI := [(.iload_n 1, 1, 0, 0, 0, []), (.bipush 116, 2, 0, 0, 0, [(116, 0)]), (.if_icmp .ne 7, 3, 30, 0, 0, []), (.iconst 2, 1, 0, 0, 0, [(2, 0)]), (.goto 26, 3, 53, 0, 0, [])]
theorem ck_X12_nameOf_20 : mChk 145 20 bk_X12_nameOf_20 = true := by decide +kernel
def bk_X12_nameOf_30 : List mI := [(.iload_n 1, 1, 0, 0, 0, []), (.aload_n 0, 1, 0, 0, 0, []), (.getfield 69, 3, 12, 10, 947, []), (.ifCond .eq 8, 3, 43, 0, 0, []), (.bipush 109, 2, 0, 0, 0, [(109, 0)]), (.goto 5, 3, 45, 0, 0, [])]
theorem ck_X12_nameOf_30 : mChk 145 30 bk_X12_nameOf_30 = true := by decide +kernel
def bk_X12_nameOf_43 : List mI := [(.bipush 115, 2, 0, 0, 0, [(115, 0)])]
theorem ck_X12_nameOf_43 : mChk 145 43 bk_X12_nameOf_43 = true := by decide +kernel
def bk_X12_nameOf_45 : List mI := [(.if_icmp .ne 7, 3, 52, 0, 0, []), (.iconst 3, 1, 0, 0, 0, [(3, 0)]), (.goto 4, 3, 53, 0, 0, [])]
theorem ck_X12_nameOf_45 : mChk 145 45 bk_X12_nameOf_45 = true := by decide +kernel
def bk_X12_nameOf_52 : List mI := [(.iconst (-1), 1, 0, 0, 0, [((-1), 0)])]
theorem ck_X12_nameOf_52 : mChk 145 52 bk_X12_nameOf_52 = true := by decide +kernel
def bk_X12_nameOf_53 : List mI := [(.ireturn, 1, 0, 0, 0, [])]
theorem ck_X12_nameOf_53 : mChk 145 53 bk_X12_nameOf_53 = true := by decide +kernel
def c_X12_nameOf_45 (σ : Sg) (s0 : Int32) (s1 : Int32) : Option (Int32) := (if s0 = s1 then (some (3 : Int32)) else (some (-1 : Int32)))
set_option maxHeartbeats 4000000 in
theorem okc_X12_nameOf_45 {L : Nat} {σ : Sg} {R : Int32} {s0 : Int32} {s1 : Int32} {pl : mLoc} (h : c_X12_nameOf_45 σ s0 s1 = some R) (hl : mlf [none, none] pl) : mAt 0 145 (some (.int R), (mSh, L, σ)) 45 pl [.int s1, .int s0] (mSh, L, σ) 0 0 := by
  refine mAt.less hl ?_
  unfold c_X12_nameOf_45 at h
  refine mAt.blk bk_X12_nameOf_45 ck_X12_nameOf_45 ?_
  refine q_ic_ne (fun c1 => ?_) (fun c1 => ?_)
  · rw [if_pos c1] at h
    refine q_iconst ?_
    refine q_goto ?_
    refine mAt.blk bk_X12_nameOf_53 ck_X12_nameOf_53 ?_
    have h := Option.some.inj h
    subst h
    exact q_iretI mcap_0 rfl rfl
  · rw [if_neg c1] at h
    refine mAt.blk bk_X12_nameOf_52 ck_X12_nameOf_52 ?_
    refine q_iconst ?_
    refine mAt.blk bk_X12_nameOf_53 ck_X12_nameOf_53 ?_
    have h := Option.some.inj h
    subst h
    exact q_iretI mcap_0 rfl rfl
def f_X12_nameOf (p0 : Int32) (σ : Sg) : Option (Int32) := (if p0 = (119 : Int32) then (some (0 : Int32)) else (if p0 = (107 : Int32) then (some (1 : Int32)) else (if p0 = (116 : Int32) then (some (2 : Int32)) else (if (σ 93 10) = 0 then (c_X12_nameOf_45  σ p0 (115 : Int32)) else (c_X12_nameOf_45  σ p0 (109 : Int32))))))
set_option maxHeartbeats 4000000 in
theorem ok_X12_nameOf {L : Nat} {p0 : Int32} {σ : Sg} {R : Int32} (h : f_X12_nameOf p0 σ = some R) : mEv 0 145 [.ref 93, .int p0] (mSh, L, σ) (some (.int R)) (mSh, L, σ) := by
  refine mEv.of (by decide) rfl rfl ?_
  unfold f_X12_nameOf at h
  refine mAt.blk bk_X12_nameOf_0 ck_X12_nameOf_0 ?_
  refine q_iload_n rfl ?_
  refine q_bipush ?_
  refine q_ic_ne (fun c2 => ?_) (fun c2 => ?_)
  · rw [if_pos c2] at h
    refine q_iconst ?_
    refine q_goto ?_
    refine mAt.blk bk_X12_nameOf_53 ck_X12_nameOf_53 ?_
    have h := Option.some.inj h
    subst h
    exact q_iretI mcap_0 rfl rfl
  · rw [if_neg c2] at h
    refine mAt.blk bk_X12_nameOf_10 ck_X12_nameOf_10 ?_
    refine q_iload_n rfl ?_
    refine q_bipush ?_
    refine q_ic_ne (fun c3 => ?_) (fun c3 => ?_)
    · rw [if_pos c3] at h
      refine q_iconst ?_
      refine q_goto ?_
      refine mAt.blk bk_X12_nameOf_53 ck_X12_nameOf_53 ?_
      have h := Option.some.inj h
      subst h
      exact q_iretI mcap_0 rfl rfl
    · rw [if_neg c3] at h
      refine mAt.blk bk_X12_nameOf_20 ck_X12_nameOf_20 ?_
      refine q_iload_n rfl ?_
      refine q_bipush ?_
      refine q_ic_ne (fun c4 => ?_) (fun c4 => ?_)
      · rw [if_pos c4] at h
        refine q_iconst ?_
        refine q_goto ?_
        refine mAt.blk bk_X12_nameOf_53 ck_X12_nameOf_53 ?_
        have h := Option.some.inj h
        subst h
        exact q_iretI mcap_0 rfl rfl
      · rw [if_neg c4] at h
        refine mAt.blk bk_X12_nameOf_30 ck_X12_nameOf_30 ?_
        refine q_iload_n rfl ?_
        refine q_aload_n rfl ?_
        refine q_getI ob_93 rfl ?_
        refine q_if_eq (fun c5 => ?_) (fun c5 => ?_)
        · rw [if_pos c5] at h
          refine mAt.blk bk_X12_nameOf_43 ck_X12_nameOf_43 ?_
          refine q_bipush ?_
          exact okc_X12_nameOf_45  h trivial
        · rw [if_neg c5] at h
          refine q_bipush ?_
          refine q_goto ?_
          exact okc_X12_nameOf_45  h trivial
def bk_X12_either_0 : List mI := [(.aload_n 0, 1, 0, 0, 0, []), (.invokevirtual 73, 3, 147, 0, 1028, []), (.istore_n 1, 1, 0, 0, 0, [])]
theorem ck_X12_either_0 : mChk 146 0 bk_X12_either_0 = true := by decide +kernel
def bk_X12_either_5 : List mI := [(.aload_n 0, 1, 0, 0, 0, []), (.bipush 124, 2, 0, 0, 0, [(124, 0)]), (.invokevirtual 76, 3, 144, 0, 1056, []), (.ifCond .eq 25, 3, 36, 0, 0, []), (.aload_n 0, 1, 0, 0, 0, []), (.invokevirtual 73, 3, 147, 0, 1028, []), (.istore_n 2, 1, 0, 0, 0, []), (.iload_n 1, 1, 0, 0, 0, []), (.ifCond .ne 7, 3, 27, 0, 0, []), (.iload_n 2, 1, 0, 0, 0, []), (.ifCond .eq 7, 3, 31, 0, 0, [])]
theorem ck_X12_either_5 : mChk 146 5 bk_X12_either_5 = true := by decide +kernel
def bk_X12_either_27 : List mI := [(.iconst 1, 1, 0, 0, 0, [(1, 0)]), (.goto 4, 3, 32, 0, 0, [])]
theorem ck_X12_either_27 : mChk 146 27 bk_X12_either_27 = true := by decide +kernel
def bk_X12_either_31 : List mI := [(.iconst 0, 1, 0, 0, 0, [(0, 0)])]
theorem ck_X12_either_31 : mChk 146 31 bk_X12_either_31 = true := by decide +kernel
def bk_X12_either_32 : List mI := [(.istore_n 1, 1, 0, 0, 0, []), (.goto (-28), 3, 5, 0, 0, [])]
theorem ck_X12_either_32 : mChk 146 32 bk_X12_either_32 = true := by decide +kernel
def bk_X12_either_36 : List mI := [(.iload_n 1, 1, 0, 0, 0, []), (.ireturn, 1, 0, 0, 0, [])]
theorem ck_X12_either_36 : mChk 146 36 bk_X12_either_36 = true := by decide +kernel
def c_X12_either_32 (k5 : Int32 → Sg → Option (Int32 × Sg)) (g_X12_either : Sg → Option (Int32 × Sg)) (g_X12_both : Sg → Option (Int32 × Sg)) (g_X12_compared : Sg → Option (Int32 × Sg)) (g_X12_sum : Sg → Option (Int32 × Sg)) (g_X12_product : Sg → Option (Int32 × Sg)) (g_X12_unit : Sg → Option (Int32 × Sg)) (s0 : Int32) (σ : Sg) : Option (Int32 × Sg) := (k5 s0 σ)
set_option maxHeartbeats 4000000 in
theorem okc_X12_either_32 {L : Nat} {k5 : Int32 → Sg → Option (Int32 × Sg)} {g_X12_either : Sg → Option (Int32 × Sg)} {g_X12_both : Sg → Option (Int32 × Sg)} {g_X12_compared : Sg → Option (Int32 × Sg)} {g_X12_sum : Sg → Option (Int32 × Sg)} {g_X12_product : Sg → Option (Int32 × Sg)} {g_X12_unit : Sg → Option (Int32 × Sg)} {dd : Nat} {R : Int32 × Sg} (G_X12_either : ∀ (σ : Sg) (R : Int32 × Sg), g_X12_either  σ = some R → mEv dd 146 [.ref 93] (mSh, L, σ) (some (.int R.1)) (mSh, L, R.2)) (G_X12_both : ∀ (σ : Sg) (R : Int32 × Sg), g_X12_both  σ = some R → mEv dd 147 [.ref 93] (mSh, L, σ) (some (.int R.1)) (mSh, L, R.2)) (G_X12_compared : ∀ (σ : Sg) (R : Int32 × Sg), g_X12_compared  σ = some R → mEv dd 148 [.ref 93] (mSh, L, σ) (some (.int R.1)) (mSh, L, R.2)) (G_X12_sum : ∀ (σ : Sg) (R : Int32 × Sg), g_X12_sum  σ = some R → mEv dd 149 [.ref 93] (mSh, L, σ) (some (.int R.1)) (mSh, L, R.2)) (G_X12_product : ∀ (σ : Sg) (R : Int32 × Sg), g_X12_product  σ = some R → mEv dd 150 [.ref 93] (mSh, L, σ) (some (.int R.1)) (mSh, L, R.2)) (G_X12_unit : ∀ (σ : Sg) (R : Int32 × Sg), g_X12_unit  σ = some R → mEv dd 151 [.ref 93] (mSh, L, σ) (some (.int R.1)) (mSh, L, R.2)) (hdd : 2 ≤ dd) (Hk5 : ∀ (x1 : Int32) (σ : Sg) (pl : mLoc), k5 x1 σ = some R → mlf [some (.ref 93), some (.int x1), none] pl → mAt (dd + 1) 146 (some (.int R.1), (mSh, L, R.2)) 5 pl [] (mSh, L, σ) 0 0) {s0 : Int32} {σ : Sg} {pl : mLoc} (h : c_X12_either_32 k5 g_X12_either g_X12_both g_X12_compared g_X12_sum g_X12_product g_X12_unit s0 σ = some R) (hl : mlf [some (.ref 93), none, none] pl) : mAt (dd + 1) 146 (some (.int R.1), (mSh, L, R.2)) 32 pl [.int s0] (mSh, L, σ) 0 0 := by
  refine mAt.less hl ?_
  unfold c_X12_either_32 at h
  refine mAt.blk bk_X12_either_32 ck_X12_either_32 ?_
  refine q_istore_n rfl rfl ?_
  refine q_goto ?_
  exact Hk5 _ _ _  h ⟨rfl, rfl, trivial⟩
def c_X12_either_27 (k5 : Int32 → Sg → Option (Int32 × Sg)) (g_X12_either : Sg → Option (Int32 × Sg)) (g_X12_both : Sg → Option (Int32 × Sg)) (g_X12_compared : Sg → Option (Int32 × Sg)) (g_X12_sum : Sg → Option (Int32 × Sg)) (g_X12_product : Sg → Option (Int32 × Sg)) (g_X12_unit : Sg → Option (Int32 × Sg)) (σ : Sg) : Option (Int32 × Sg) := (c_X12_either_32 k5 g_X12_either g_X12_both g_X12_compared g_X12_sum g_X12_product g_X12_unit (1 : Int32) σ)
set_option maxHeartbeats 4000000 in
theorem okc_X12_either_27 {L : Nat} {k5 : Int32 → Sg → Option (Int32 × Sg)} {g_X12_either : Sg → Option (Int32 × Sg)} {g_X12_both : Sg → Option (Int32 × Sg)} {g_X12_compared : Sg → Option (Int32 × Sg)} {g_X12_sum : Sg → Option (Int32 × Sg)} {g_X12_product : Sg → Option (Int32 × Sg)} {g_X12_unit : Sg → Option (Int32 × Sg)} {dd : Nat} {R : Int32 × Sg} (G_X12_either : ∀ (σ : Sg) (R : Int32 × Sg), g_X12_either  σ = some R → mEv dd 146 [.ref 93] (mSh, L, σ) (some (.int R.1)) (mSh, L, R.2)) (G_X12_both : ∀ (σ : Sg) (R : Int32 × Sg), g_X12_both  σ = some R → mEv dd 147 [.ref 93] (mSh, L, σ) (some (.int R.1)) (mSh, L, R.2)) (G_X12_compared : ∀ (σ : Sg) (R : Int32 × Sg), g_X12_compared  σ = some R → mEv dd 148 [.ref 93] (mSh, L, σ) (some (.int R.1)) (mSh, L, R.2)) (G_X12_sum : ∀ (σ : Sg) (R : Int32 × Sg), g_X12_sum  σ = some R → mEv dd 149 [.ref 93] (mSh, L, σ) (some (.int R.1)) (mSh, L, R.2)) (G_X12_product : ∀ (σ : Sg) (R : Int32 × Sg), g_X12_product  σ = some R → mEv dd 150 [.ref 93] (mSh, L, σ) (some (.int R.1)) (mSh, L, R.2)) (G_X12_unit : ∀ (σ : Sg) (R : Int32 × Sg), g_X12_unit  σ = some R → mEv dd 151 [.ref 93] (mSh, L, σ) (some (.int R.1)) (mSh, L, R.2)) (hdd : 2 ≤ dd) (Hk5 : ∀ (x1 : Int32) (σ : Sg) (pl : mLoc), k5 x1 σ = some R → mlf [some (.ref 93), some (.int x1), none] pl → mAt (dd + 1) 146 (some (.int R.1), (mSh, L, R.2)) 5 pl [] (mSh, L, σ) 0 0) {σ : Sg} {pl : mLoc} (h : c_X12_either_27 k5 g_X12_either g_X12_both g_X12_compared g_X12_sum g_X12_product g_X12_unit σ = some R) (hl : mlf [some (.ref 93), none, none] pl) : mAt (dd + 1) 146 (some (.int R.1), (mSh, L, R.2)) 27 pl [] (mSh, L, σ) 0 0 := by
  refine mAt.less hl ?_
  unfold c_X12_either_27 at h
  refine mAt.blk bk_X12_either_27 ck_X12_either_27 ?_
  refine q_iconst ?_
  refine q_goto ?_
  exact okc_X12_either_32 G_X12_either G_X12_both G_X12_compared G_X12_sum G_X12_product G_X12_unit hdd Hk5 h ⟨rfl, trivial⟩
def c_X12_either_5 (g_X12_either : Sg → Option (Int32 × Sg)) (g_X12_both : Sg → Option (Int32 × Sg)) (g_X12_compared : Sg → Option (Int32 × Sg)) (g_X12_sum : Sg → Option (Int32 × Sg)) (g_X12_product : Sg → Option (Int32 × Sg)) (g_X12_unit : Sg → Option (Int32 × Sg)) : Nat → Int32 → Sg → Option (Int32 × Sg)
  | 0, _, _ => none
  | n + 1, x1, σ => ((f_X12_takes (124 : Int32) σ).bind fun q1 => (if q1.1 = 0 then (some (x1, q1.2)) else ((g_X12_both  q1.2).bind fun q3 => (if x1 = 0 then (if q3.1 = 0 then (c_X12_either_32 (c_X12_either_5 g_X12_either g_X12_both g_X12_compared g_X12_sum g_X12_product g_X12_unit n) g_X12_either g_X12_both g_X12_compared g_X12_sum g_X12_product g_X12_unit (0 : Int32) q3.2) else (c_X12_either_27 (c_X12_either_5 g_X12_either g_X12_both g_X12_compared g_X12_sum g_X12_product g_X12_unit n) g_X12_either g_X12_both g_X12_compared g_X12_sum g_X12_product g_X12_unit  q3.2)) else (c_X12_either_27 (c_X12_either_5 g_X12_either g_X12_both g_X12_compared g_X12_sum g_X12_product g_X12_unit n) g_X12_either g_X12_both g_X12_compared g_X12_sum g_X12_product g_X12_unit  q3.2)))))
set_option maxHeartbeats 4000000 in
theorem okc_X12_either_5 {L : Nat} {g_X12_either : Sg → Option (Int32 × Sg)} {g_X12_both : Sg → Option (Int32 × Sg)} {g_X12_compared : Sg → Option (Int32 × Sg)} {g_X12_sum : Sg → Option (Int32 × Sg)} {g_X12_product : Sg → Option (Int32 × Sg)} {g_X12_unit : Sg → Option (Int32 × Sg)} {dd : Nat} {R : Int32 × Sg} (G_X12_either : ∀ (σ : Sg) (R : Int32 × Sg), g_X12_either  σ = some R → mEv dd 146 [.ref 93] (mSh, L, σ) (some (.int R.1)) (mSh, L, R.2)) (G_X12_both : ∀ (σ : Sg) (R : Int32 × Sg), g_X12_both  σ = some R → mEv dd 147 [.ref 93] (mSh, L, σ) (some (.int R.1)) (mSh, L, R.2)) (G_X12_compared : ∀ (σ : Sg) (R : Int32 × Sg), g_X12_compared  σ = some R → mEv dd 148 [.ref 93] (mSh, L, σ) (some (.int R.1)) (mSh, L, R.2)) (G_X12_sum : ∀ (σ : Sg) (R : Int32 × Sg), g_X12_sum  σ = some R → mEv dd 149 [.ref 93] (mSh, L, σ) (some (.int R.1)) (mSh, L, R.2)) (G_X12_product : ∀ (σ : Sg) (R : Int32 × Sg), g_X12_product  σ = some R → mEv dd 150 [.ref 93] (mSh, L, σ) (some (.int R.1)) (mSh, L, R.2)) (G_X12_unit : ∀ (σ : Sg) (R : Int32 × Sg), g_X12_unit  σ = some R → mEv dd 151 [.ref 93] (mSh, L, σ) (some (.int R.1)) (mSh, L, R.2)) (hdd : 2 ≤ dd) {n : Nat} {x1 : Int32} {σ : Sg} {pl : mLoc} (h : c_X12_either_5 g_X12_either g_X12_both g_X12_compared g_X12_sum g_X12_product g_X12_unit n x1 σ = some R) (hl : mlf [some (.ref 93), some (.int x1), none] pl) : mAt (dd + 1) 146 (some (.int R.1), (mSh, L, R.2)) 5 pl [] (mSh, L, σ) 0 0 := by
  induction n generalizing x1 σ pl with
  | zero =>
    rw [c_X12_either_5.eq_1] at h
    cases h
  | succ n ih =>
    refine mAt.less hl ?_
    rw [c_X12_either_5.eq_2] at h
    refine mAt.blk bk_X12_either_5 ck_X12_either_5 ?_
    refine q_aload_n rfl ?_
    refine q_bipush ?_
    obtain ⟨q1, e1, h⟩ := mbind h
    refine q_vI1 mcap_0 rfl rfl ob_93 rfl (by omega) (ok_X12_takes  e1) ?_
    refine q_if_eq (fun c2 => ?_) (fun c2 => ?_)
    · rw [if_pos c2] at h
      refine mAt.blk bk_X12_either_36 ck_X12_either_36 ?_
      refine q_iload_n rfl ?_
      have h := Option.some.inj h
      subst h
      exact q_iretI mcap_0 rfl rfl
    · rw [if_neg c2] at h
      refine q_aload_n rfl ?_
      obtain ⟨q3, e3, h⟩ := mbind h
      refine q_vI0 mcap_0 rfl rfl ob_93 rfl (by omega) (G_X12_both _ _ e3) ?_
      refine q_istore_n rfl rfl ?_
      refine q_iload_n rfl ?_
      refine q_if_ne (fun c4 => ?_) (fun c4 => ?_)
      · rw [if_pos c4] at h
        refine q_iload_n rfl ?_
        refine q_if_eq (fun c5 => ?_) (fun c5 => ?_)
        · rw [if_pos c5] at h
          refine mAt.blk bk_X12_either_31 ck_X12_either_31 ?_
          refine q_iconst ?_
          exact okc_X12_either_32 G_X12_either G_X12_both G_X12_compared G_X12_sum G_X12_product G_X12_unit hdd (fun _ _ _ e hl => ih  e hl) h ⟨rfl, trivial⟩
        · rw [if_neg c5] at h
          exact okc_X12_either_27 G_X12_either G_X12_both G_X12_compared G_X12_sum G_X12_product G_X12_unit hdd (fun _ _ _ e hl => ih  e hl) h ⟨rfl, trivial⟩
      · rw [if_neg c4] at h
        exact okc_X12_either_27 G_X12_either G_X12_both G_X12_compared G_X12_sum G_X12_product G_X12_unit hdd (fun _ _ _ e hl => ih  e hl) h ⟨rfl, trivial⟩
def b_X12_either (g_X12_either : Sg → Option (Int32 × Sg)) (g_X12_both : Sg → Option (Int32 × Sg)) (g_X12_compared : Sg → Option (Int32 × Sg)) (g_X12_sum : Sg → Option (Int32 × Sg)) (g_X12_product : Sg → Option (Int32 × Sg)) (g_X12_unit : Sg → Option (Int32 × Sg)) (σ : Sg) : Option (Int32 × Sg) := ((g_X12_both  σ).bind fun q6 => (c_X12_either_5  g_X12_either g_X12_both g_X12_compared g_X12_sum g_X12_product g_X12_unit 1000 q6.1 q6.2))
set_option maxHeartbeats 4000000 in
theorem okb_X12_either {L : Nat} {g_X12_either : Sg → Option (Int32 × Sg)} {g_X12_both : Sg → Option (Int32 × Sg)} {g_X12_compared : Sg → Option (Int32 × Sg)} {g_X12_sum : Sg → Option (Int32 × Sg)} {g_X12_product : Sg → Option (Int32 × Sg)} {g_X12_unit : Sg → Option (Int32 × Sg)} {dd : Nat} {σ : Sg} {R : Int32 × Sg} (G_X12_either : ∀ (σ : Sg) (R : Int32 × Sg), g_X12_either  σ = some R → mEv dd 146 [.ref 93] (mSh, L, σ) (some (.int R.1)) (mSh, L, R.2)) (G_X12_both : ∀ (σ : Sg) (R : Int32 × Sg), g_X12_both  σ = some R → mEv dd 147 [.ref 93] (mSh, L, σ) (some (.int R.1)) (mSh, L, R.2)) (G_X12_compared : ∀ (σ : Sg) (R : Int32 × Sg), g_X12_compared  σ = some R → mEv dd 148 [.ref 93] (mSh, L, σ) (some (.int R.1)) (mSh, L, R.2)) (G_X12_sum : ∀ (σ : Sg) (R : Int32 × Sg), g_X12_sum  σ = some R → mEv dd 149 [.ref 93] (mSh, L, σ) (some (.int R.1)) (mSh, L, R.2)) (G_X12_product : ∀ (σ : Sg) (R : Int32 × Sg), g_X12_product  σ = some R → mEv dd 150 [.ref 93] (mSh, L, σ) (some (.int R.1)) (mSh, L, R.2)) (G_X12_unit : ∀ (σ : Sg) (R : Int32 × Sg), g_X12_unit  σ = some R → mEv dd 151 [.ref 93] (mSh, L, σ) (some (.int R.1)) (mSh, L, R.2)) (hdd : 2 ≤ dd) (h : b_X12_either g_X12_either g_X12_both g_X12_compared g_X12_sum g_X12_product g_X12_unit σ = some R) : mEv (dd + 1) 146 [.ref 93] (mSh, L, σ) (some (.int R.1)) (mSh, L, R.2) := by
  refine mEv.of (by decide) rfl rfl ?_
  unfold b_X12_either at h
  refine mAt.blk bk_X12_either_0 ck_X12_either_0 ?_
  refine q_aload_n rfl ?_
  obtain ⟨q6, e6, h⟩ := mbind h
  refine q_vI0 mcap_0 rfl rfl ob_93 rfl (by omega) (G_X12_both _ _ e6) ?_
  refine q_istore_n rfl rfl ?_
  exact okc_X12_either_5 G_X12_either G_X12_both G_X12_compared G_X12_sum G_X12_product G_X12_unit hdd h ⟨rfl, rfl, trivial⟩
def bk_X12_both_0 : List mI := [(.aload_n 0, 1, 0, 0, 0, []), (.invokevirtual 80, 3, 148, 0, 1032, []), (.istore_n 1, 1, 0, 0, 0, [])]
theorem ck_X12_both_0 : mChk 147 0 bk_X12_both_0 = true := by decide +kernel
def bk_X12_both_5 : List mI := [(.aload_n 0, 1, 0, 0, 0, []), (.bipush 38, 2, 0, 0, 0, [(38, 0)]), (.invokevirtual 76, 3, 144, 0, 1056, []), (.ifCond .eq 25, 3, 36, 0, 0, []), (.aload_n 0, 1, 0, 0, 0, []), (.invokevirtual 80, 3, 148, 0, 1032, []), (.istore_n 2, 1, 0, 0, 0, []), (.iload_n 1, 1, 0, 0, 0, []), (.ifCond .eq 11, 3, 31, 0, 0, []), (.iload_n 2, 1, 0, 0, 0, []), (.ifCond .eq 7, 3, 31, 0, 0, []), (.iconst 1, 1, 0, 0, 0, [(1, 0)]), (.goto 4, 3, 32, 0, 0, [])]
theorem ck_X12_both_5 : mChk 147 5 bk_X12_both_5 = true := by decide +kernel
def bk_X12_both_31 : List mI := [(.iconst 0, 1, 0, 0, 0, [(0, 0)])]
theorem ck_X12_both_31 : mChk 147 31 bk_X12_both_31 = true := by decide +kernel
def bk_X12_both_32 : List mI := [(.istore_n 1, 1, 0, 0, 0, []), (.goto (-28), 3, 5, 0, 0, [])]
theorem ck_X12_both_32 : mChk 147 32 bk_X12_both_32 = true := by decide +kernel
def bk_X12_both_36 : List mI := [(.iload_n 1, 1, 0, 0, 0, []), (.ireturn, 1, 0, 0, 0, [])]
theorem ck_X12_both_36 : mChk 147 36 bk_X12_both_36 = true := by decide +kernel
def c_X12_both_32 (k5 : Int32 → Sg → Option (Int32 × Sg)) (g_X12_either : Sg → Option (Int32 × Sg)) (g_X12_both : Sg → Option (Int32 × Sg)) (g_X12_compared : Sg → Option (Int32 × Sg)) (g_X12_sum : Sg → Option (Int32 × Sg)) (g_X12_product : Sg → Option (Int32 × Sg)) (g_X12_unit : Sg → Option (Int32 × Sg)) (s0 : Int32) (σ : Sg) : Option (Int32 × Sg) := (k5 s0 σ)
set_option maxHeartbeats 4000000 in
theorem okc_X12_both_32 {L : Nat} {k5 : Int32 → Sg → Option (Int32 × Sg)} {g_X12_either : Sg → Option (Int32 × Sg)} {g_X12_both : Sg → Option (Int32 × Sg)} {g_X12_compared : Sg → Option (Int32 × Sg)} {g_X12_sum : Sg → Option (Int32 × Sg)} {g_X12_product : Sg → Option (Int32 × Sg)} {g_X12_unit : Sg → Option (Int32 × Sg)} {dd : Nat} {R : Int32 × Sg} (G_X12_either : ∀ (σ : Sg) (R : Int32 × Sg), g_X12_either  σ = some R → mEv dd 146 [.ref 93] (mSh, L, σ) (some (.int R.1)) (mSh, L, R.2)) (G_X12_both : ∀ (σ : Sg) (R : Int32 × Sg), g_X12_both  σ = some R → mEv dd 147 [.ref 93] (mSh, L, σ) (some (.int R.1)) (mSh, L, R.2)) (G_X12_compared : ∀ (σ : Sg) (R : Int32 × Sg), g_X12_compared  σ = some R → mEv dd 148 [.ref 93] (mSh, L, σ) (some (.int R.1)) (mSh, L, R.2)) (G_X12_sum : ∀ (σ : Sg) (R : Int32 × Sg), g_X12_sum  σ = some R → mEv dd 149 [.ref 93] (mSh, L, σ) (some (.int R.1)) (mSh, L, R.2)) (G_X12_product : ∀ (σ : Sg) (R : Int32 × Sg), g_X12_product  σ = some R → mEv dd 150 [.ref 93] (mSh, L, σ) (some (.int R.1)) (mSh, L, R.2)) (G_X12_unit : ∀ (σ : Sg) (R : Int32 × Sg), g_X12_unit  σ = some R → mEv dd 151 [.ref 93] (mSh, L, σ) (some (.int R.1)) (mSh, L, R.2)) (hdd : 2 ≤ dd) (Hk5 : ∀ (x1 : Int32) (σ : Sg) (pl : mLoc), k5 x1 σ = some R → mlf [some (.ref 93), some (.int x1), none] pl → mAt (dd + 1) 147 (some (.int R.1), (mSh, L, R.2)) 5 pl [] (mSh, L, σ) 0 0) {s0 : Int32} {σ : Sg} {pl : mLoc} (h : c_X12_both_32 k5 g_X12_either g_X12_both g_X12_compared g_X12_sum g_X12_product g_X12_unit s0 σ = some R) (hl : mlf [some (.ref 93), none, none] pl) : mAt (dd + 1) 147 (some (.int R.1), (mSh, L, R.2)) 32 pl [.int s0] (mSh, L, σ) 0 0 := by
  refine mAt.less hl ?_
  unfold c_X12_both_32 at h
  refine mAt.blk bk_X12_both_32 ck_X12_both_32 ?_
  refine q_istore_n rfl rfl ?_
  refine q_goto ?_
  exact Hk5 _ _ _  h ⟨rfl, rfl, trivial⟩
def c_X12_both_31 (k5 : Int32 → Sg → Option (Int32 × Sg)) (g_X12_either : Sg → Option (Int32 × Sg)) (g_X12_both : Sg → Option (Int32 × Sg)) (g_X12_compared : Sg → Option (Int32 × Sg)) (g_X12_sum : Sg → Option (Int32 × Sg)) (g_X12_product : Sg → Option (Int32 × Sg)) (g_X12_unit : Sg → Option (Int32 × Sg)) (σ : Sg) : Option (Int32 × Sg) := (c_X12_both_32 k5 g_X12_either g_X12_both g_X12_compared g_X12_sum g_X12_product g_X12_unit (0 : Int32) σ)
set_option maxHeartbeats 4000000 in
theorem okc_X12_both_31 {L : Nat} {k5 : Int32 → Sg → Option (Int32 × Sg)} {g_X12_either : Sg → Option (Int32 × Sg)} {g_X12_both : Sg → Option (Int32 × Sg)} {g_X12_compared : Sg → Option (Int32 × Sg)} {g_X12_sum : Sg → Option (Int32 × Sg)} {g_X12_product : Sg → Option (Int32 × Sg)} {g_X12_unit : Sg → Option (Int32 × Sg)} {dd : Nat} {R : Int32 × Sg} (G_X12_either : ∀ (σ : Sg) (R : Int32 × Sg), g_X12_either  σ = some R → mEv dd 146 [.ref 93] (mSh, L, σ) (some (.int R.1)) (mSh, L, R.2)) (G_X12_both : ∀ (σ : Sg) (R : Int32 × Sg), g_X12_both  σ = some R → mEv dd 147 [.ref 93] (mSh, L, σ) (some (.int R.1)) (mSh, L, R.2)) (G_X12_compared : ∀ (σ : Sg) (R : Int32 × Sg), g_X12_compared  σ = some R → mEv dd 148 [.ref 93] (mSh, L, σ) (some (.int R.1)) (mSh, L, R.2)) (G_X12_sum : ∀ (σ : Sg) (R : Int32 × Sg), g_X12_sum  σ = some R → mEv dd 149 [.ref 93] (mSh, L, σ) (some (.int R.1)) (mSh, L, R.2)) (G_X12_product : ∀ (σ : Sg) (R : Int32 × Sg), g_X12_product  σ = some R → mEv dd 150 [.ref 93] (mSh, L, σ) (some (.int R.1)) (mSh, L, R.2)) (G_X12_unit : ∀ (σ : Sg) (R : Int32 × Sg), g_X12_unit  σ = some R → mEv dd 151 [.ref 93] (mSh, L, σ) (some (.int R.1)) (mSh, L, R.2)) (hdd : 2 ≤ dd) (Hk5 : ∀ (x1 : Int32) (σ : Sg) (pl : mLoc), k5 x1 σ = some R → mlf [some (.ref 93), some (.int x1), none] pl → mAt (dd + 1) 147 (some (.int R.1), (mSh, L, R.2)) 5 pl [] (mSh, L, σ) 0 0) {σ : Sg} {pl : mLoc} (h : c_X12_both_31 k5 g_X12_either g_X12_both g_X12_compared g_X12_sum g_X12_product g_X12_unit σ = some R) (hl : mlf [some (.ref 93), none, none] pl) : mAt (dd + 1) 147 (some (.int R.1), (mSh, L, R.2)) 31 pl [] (mSh, L, σ) 0 0 := by
  refine mAt.less hl ?_
  unfold c_X12_both_31 at h
  refine mAt.blk bk_X12_both_31 ck_X12_both_31 ?_
  refine q_iconst ?_
  exact okc_X12_both_32 G_X12_either G_X12_both G_X12_compared G_X12_sum G_X12_product G_X12_unit hdd Hk5 h ⟨rfl, trivial⟩
def c_X12_both_5 (g_X12_either : Sg → Option (Int32 × Sg)) (g_X12_both : Sg → Option (Int32 × Sg)) (g_X12_compared : Sg → Option (Int32 × Sg)) (g_X12_sum : Sg → Option (Int32 × Sg)) (g_X12_product : Sg → Option (Int32 × Sg)) (g_X12_unit : Sg → Option (Int32 × Sg)) : Nat → Int32 → Sg → Option (Int32 × Sg)
  | 0, _, _ => none
  | n + 1, x1, σ => ((f_X12_takes (38 : Int32) σ).bind fun q1 => (if q1.1 = 0 then (some (x1, q1.2)) else ((g_X12_compared  q1.2).bind fun q3 => (if x1 = 0 then (c_X12_both_31 (c_X12_both_5 g_X12_either g_X12_both g_X12_compared g_X12_sum g_X12_product g_X12_unit n) g_X12_either g_X12_both g_X12_compared g_X12_sum g_X12_product g_X12_unit  q3.2) else (if q3.1 = 0 then (c_X12_both_31 (c_X12_both_5 g_X12_either g_X12_both g_X12_compared g_X12_sum g_X12_product g_X12_unit n) g_X12_either g_X12_both g_X12_compared g_X12_sum g_X12_product g_X12_unit  q3.2) else (c_X12_both_32 (c_X12_both_5 g_X12_either g_X12_both g_X12_compared g_X12_sum g_X12_product g_X12_unit n) g_X12_either g_X12_both g_X12_compared g_X12_sum g_X12_product g_X12_unit (1 : Int32) q3.2))))))
set_option maxHeartbeats 4000000 in
theorem okc_X12_both_5 {L : Nat} {g_X12_either : Sg → Option (Int32 × Sg)} {g_X12_both : Sg → Option (Int32 × Sg)} {g_X12_compared : Sg → Option (Int32 × Sg)} {g_X12_sum : Sg → Option (Int32 × Sg)} {g_X12_product : Sg → Option (Int32 × Sg)} {g_X12_unit : Sg → Option (Int32 × Sg)} {dd : Nat} {R : Int32 × Sg} (G_X12_either : ∀ (σ : Sg) (R : Int32 × Sg), g_X12_either  σ = some R → mEv dd 146 [.ref 93] (mSh, L, σ) (some (.int R.1)) (mSh, L, R.2)) (G_X12_both : ∀ (σ : Sg) (R : Int32 × Sg), g_X12_both  σ = some R → mEv dd 147 [.ref 93] (mSh, L, σ) (some (.int R.1)) (mSh, L, R.2)) (G_X12_compared : ∀ (σ : Sg) (R : Int32 × Sg), g_X12_compared  σ = some R → mEv dd 148 [.ref 93] (mSh, L, σ) (some (.int R.1)) (mSh, L, R.2)) (G_X12_sum : ∀ (σ : Sg) (R : Int32 × Sg), g_X12_sum  σ = some R → mEv dd 149 [.ref 93] (mSh, L, σ) (some (.int R.1)) (mSh, L, R.2)) (G_X12_product : ∀ (σ : Sg) (R : Int32 × Sg), g_X12_product  σ = some R → mEv dd 150 [.ref 93] (mSh, L, σ) (some (.int R.1)) (mSh, L, R.2)) (G_X12_unit : ∀ (σ : Sg) (R : Int32 × Sg), g_X12_unit  σ = some R → mEv dd 151 [.ref 93] (mSh, L, σ) (some (.int R.1)) (mSh, L, R.2)) (hdd : 2 ≤ dd) {n : Nat} {x1 : Int32} {σ : Sg} {pl : mLoc} (h : c_X12_both_5 g_X12_either g_X12_both g_X12_compared g_X12_sum g_X12_product g_X12_unit n x1 σ = some R) (hl : mlf [some (.ref 93), some (.int x1), none] pl) : mAt (dd + 1) 147 (some (.int R.1), (mSh, L, R.2)) 5 pl [] (mSh, L, σ) 0 0 := by
  induction n generalizing x1 σ pl with
  | zero =>
    rw [c_X12_both_5.eq_1] at h
    cases h
  | succ n ih =>
    refine mAt.less hl ?_
    rw [c_X12_both_5.eq_2] at h
    refine mAt.blk bk_X12_both_5 ck_X12_both_5 ?_
    refine q_aload_n rfl ?_
    refine q_bipush ?_
    obtain ⟨q1, e1, h⟩ := mbind h
    refine q_vI1 mcap_0 rfl rfl ob_93 rfl (by omega) (ok_X12_takes  e1) ?_
    refine q_if_eq (fun c2 => ?_) (fun c2 => ?_)
    · rw [if_pos c2] at h
      refine mAt.blk bk_X12_both_36 ck_X12_both_36 ?_
      refine q_iload_n rfl ?_
      have h := Option.some.inj h
      subst h
      exact q_iretI mcap_0 rfl rfl
    · rw [if_neg c2] at h
      refine q_aload_n rfl ?_
      obtain ⟨q3, e3, h⟩ := mbind h
      refine q_vI0 mcap_0 rfl rfl ob_93 rfl (by omega) (G_X12_compared _ _ e3) ?_
      refine q_istore_n rfl rfl ?_
      refine q_iload_n rfl ?_
      refine q_if_eq (fun c4 => ?_) (fun c4 => ?_)
      · rw [if_pos c4] at h
        exact okc_X12_both_31 G_X12_either G_X12_both G_X12_compared G_X12_sum G_X12_product G_X12_unit hdd (fun _ _ _ e hl => ih  e hl) h ⟨rfl, trivial⟩
      · rw [if_neg c4] at h
        refine q_iload_n rfl ?_
        refine q_if_eq (fun c5 => ?_) (fun c5 => ?_)
        · rw [if_pos c5] at h
          exact okc_X12_both_31 G_X12_either G_X12_both G_X12_compared G_X12_sum G_X12_product G_X12_unit hdd (fun _ _ _ e hl => ih  e hl) h ⟨rfl, trivial⟩
        · rw [if_neg c5] at h
          refine q_iconst ?_
          refine q_goto ?_
          exact okc_X12_both_32 G_X12_either G_X12_both G_X12_compared G_X12_sum G_X12_product G_X12_unit hdd (fun _ _ _ e hl => ih  e hl) h ⟨rfl, trivial⟩
def b_X12_both (g_X12_either : Sg → Option (Int32 × Sg)) (g_X12_both : Sg → Option (Int32 × Sg)) (g_X12_compared : Sg → Option (Int32 × Sg)) (g_X12_sum : Sg → Option (Int32 × Sg)) (g_X12_product : Sg → Option (Int32 × Sg)) (g_X12_unit : Sg → Option (Int32 × Sg)) (σ : Sg) : Option (Int32 × Sg) := ((g_X12_compared  σ).bind fun q6 => (c_X12_both_5  g_X12_either g_X12_both g_X12_compared g_X12_sum g_X12_product g_X12_unit 1000 q6.1 q6.2))
set_option maxHeartbeats 4000000 in
theorem okb_X12_both {L : Nat} {g_X12_either : Sg → Option (Int32 × Sg)} {g_X12_both : Sg → Option (Int32 × Sg)} {g_X12_compared : Sg → Option (Int32 × Sg)} {g_X12_sum : Sg → Option (Int32 × Sg)} {g_X12_product : Sg → Option (Int32 × Sg)} {g_X12_unit : Sg → Option (Int32 × Sg)} {dd : Nat} {σ : Sg} {R : Int32 × Sg} (G_X12_either : ∀ (σ : Sg) (R : Int32 × Sg), g_X12_either  σ = some R → mEv dd 146 [.ref 93] (mSh, L, σ) (some (.int R.1)) (mSh, L, R.2)) (G_X12_both : ∀ (σ : Sg) (R : Int32 × Sg), g_X12_both  σ = some R → mEv dd 147 [.ref 93] (mSh, L, σ) (some (.int R.1)) (mSh, L, R.2)) (G_X12_compared : ∀ (σ : Sg) (R : Int32 × Sg), g_X12_compared  σ = some R → mEv dd 148 [.ref 93] (mSh, L, σ) (some (.int R.1)) (mSh, L, R.2)) (G_X12_sum : ∀ (σ : Sg) (R : Int32 × Sg), g_X12_sum  σ = some R → mEv dd 149 [.ref 93] (mSh, L, σ) (some (.int R.1)) (mSh, L, R.2)) (G_X12_product : ∀ (σ : Sg) (R : Int32 × Sg), g_X12_product  σ = some R → mEv dd 150 [.ref 93] (mSh, L, σ) (some (.int R.1)) (mSh, L, R.2)) (G_X12_unit : ∀ (σ : Sg) (R : Int32 × Sg), g_X12_unit  σ = some R → mEv dd 151 [.ref 93] (mSh, L, σ) (some (.int R.1)) (mSh, L, R.2)) (hdd : 2 ≤ dd) (h : b_X12_both g_X12_either g_X12_both g_X12_compared g_X12_sum g_X12_product g_X12_unit σ = some R) : mEv (dd + 1) 147 [.ref 93] (mSh, L, σ) (some (.int R.1)) (mSh, L, R.2) := by
  refine mEv.of (by decide) rfl rfl ?_
  unfold b_X12_both at h
  refine mAt.blk bk_X12_both_0 ck_X12_both_0 ?_
  refine q_aload_n rfl ?_
  obtain ⟨q6, e6, h⟩ := mbind h
  refine q_vI0 mcap_0 rfl rfl ob_93 rfl (by omega) (G_X12_compared _ _ e6) ?_
  refine q_istore_n rfl rfl ?_
  exact okc_X12_both_5 G_X12_either G_X12_both G_X12_compared G_X12_sum G_X12_product G_X12_unit hdd h ⟨rfl, rfl, trivial⟩
def bk_X12_compared_0 : List mI := [(.aload_n 0, 1, 0, 0, 0, []), (.invokevirtual 83, 3, 149, 0, 1036, []), (.istore_n 1, 1, 0, 0, 0, []), (.aload_n 0, 1, 0, 0, 0, []), (.invokevirtual 65, 3, 142, 0, 1048, []), (.istore_n 2, 1, 0, 0, 0, []), (.iload_n 2, 1, 0, 0, 0, []), (.bipush 60, 2, 0, 0, 0, [(60, 0)]), (.if_icmp .eq 17, 3, 30, 0, 0, []), (.iload_n 2, 1, 0, 0, 0, []), (.bipush 61, 2, 0, 0, 0, [(61, 0)]), (.if_icmp .eq 11, 3, 30, 0, 0, []), (.iload_n 2, 1, 0, 0, 0, []), (.bipush 62, 2, 0, 0, 0, [(62, 0)]), (.if_icmp .eq 5, 3, 30, 0, 0, []), (.iload_n 1, 1, 0, 0, 0, []), (.ireturn, 1, 0, 0, 0, [])]
theorem ck_X12_compared_0 : mChk 148 0 bk_X12_compared_0 = true := by decide +kernel
def bk_X12_compared_30 : List mI := [(.aload_n 0, 1, 0, 0, 0, []), (.dup, 1, 0, 0, 0, []), (.getfield 52, 3, 12, 6, 943, []), (.iconst 1, 1, 0, 0, 0, [(1, 0)]), (.iadd, 1, 0, 0, 0, []), (.putfield 52, 3, 12, 6, 943, []), (.aload_n 0, 1, 0, 0, 0, []), (.invokevirtual 83, 3, 149, 0, 1036, []), (.istore_n 3, 1, 0, 0, 0, []), (.iload_n 2, 1, 0, 0, 0, []), (.bipush 60, 2, 0, 0, 0, [(60, 0)]), (.if_icmp .ne 11, 3, 59, 0, 0, []), (.iload_n 1, 1, 0, 0, 0, []), (.iload_n 3, 1, 0, 0, 0, []), (.if_icmp .ge 29, 3, 82, 0, 0, []), (.goto 22, 3, 78, 0, 0, [])]
theorem ck_X12_compared_30 : mChk 148 30 bk_X12_compared_30 = true := by decide +kernel
def bk_X12_compared_59 : List mI := [(.iload_n 2, 1, 0, 0, 0, []), (.bipush 61, 2, 0, 0, 0, [(61, 0)]), (.if_icmp .ne 11, 3, 73, 0, 0, []), (.iload_n 1, 1, 0, 0, 0, []), (.iload_n 3, 1, 0, 0, 0, []), (.if_icmp .ne 15, 3, 82, 0, 0, []), (.goto 8, 3, 78, 0, 0, [])]
theorem ck_X12_compared_59 : mChk 148 59 bk_X12_compared_59 = true := by decide +kernel
def bk_X12_compared_73 : List mI := [(.iload_n 1, 1, 0, 0, 0, []), (.iload_n 3, 1, 0, 0, 0, []), (.if_icmp .le 7, 3, 82, 0, 0, [])]
theorem ck_X12_compared_73 : mChk 148 73 bk_X12_compared_73 = true := by decide +kernel
def bk_X12_compared_78 : List mI := [(.iconst 1, 1, 0, 0, 0, [(1, 0)]), (.goto 4, 3, 83, 0, 0, [])]
theorem ck_X12_compared_78 : mChk 148 78 bk_X12_compared_78 = true := by decide +kernel
def bk_X12_compared_82 : List mI := [(.iconst 0, 1, 0, 0, 0, [(0, 0)])]
theorem ck_X12_compared_82 : mChk 148 82 bk_X12_compared_82 = true := by decide +kernel
def bk_X12_compared_83 : List mI := [(.ireturn, 1, 0, 0, 0, [])]
theorem ck_X12_compared_83 : mChk 148 83 bk_X12_compared_83 = true := by decide +kernel
def c_X12_compared_78 (g_X12_either : Sg → Option (Int32 × Sg)) (g_X12_both : Sg → Option (Int32 × Sg)) (g_X12_compared : Sg → Option (Int32 × Sg)) (g_X12_sum : Sg → Option (Int32 × Sg)) (g_X12_product : Sg → Option (Int32 × Sg)) (g_X12_unit : Sg → Option (Int32 × Sg)) (σ : Sg) : Option (Int32 × Sg) := (some ((1 : Int32), σ))
set_option maxHeartbeats 4000000 in
theorem okc_X12_compared_78 {L : Nat} {g_X12_either : Sg → Option (Int32 × Sg)} {g_X12_both : Sg → Option (Int32 × Sg)} {g_X12_compared : Sg → Option (Int32 × Sg)} {g_X12_sum : Sg → Option (Int32 × Sg)} {g_X12_product : Sg → Option (Int32 × Sg)} {g_X12_unit : Sg → Option (Int32 × Sg)} {dd : Nat} {R : Int32 × Sg} (G_X12_either : ∀ (σ : Sg) (R : Int32 × Sg), g_X12_either  σ = some R → mEv dd 146 [.ref 93] (mSh, L, σ) (some (.int R.1)) (mSh, L, R.2)) (G_X12_both : ∀ (σ : Sg) (R : Int32 × Sg), g_X12_both  σ = some R → mEv dd 147 [.ref 93] (mSh, L, σ) (some (.int R.1)) (mSh, L, R.2)) (G_X12_compared : ∀ (σ : Sg) (R : Int32 × Sg), g_X12_compared  σ = some R → mEv dd 148 [.ref 93] (mSh, L, σ) (some (.int R.1)) (mSh, L, R.2)) (G_X12_sum : ∀ (σ : Sg) (R : Int32 × Sg), g_X12_sum  σ = some R → mEv dd 149 [.ref 93] (mSh, L, σ) (some (.int R.1)) (mSh, L, R.2)) (G_X12_product : ∀ (σ : Sg) (R : Int32 × Sg), g_X12_product  σ = some R → mEv dd 150 [.ref 93] (mSh, L, σ) (some (.int R.1)) (mSh, L, R.2)) (G_X12_unit : ∀ (σ : Sg) (R : Int32 × Sg), g_X12_unit  σ = some R → mEv dd 151 [.ref 93] (mSh, L, σ) (some (.int R.1)) (mSh, L, R.2)) (hdd : 2 ≤ dd) {σ : Sg} {pl : mLoc} (h : c_X12_compared_78 g_X12_either g_X12_both g_X12_compared g_X12_sum g_X12_product g_X12_unit σ = some R) (hl : mlf [none, none, none, none] pl) : mAt (dd + 1) 148 (some (.int R.1), (mSh, L, R.2)) 78 pl [] (mSh, L, σ) 0 0 := by
  refine mAt.less hl ?_
  unfold c_X12_compared_78 at h
  refine mAt.blk bk_X12_compared_78 ck_X12_compared_78 ?_
  refine q_iconst ?_
  refine q_goto ?_
  refine mAt.blk bk_X12_compared_83 ck_X12_compared_83 ?_
  have h := Option.some.inj h
  subst h
  exact q_iretI mcap_0 rfl rfl
def c_X12_compared_30 (g_X12_either : Sg → Option (Int32 × Sg)) (g_X12_both : Sg → Option (Int32 × Sg)) (g_X12_compared : Sg → Option (Int32 × Sg)) (g_X12_sum : Sg → Option (Int32 × Sg)) (g_X12_product : Sg → Option (Int32 × Sg)) (g_X12_unit : Sg → Option (Int32 × Sg)) (x1 : Int32) (x2 : Int32) (σ : Sg) : Option (Int32 × Sg) := ((g_X12_sum  (mup σ 93 6 ((σ 93 6) + (1 : Int32)))).bind fun q1 => (if x2 = (60 : Int32) then (if q1.1 ≤ x1 then (some ((0 : Int32), q1.2)) else (c_X12_compared_78  g_X12_either g_X12_both g_X12_compared g_X12_sum g_X12_product g_X12_unit  q1.2)) else (if x2 = (61 : Int32) then (if x1 = q1.1 then (c_X12_compared_78  g_X12_either g_X12_both g_X12_compared g_X12_sum g_X12_product g_X12_unit  q1.2) else (some ((0 : Int32), q1.2))) else (if x1 ≤ q1.1 then (some ((0 : Int32), q1.2)) else (c_X12_compared_78  g_X12_either g_X12_both g_X12_compared g_X12_sum g_X12_product g_X12_unit  q1.2)))))
set_option maxHeartbeats 4000000 in
theorem okc_X12_compared_30 {L : Nat} {g_X12_either : Sg → Option (Int32 × Sg)} {g_X12_both : Sg → Option (Int32 × Sg)} {g_X12_compared : Sg → Option (Int32 × Sg)} {g_X12_sum : Sg → Option (Int32 × Sg)} {g_X12_product : Sg → Option (Int32 × Sg)} {g_X12_unit : Sg → Option (Int32 × Sg)} {dd : Nat} {R : Int32 × Sg} (G_X12_either : ∀ (σ : Sg) (R : Int32 × Sg), g_X12_either  σ = some R → mEv dd 146 [.ref 93] (mSh, L, σ) (some (.int R.1)) (mSh, L, R.2)) (G_X12_both : ∀ (σ : Sg) (R : Int32 × Sg), g_X12_both  σ = some R → mEv dd 147 [.ref 93] (mSh, L, σ) (some (.int R.1)) (mSh, L, R.2)) (G_X12_compared : ∀ (σ : Sg) (R : Int32 × Sg), g_X12_compared  σ = some R → mEv dd 148 [.ref 93] (mSh, L, σ) (some (.int R.1)) (mSh, L, R.2)) (G_X12_sum : ∀ (σ : Sg) (R : Int32 × Sg), g_X12_sum  σ = some R → mEv dd 149 [.ref 93] (mSh, L, σ) (some (.int R.1)) (mSh, L, R.2)) (G_X12_product : ∀ (σ : Sg) (R : Int32 × Sg), g_X12_product  σ = some R → mEv dd 150 [.ref 93] (mSh, L, σ) (some (.int R.1)) (mSh, L, R.2)) (G_X12_unit : ∀ (σ : Sg) (R : Int32 × Sg), g_X12_unit  σ = some R → mEv dd 151 [.ref 93] (mSh, L, σ) (some (.int R.1)) (mSh, L, R.2)) (hdd : 2 ≤ dd) {x1 : Int32} {x2 : Int32} {σ : Sg} {pl : mLoc} (h : c_X12_compared_30 g_X12_either g_X12_both g_X12_compared g_X12_sum g_X12_product g_X12_unit x1 x2 σ = some R) (hl : mlf [some (.ref 93), some (.int x1), some (.int x2), none] pl) : mAt (dd + 1) 148 (some (.int R.1), (mSh, L, R.2)) 30 pl [] (mSh, L, σ) 0 0 := by
  refine mAt.less hl ?_
  unfold c_X12_compared_30 at h
  refine mAt.blk bk_X12_compared_30 ck_X12_compared_30 ?_
  refine q_aload_n rfl ?_
  refine q_dupR ?_
  refine q_getI ob_93 rfl ?_
  refine q_iconst ?_
  refine q_iadd ?_
  refine q_putI ob_93 rfl ?_
  refine q_aload_n rfl ?_
  obtain ⟨q1, e1, h⟩ := mbind h
  refine q_vI0 mcap_0 rfl rfl ob_93 rfl (by omega) (G_X12_sum _ _ e1) ?_
  refine q_istore_n rfl rfl ?_
  refine q_iload_n rfl ?_
  refine q_bipush ?_
  refine q_ic_ne (fun c2 => ?_) (fun c2 => ?_)
  · rw [if_pos c2] at h
    refine q_iload_n rfl ?_
    refine q_iload_n rfl ?_
    refine q_ic_ge (fun c6 => ?_) (fun c6 => ?_)
    · rw [if_pos c6] at h
      refine mAt.blk bk_X12_compared_82 ck_X12_compared_82 ?_
      refine q_iconst ?_
      refine mAt.blk bk_X12_compared_83 ck_X12_compared_83 ?_
      have h := Option.some.inj h
      subst h
      exact q_iretI mcap_0 rfl rfl
    · rw [if_neg c6] at h
      refine q_goto ?_
      exact okc_X12_compared_78 G_X12_either G_X12_both G_X12_compared G_X12_sum G_X12_product G_X12_unit hdd h trivial
  · rw [if_neg c2] at h
    refine mAt.blk bk_X12_compared_59 ck_X12_compared_59 ?_
    refine q_iload_n rfl ?_
    refine q_bipush ?_
    refine q_ic_ne (fun c3 => ?_) (fun c3 => ?_)
    · rw [if_pos c3] at h
      refine q_iload_n rfl ?_
      refine q_iload_n rfl ?_
      refine q_ic_ne (fun c5 => ?_) (fun c5 => ?_)
      · rw [if_pos c5] at h
        refine q_goto ?_
        exact okc_X12_compared_78 G_X12_either G_X12_both G_X12_compared G_X12_sum G_X12_product G_X12_unit hdd h trivial
      · rw [if_neg c5] at h
        refine mAt.blk bk_X12_compared_82 ck_X12_compared_82 ?_
        refine q_iconst ?_
        refine mAt.blk bk_X12_compared_83 ck_X12_compared_83 ?_
        have h := Option.some.inj h
        subst h
        exact q_iretI mcap_0 rfl rfl
    · rw [if_neg c3] at h
      refine mAt.blk bk_X12_compared_73 ck_X12_compared_73 ?_
      refine q_iload_n rfl ?_
      refine q_iload_n rfl ?_
      refine q_ic_le (fun c4 => ?_) (fun c4 => ?_)
      · rw [if_pos c4] at h
        refine mAt.blk bk_X12_compared_82 ck_X12_compared_82 ?_
        refine q_iconst ?_
        refine mAt.blk bk_X12_compared_83 ck_X12_compared_83 ?_
        have h := Option.some.inj h
        subst h
        exact q_iretI mcap_0 rfl rfl
      · rw [if_neg c4] at h
        exact okc_X12_compared_78 G_X12_either G_X12_both G_X12_compared G_X12_sum G_X12_product G_X12_unit hdd h trivial
def b_X12_compared (g_X12_either : Sg → Option (Int32 × Sg)) (g_X12_both : Sg → Option (Int32 × Sg)) (g_X12_compared : Sg → Option (Int32 × Sg)) (g_X12_sum : Sg → Option (Int32 × Sg)) (g_X12_product : Sg → Option (Int32 × Sg)) (g_X12_unit : Sg → Option (Int32 × Sg)) (σ : Sg) : Option (Int32 × Sg) := ((g_X12_sum  σ).bind fun q7 => ((f_X12_here  q7.2).bind fun q8 => (if q8 = (60 : Int32) then (c_X12_compared_30  g_X12_either g_X12_both g_X12_compared g_X12_sum g_X12_product g_X12_unit q7.1 q8 q7.2) else (if q8 = (61 : Int32) then (c_X12_compared_30  g_X12_either g_X12_both g_X12_compared g_X12_sum g_X12_product g_X12_unit q7.1 q8 q7.2) else (if q8 = (62 : Int32) then (c_X12_compared_30  g_X12_either g_X12_both g_X12_compared g_X12_sum g_X12_product g_X12_unit q7.1 q8 q7.2) else (some (q7.1, q7.2)))))))
set_option maxHeartbeats 4000000 in
theorem okb_X12_compared {L : Nat} {g_X12_either : Sg → Option (Int32 × Sg)} {g_X12_both : Sg → Option (Int32 × Sg)} {g_X12_compared : Sg → Option (Int32 × Sg)} {g_X12_sum : Sg → Option (Int32 × Sg)} {g_X12_product : Sg → Option (Int32 × Sg)} {g_X12_unit : Sg → Option (Int32 × Sg)} {dd : Nat} {σ : Sg} {R : Int32 × Sg} (G_X12_either : ∀ (σ : Sg) (R : Int32 × Sg), g_X12_either  σ = some R → mEv dd 146 [.ref 93] (mSh, L, σ) (some (.int R.1)) (mSh, L, R.2)) (G_X12_both : ∀ (σ : Sg) (R : Int32 × Sg), g_X12_both  σ = some R → mEv dd 147 [.ref 93] (mSh, L, σ) (some (.int R.1)) (mSh, L, R.2)) (G_X12_compared : ∀ (σ : Sg) (R : Int32 × Sg), g_X12_compared  σ = some R → mEv dd 148 [.ref 93] (mSh, L, σ) (some (.int R.1)) (mSh, L, R.2)) (G_X12_sum : ∀ (σ : Sg) (R : Int32 × Sg), g_X12_sum  σ = some R → mEv dd 149 [.ref 93] (mSh, L, σ) (some (.int R.1)) (mSh, L, R.2)) (G_X12_product : ∀ (σ : Sg) (R : Int32 × Sg), g_X12_product  σ = some R → mEv dd 150 [.ref 93] (mSh, L, σ) (some (.int R.1)) (mSh, L, R.2)) (G_X12_unit : ∀ (σ : Sg) (R : Int32 × Sg), g_X12_unit  σ = some R → mEv dd 151 [.ref 93] (mSh, L, σ) (some (.int R.1)) (mSh, L, R.2)) (hdd : 2 ≤ dd) (h : b_X12_compared g_X12_either g_X12_both g_X12_compared g_X12_sum g_X12_product g_X12_unit σ = some R) : mEv (dd + 1) 148 [.ref 93] (mSh, L, σ) (some (.int R.1)) (mSh, L, R.2) := by
  refine mEv.of (by decide) rfl rfl ?_
  unfold b_X12_compared at h
  refine mAt.blk bk_X12_compared_0 ck_X12_compared_0 ?_
  refine q_aload_n rfl ?_
  obtain ⟨q7, e7, h⟩ := mbind h
  refine q_vI0 mcap_0 rfl rfl ob_93 rfl (by omega) (G_X12_sum _ _ e7) ?_
  refine q_istore_n rfl rfl ?_
  refine q_aload_n rfl ?_
  obtain ⟨q8, e8, h⟩ := mbind h
  refine q_vI0 mcap_0 rfl rfl ob_93 rfl (by omega) (ok_X12_here  e8) ?_
  refine q_istore_n rfl rfl ?_
  refine q_iload_n rfl ?_
  refine q_bipush ?_
  refine q_ic_eq (fun c9 => ?_) (fun c9 => ?_)
  · rw [if_pos c9] at h
    exact okc_X12_compared_30 G_X12_either G_X12_both G_X12_compared G_X12_sum G_X12_product G_X12_unit hdd h ⟨rfl, rfl, rfl, trivial⟩
  · rw [if_neg c9] at h
    refine q_iload_n rfl ?_
    refine q_bipush ?_
    refine q_ic_eq (fun c10 => ?_) (fun c10 => ?_)
    · rw [if_pos c10] at h
      exact okc_X12_compared_30 G_X12_either G_X12_both G_X12_compared G_X12_sum G_X12_product G_X12_unit hdd h ⟨rfl, rfl, rfl, trivial⟩
    · rw [if_neg c10] at h
      refine q_iload_n rfl ?_
      refine q_bipush ?_
      refine q_ic_eq (fun c11 => ?_) (fun c11 => ?_)
      · rw [if_pos c11] at h
        exact okc_X12_compared_30 G_X12_either G_X12_both G_X12_compared G_X12_sum G_X12_product G_X12_unit hdd h ⟨rfl, rfl, rfl, trivial⟩
      · rw [if_neg c11] at h
        refine q_iload_n rfl ?_
        have h := Option.some.inj h
        subst h
        exact q_iretI mcap_0 rfl rfl
def bk_X12_sum_0 : List mI := [(.aload_n 0, 1, 0, 0, 0, []), (.invokevirtual 86, 3, 150, 0, 1040, []), (.istore_n 1, 1, 0, 0, 0, [])]
theorem ck_X12_sum_0 : mChk 149 0 bk_X12_sum_0 = true := by decide +kernel
def bk_X12_sum_5 : List mI := [(.aload_n 0, 1, 0, 0, 0, []), (.invokevirtual 65, 3, 142, 0, 1048, []), (.bipush 43, 2, 0, 0, 0, [(43, 0)]), (.if_icmp .eq 12, 3, 23, 0, 0, []), (.aload_n 0, 1, 0, 0, 0, []), (.invokevirtual 65, 3, 142, 0, 1048, []), (.bipush 45, 2, 0, 0, 0, [(45, 0)]), (.if_icmp .ne 42, 3, 62, 0, 0, [])]
theorem ck_X12_sum_5 : mChk 149 5 bk_X12_sum_5 = true := by decide +kernel
def bk_X12_sum_23 : List mI := [(.aload_n 0, 1, 0, 0, 0, []), (.invokevirtual 65, 3, 142, 0, 1048, []), (.istore_n 2, 1, 0, 0, 0, []), (.aload_n 0, 1, 0, 0, 0, []), (.dup, 1, 0, 0, 0, []), (.getfield 52, 3, 12, 6, 943, []), (.iconst 1, 1, 0, 0, 0, [(1, 0)]), (.iadd, 1, 0, 0, 0, []), (.putfield 52, 3, 12, 6, 943, []), (.aload_n 0, 1, 0, 0, 0, []), (.invokevirtual 86, 3, 150, 0, 1040, []), (.istore_n 3, 1, 0, 0, 0, []), (.iload_n 2, 1, 0, 0, 0, []), (.bipush 43, 2, 0, 0, 0, [(43, 0)]), (.if_icmp .ne 9, 3, 55, 0, 0, []), (.iload_n 1, 1, 0, 0, 0, []), (.iload_n 3, 1, 0, 0, 0, []), (.iadd, 1, 0, 0, 0, []), (.goto 6, 3, 58, 0, 0, [])]
theorem ck_X12_sum_23 : mChk 149 23 bk_X12_sum_23 = true := by decide +kernel
def bk_X12_sum_55 : List mI := [(.iload_n 1, 1, 0, 0, 0, []), (.iload_n 3, 1, 0, 0, 0, []), (.isub, 1, 0, 0, 0, [])]
theorem ck_X12_sum_55 : mChk 149 55 bk_X12_sum_55 = true := by decide +kernel
def bk_X12_sum_58 : List mI := [(.istore_n 1, 1, 0, 0, 0, []), (.goto (-54), 3, 5, 0, 0, [])]
theorem ck_X12_sum_58 : mChk 149 58 bk_X12_sum_58 = true := by decide +kernel
def bk_X12_sum_62 : List mI := [(.iload_n 1, 1, 0, 0, 0, []), (.ireturn, 1, 0, 0, 0, [])]
theorem ck_X12_sum_62 : mChk 149 62 bk_X12_sum_62 = true := by decide +kernel
def c_X12_sum_58 (k5 : Int32 → Sg → Option (Int32 × Sg)) (g_X12_either : Sg → Option (Int32 × Sg)) (g_X12_both : Sg → Option (Int32 × Sg)) (g_X12_compared : Sg → Option (Int32 × Sg)) (g_X12_sum : Sg → Option (Int32 × Sg)) (g_X12_product : Sg → Option (Int32 × Sg)) (g_X12_unit : Sg → Option (Int32 × Sg)) (s0 : Int32) (σ : Sg) : Option (Int32 × Sg) := (k5 s0 σ)
set_option maxHeartbeats 4000000 in
theorem okc_X12_sum_58 {L : Nat} {k5 : Int32 → Sg → Option (Int32 × Sg)} {g_X12_either : Sg → Option (Int32 × Sg)} {g_X12_both : Sg → Option (Int32 × Sg)} {g_X12_compared : Sg → Option (Int32 × Sg)} {g_X12_sum : Sg → Option (Int32 × Sg)} {g_X12_product : Sg → Option (Int32 × Sg)} {g_X12_unit : Sg → Option (Int32 × Sg)} {dd : Nat} {R : Int32 × Sg} (G_X12_either : ∀ (σ : Sg) (R : Int32 × Sg), g_X12_either  σ = some R → mEv dd 146 [.ref 93] (mSh, L, σ) (some (.int R.1)) (mSh, L, R.2)) (G_X12_both : ∀ (σ : Sg) (R : Int32 × Sg), g_X12_both  σ = some R → mEv dd 147 [.ref 93] (mSh, L, σ) (some (.int R.1)) (mSh, L, R.2)) (G_X12_compared : ∀ (σ : Sg) (R : Int32 × Sg), g_X12_compared  σ = some R → mEv dd 148 [.ref 93] (mSh, L, σ) (some (.int R.1)) (mSh, L, R.2)) (G_X12_sum : ∀ (σ : Sg) (R : Int32 × Sg), g_X12_sum  σ = some R → mEv dd 149 [.ref 93] (mSh, L, σ) (some (.int R.1)) (mSh, L, R.2)) (G_X12_product : ∀ (σ : Sg) (R : Int32 × Sg), g_X12_product  σ = some R → mEv dd 150 [.ref 93] (mSh, L, σ) (some (.int R.1)) (mSh, L, R.2)) (G_X12_unit : ∀ (σ : Sg) (R : Int32 × Sg), g_X12_unit  σ = some R → mEv dd 151 [.ref 93] (mSh, L, σ) (some (.int R.1)) (mSh, L, R.2)) (hdd : 2 ≤ dd) (Hk5 : ∀ (x1 : Int32) (σ : Sg) (pl : mLoc), k5 x1 σ = some R → mlf [some (.ref 93), some (.int x1), none, none] pl → mAt (dd + 1) 149 (some (.int R.1), (mSh, L, R.2)) 5 pl [] (mSh, L, σ) 0 0) {s0 : Int32} {σ : Sg} {pl : mLoc} (h : c_X12_sum_58 k5 g_X12_either g_X12_both g_X12_compared g_X12_sum g_X12_product g_X12_unit s0 σ = some R) (hl : mlf [some (.ref 93), none, none, none] pl) : mAt (dd + 1) 149 (some (.int R.1), (mSh, L, R.2)) 58 pl [.int s0] (mSh, L, σ) 0 0 := by
  refine mAt.less hl ?_
  unfold c_X12_sum_58 at h
  refine mAt.blk bk_X12_sum_58 ck_X12_sum_58 ?_
  refine q_istore_n rfl rfl ?_
  refine q_goto ?_
  exact Hk5 _ _ _  h ⟨rfl, rfl, trivial⟩
def c_X12_sum_23 (k5 : Int32 → Sg → Option (Int32 × Sg)) (g_X12_either : Sg → Option (Int32 × Sg)) (g_X12_both : Sg → Option (Int32 × Sg)) (g_X12_compared : Sg → Option (Int32 × Sg)) (g_X12_sum : Sg → Option (Int32 × Sg)) (g_X12_product : Sg → Option (Int32 × Sg)) (g_X12_unit : Sg → Option (Int32 × Sg)) (x1 : Int32) (σ : Sg) : Option (Int32 × Sg) := ((f_X12_here  σ).bind fun q5 => ((g_X12_product  (mup σ 93 6 ((σ 93 6) + (1 : Int32)))).bind fun q6 => (if q5 = (43 : Int32) then (c_X12_sum_58 k5 g_X12_either g_X12_both g_X12_compared g_X12_sum g_X12_product g_X12_unit (x1 + q6.1) q6.2) else (c_X12_sum_58 k5 g_X12_either g_X12_both g_X12_compared g_X12_sum g_X12_product g_X12_unit (x1 - q6.1) q6.2))))
set_option maxHeartbeats 4000000 in
theorem okc_X12_sum_23 {L : Nat} {k5 : Int32 → Sg → Option (Int32 × Sg)} {g_X12_either : Sg → Option (Int32 × Sg)} {g_X12_both : Sg → Option (Int32 × Sg)} {g_X12_compared : Sg → Option (Int32 × Sg)} {g_X12_sum : Sg → Option (Int32 × Sg)} {g_X12_product : Sg → Option (Int32 × Sg)} {g_X12_unit : Sg → Option (Int32 × Sg)} {dd : Nat} {R : Int32 × Sg} (G_X12_either : ∀ (σ : Sg) (R : Int32 × Sg), g_X12_either  σ = some R → mEv dd 146 [.ref 93] (mSh, L, σ) (some (.int R.1)) (mSh, L, R.2)) (G_X12_both : ∀ (σ : Sg) (R : Int32 × Sg), g_X12_both  σ = some R → mEv dd 147 [.ref 93] (mSh, L, σ) (some (.int R.1)) (mSh, L, R.2)) (G_X12_compared : ∀ (σ : Sg) (R : Int32 × Sg), g_X12_compared  σ = some R → mEv dd 148 [.ref 93] (mSh, L, σ) (some (.int R.1)) (mSh, L, R.2)) (G_X12_sum : ∀ (σ : Sg) (R : Int32 × Sg), g_X12_sum  σ = some R → mEv dd 149 [.ref 93] (mSh, L, σ) (some (.int R.1)) (mSh, L, R.2)) (G_X12_product : ∀ (σ : Sg) (R : Int32 × Sg), g_X12_product  σ = some R → mEv dd 150 [.ref 93] (mSh, L, σ) (some (.int R.1)) (mSh, L, R.2)) (G_X12_unit : ∀ (σ : Sg) (R : Int32 × Sg), g_X12_unit  σ = some R → mEv dd 151 [.ref 93] (mSh, L, σ) (some (.int R.1)) (mSh, L, R.2)) (hdd : 2 ≤ dd) (Hk5 : ∀ (x1 : Int32) (σ : Sg) (pl : mLoc), k5 x1 σ = some R → mlf [some (.ref 93), some (.int x1), none, none] pl → mAt (dd + 1) 149 (some (.int R.1), (mSh, L, R.2)) 5 pl [] (mSh, L, σ) 0 0) {x1 : Int32} {σ : Sg} {pl : mLoc} (h : c_X12_sum_23 k5 g_X12_either g_X12_both g_X12_compared g_X12_sum g_X12_product g_X12_unit x1 σ = some R) (hl : mlf [some (.ref 93), some (.int x1), none, none] pl) : mAt (dd + 1) 149 (some (.int R.1), (mSh, L, R.2)) 23 pl [] (mSh, L, σ) 0 0 := by
  refine mAt.less hl ?_
  unfold c_X12_sum_23 at h
  refine mAt.blk bk_X12_sum_23 ck_X12_sum_23 ?_
  refine q_aload_n rfl ?_
  obtain ⟨q5, e5, h⟩ := mbind h
  refine q_vI0 mcap_0 rfl rfl ob_93 rfl (by omega) (ok_X12_here  e5) ?_
  refine q_istore_n rfl rfl ?_
  refine q_aload_n rfl ?_
  refine q_dupR ?_
  refine q_getI ob_93 rfl ?_
  refine q_iconst ?_
  refine q_iadd ?_
  refine q_putI ob_93 rfl ?_
  refine q_aload_n rfl ?_
  obtain ⟨q6, e6, h⟩ := mbind h
  refine q_vI0 mcap_0 rfl rfl ob_93 rfl (by omega) (G_X12_product _ _ e6) ?_
  refine q_istore_n rfl rfl ?_
  refine q_iload_n rfl ?_
  refine q_bipush ?_
  refine q_ic_ne (fun c7 => ?_) (fun c7 => ?_)
  · rw [if_pos c7] at h
    refine q_iload_n rfl ?_
    refine q_iload_n rfl ?_
    refine q_iadd ?_
    refine q_goto ?_
    exact okc_X12_sum_58 G_X12_either G_X12_both G_X12_compared G_X12_sum G_X12_product G_X12_unit hdd Hk5 h ⟨rfl, trivial⟩
  · rw [if_neg c7] at h
    refine mAt.blk bk_X12_sum_55 ck_X12_sum_55 ?_
    refine q_iload_n rfl ?_
    refine q_iload_n rfl ?_
    refine q_isub ?_
    exact okc_X12_sum_58 G_X12_either G_X12_both G_X12_compared G_X12_sum G_X12_product G_X12_unit hdd Hk5 h ⟨rfl, trivial⟩
def c_X12_sum_5 (g_X12_either : Sg → Option (Int32 × Sg)) (g_X12_both : Sg → Option (Int32 × Sg)) (g_X12_compared : Sg → Option (Int32 × Sg)) (g_X12_sum : Sg → Option (Int32 × Sg)) (g_X12_product : Sg → Option (Int32 × Sg)) (g_X12_unit : Sg → Option (Int32 × Sg)) : Nat → Int32 → Sg → Option (Int32 × Sg)
  | 0, _, _ => none
  | n + 1, x1, σ => ((f_X12_here  σ).bind fun q1 => (if q1 = (43 : Int32) then (c_X12_sum_23 (c_X12_sum_5 g_X12_either g_X12_both g_X12_compared g_X12_sum g_X12_product g_X12_unit n) g_X12_either g_X12_both g_X12_compared g_X12_sum g_X12_product g_X12_unit x1 σ) else ((f_X12_here  σ).bind fun q3 => (if q3 = (45 : Int32) then (c_X12_sum_23 (c_X12_sum_5 g_X12_either g_X12_both g_X12_compared g_X12_sum g_X12_product g_X12_unit n) g_X12_either g_X12_both g_X12_compared g_X12_sum g_X12_product g_X12_unit x1 σ) else (some (x1, σ))))))
set_option maxHeartbeats 4000000 in
theorem okc_X12_sum_5 {L : Nat} {g_X12_either : Sg → Option (Int32 × Sg)} {g_X12_both : Sg → Option (Int32 × Sg)} {g_X12_compared : Sg → Option (Int32 × Sg)} {g_X12_sum : Sg → Option (Int32 × Sg)} {g_X12_product : Sg → Option (Int32 × Sg)} {g_X12_unit : Sg → Option (Int32 × Sg)} {dd : Nat} {R : Int32 × Sg} (G_X12_either : ∀ (σ : Sg) (R : Int32 × Sg), g_X12_either  σ = some R → mEv dd 146 [.ref 93] (mSh, L, σ) (some (.int R.1)) (mSh, L, R.2)) (G_X12_both : ∀ (σ : Sg) (R : Int32 × Sg), g_X12_both  σ = some R → mEv dd 147 [.ref 93] (mSh, L, σ) (some (.int R.1)) (mSh, L, R.2)) (G_X12_compared : ∀ (σ : Sg) (R : Int32 × Sg), g_X12_compared  σ = some R → mEv dd 148 [.ref 93] (mSh, L, σ) (some (.int R.1)) (mSh, L, R.2)) (G_X12_sum : ∀ (σ : Sg) (R : Int32 × Sg), g_X12_sum  σ = some R → mEv dd 149 [.ref 93] (mSh, L, σ) (some (.int R.1)) (mSh, L, R.2)) (G_X12_product : ∀ (σ : Sg) (R : Int32 × Sg), g_X12_product  σ = some R → mEv dd 150 [.ref 93] (mSh, L, σ) (some (.int R.1)) (mSh, L, R.2)) (G_X12_unit : ∀ (σ : Sg) (R : Int32 × Sg), g_X12_unit  σ = some R → mEv dd 151 [.ref 93] (mSh, L, σ) (some (.int R.1)) (mSh, L, R.2)) (hdd : 2 ≤ dd) {n : Nat} {x1 : Int32} {σ : Sg} {pl : mLoc} (h : c_X12_sum_5 g_X12_either g_X12_both g_X12_compared g_X12_sum g_X12_product g_X12_unit n x1 σ = some R) (hl : mlf [some (.ref 93), some (.int x1), none, none] pl) : mAt (dd + 1) 149 (some (.int R.1), (mSh, L, R.2)) 5 pl [] (mSh, L, σ) 0 0 := by
  induction n generalizing x1 σ pl with
  | zero =>
    rw [c_X12_sum_5.eq_1] at h
    cases h
  | succ n ih =>
    refine mAt.less hl ?_
    rw [c_X12_sum_5.eq_2] at h
    refine mAt.blk bk_X12_sum_5 ck_X12_sum_5 ?_
    refine q_aload_n rfl ?_
    obtain ⟨q1, e1, h⟩ := mbind h
    refine q_vI0 mcap_0 rfl rfl ob_93 rfl (by omega) (ok_X12_here  e1) ?_
    refine q_bipush ?_
    refine q_ic_eq (fun c2 => ?_) (fun c2 => ?_)
    · rw [if_pos c2] at h
      exact okc_X12_sum_23 G_X12_either G_X12_both G_X12_compared G_X12_sum G_X12_product G_X12_unit hdd (fun _ _ _ e hl => ih  e hl) h ⟨rfl, rfl, trivial⟩
    · rw [if_neg c2] at h
      refine q_aload_n rfl ?_
      obtain ⟨q3, e3, h⟩ := mbind h
      refine q_vI0 mcap_0 rfl rfl ob_93 rfl (by omega) (ok_X12_here  e3) ?_
      refine q_bipush ?_
      refine q_ic_ne (fun c4 => ?_) (fun c4 => ?_)
      · rw [if_pos c4] at h
        exact okc_X12_sum_23 G_X12_either G_X12_both G_X12_compared G_X12_sum G_X12_product G_X12_unit hdd (fun _ _ _ e hl => ih  e hl) h ⟨rfl, rfl, trivial⟩
      · rw [if_neg c4] at h
        refine mAt.blk bk_X12_sum_62 ck_X12_sum_62 ?_
        refine q_iload_n rfl ?_
        have h := Option.some.inj h
        subst h
        exact q_iretI mcap_0 rfl rfl
def b_X12_sum (g_X12_either : Sg → Option (Int32 × Sg)) (g_X12_both : Sg → Option (Int32 × Sg)) (g_X12_compared : Sg → Option (Int32 × Sg)) (g_X12_sum : Sg → Option (Int32 × Sg)) (g_X12_product : Sg → Option (Int32 × Sg)) (g_X12_unit : Sg → Option (Int32 × Sg)) (σ : Sg) : Option (Int32 × Sg) := ((g_X12_product  σ).bind fun q8 => (c_X12_sum_5  g_X12_either g_X12_both g_X12_compared g_X12_sum g_X12_product g_X12_unit 1000 q8.1 q8.2))
set_option maxHeartbeats 4000000 in
theorem okb_X12_sum {L : Nat} {g_X12_either : Sg → Option (Int32 × Sg)} {g_X12_both : Sg → Option (Int32 × Sg)} {g_X12_compared : Sg → Option (Int32 × Sg)} {g_X12_sum : Sg → Option (Int32 × Sg)} {g_X12_product : Sg → Option (Int32 × Sg)} {g_X12_unit : Sg → Option (Int32 × Sg)} {dd : Nat} {σ : Sg} {R : Int32 × Sg} (G_X12_either : ∀ (σ : Sg) (R : Int32 × Sg), g_X12_either  σ = some R → mEv dd 146 [.ref 93] (mSh, L, σ) (some (.int R.1)) (mSh, L, R.2)) (G_X12_both : ∀ (σ : Sg) (R : Int32 × Sg), g_X12_both  σ = some R → mEv dd 147 [.ref 93] (mSh, L, σ) (some (.int R.1)) (mSh, L, R.2)) (G_X12_compared : ∀ (σ : Sg) (R : Int32 × Sg), g_X12_compared  σ = some R → mEv dd 148 [.ref 93] (mSh, L, σ) (some (.int R.1)) (mSh, L, R.2)) (G_X12_sum : ∀ (σ : Sg) (R : Int32 × Sg), g_X12_sum  σ = some R → mEv dd 149 [.ref 93] (mSh, L, σ) (some (.int R.1)) (mSh, L, R.2)) (G_X12_product : ∀ (σ : Sg) (R : Int32 × Sg), g_X12_product  σ = some R → mEv dd 150 [.ref 93] (mSh, L, σ) (some (.int R.1)) (mSh, L, R.2)) (G_X12_unit : ∀ (σ : Sg) (R : Int32 × Sg), g_X12_unit  σ = some R → mEv dd 151 [.ref 93] (mSh, L, σ) (some (.int R.1)) (mSh, L, R.2)) (hdd : 2 ≤ dd) (h : b_X12_sum g_X12_either g_X12_both g_X12_compared g_X12_sum g_X12_product g_X12_unit σ = some R) : mEv (dd + 1) 149 [.ref 93] (mSh, L, σ) (some (.int R.1)) (mSh, L, R.2) := by
  refine mEv.of (by decide) rfl rfl ?_
  unfold b_X12_sum at h
  refine mAt.blk bk_X12_sum_0 ck_X12_sum_0 ?_
  refine q_aload_n rfl ?_
  obtain ⟨q8, e8, h⟩ := mbind h
  refine q_vI0 mcap_0 rfl rfl ob_93 rfl (by omega) (G_X12_product _ _ e8) ?_
  refine q_istore_n rfl rfl ?_
  exact okc_X12_sum_5 G_X12_either G_X12_both G_X12_compared G_X12_sum G_X12_product G_X12_unit hdd h ⟨rfl, rfl, trivial⟩
def bk_X12_product_0 : List mI := [(.aload_n 0, 1, 0, 0, 0, []), (.invokevirtual 89, 3, 151, 0, 1044, []), (.istore_n 1, 1, 0, 0, 0, [])]
theorem ck_X12_product_0 : mChk 150 0 bk_X12_product_0 = true := by decide +kernel
def bk_X12_product_5 : List mI := [(.aload_n 0, 1, 0, 0, 0, []), (.invokevirtual 65, 3, 142, 0, 1048, []), (.bipush 42, 2, 0, 0, 0, [(42, 0)]), (.if_icmp .eq 21, 3, 32, 0, 0, []), (.aload_n 0, 1, 0, 0, 0, []), (.invokevirtual 65, 3, 142, 0, 1048, []), (.bipush 47, 2, 0, 0, 0, [(47, 0)]), (.if_icmp .eq 12, 3, 32, 0, 0, []), (.aload_n 0, 1, 0, 0, 0, []), (.invokevirtual 65, 3, 142, 0, 1048, []), (.bipush 37, 2, 0, 0, 0, [(37, 0)]), (.if_icmp .ne 62, 3, 91, 0, 0, [])]
theorem ck_X12_product_5 : mChk 150 5 bk_X12_product_5 = true := by decide +kernel
def bk_X12_product_32 : List mI := [(.aload_n 0, 1, 0, 0, 0, []), (.invokevirtual 65, 3, 142, 0, 1048, []), (.istore_n 2, 1, 0, 0, 0, []), (.aload_n 0, 1, 0, 0, 0, []), (.dup, 1, 0, 0, 0, []), (.getfield 52, 3, 12, 6, 943, []), (.iconst 1, 1, 0, 0, 0, [(1, 0)]), (.iadd, 1, 0, 0, 0, []), (.putfield 52, 3, 12, 6, 943, []), (.aload_n 0, 1, 0, 0, 0, []), (.invokevirtual 89, 3, 151, 0, 1044, []), (.istore_n 3, 1, 0, 0, 0, []), (.iload_n 2, 1, 0, 0, 0, []), (.bipush 42, 2, 0, 0, 0, [(42, 0)]), (.if_icmp .ne 9, 3, 64, 0, 0, []), (.iload_n 1, 1, 0, 0, 0, []), (.iload_n 3, 1, 0, 0, 0, []), (.imul, 1, 0, 0, 0, []), (.goto 26, 3, 87, 0, 0, [])]
theorem ck_X12_product_32 : mChk 150 32 bk_X12_product_32 = true := by decide +kernel
def bk_X12_product_64 : List mI := [(.iload_n 3, 1, 0, 0, 0, []), (.ifCond .ne 7, 3, 72, 0, 0, []), (.iconst 0, 1, 0, 0, 0, [(0, 0)]), (.goto 18, 3, 87, 0, 0, [])]
theorem ck_X12_product_64 : mChk 150 64 bk_X12_product_64 = true := by decide +kernel
def bk_X12_product_72 : List mI := [(.iload_n 2, 1, 0, 0, 0, []), (.bipush 47, 2, 0, 0, 0, [(47, 0)]), (.if_icmp .ne 9, 3, 84, 0, 0, []), (.iload_n 1, 1, 0, 0, 0, []), (.iload_n 3, 1, 0, 0, 0, []), (.idiv, 1, 0, 0, 0, []), (.goto 6, 3, 87, 0, 0, [])]
theorem ck_X12_product_72 : mChk 150 72 bk_X12_product_72 = true := by decide +kernel
def bk_X12_product_84 : List mI := [(.iload_n 1, 1, 0, 0, 0, []), (.iload_n 3, 1, 0, 0, 0, []), (.irem, 1, 0, 0, 0, [])]
theorem ck_X12_product_84 : mChk 150 84 bk_X12_product_84 = true := by decide +kernel
def bk_X12_product_87 : List mI := [(.istore_n 1, 1, 0, 0, 0, []), (.goto (-83), 3, 5, 0, 0, [])]
theorem ck_X12_product_87 : mChk 150 87 bk_X12_product_87 = true := by decide +kernel
def bk_X12_product_91 : List mI := [(.iload_n 1, 1, 0, 0, 0, []), (.ireturn, 1, 0, 0, 0, [])]
theorem ck_X12_product_91 : mChk 150 91 bk_X12_product_91 = true := by decide +kernel
def c_X12_product_87 (k5 : Int32 → Sg → Option (Int32 × Sg)) (g_X12_either : Sg → Option (Int32 × Sg)) (g_X12_both : Sg → Option (Int32 × Sg)) (g_X12_compared : Sg → Option (Int32 × Sg)) (g_X12_sum : Sg → Option (Int32 × Sg)) (g_X12_product : Sg → Option (Int32 × Sg)) (g_X12_unit : Sg → Option (Int32 × Sg)) (s0 : Int32) (σ : Sg) : Option (Int32 × Sg) := (k5 s0 σ)
set_option maxHeartbeats 4000000 in
theorem okc_X12_product_87 {L : Nat} {k5 : Int32 → Sg → Option (Int32 × Sg)} {g_X12_either : Sg → Option (Int32 × Sg)} {g_X12_both : Sg → Option (Int32 × Sg)} {g_X12_compared : Sg → Option (Int32 × Sg)} {g_X12_sum : Sg → Option (Int32 × Sg)} {g_X12_product : Sg → Option (Int32 × Sg)} {g_X12_unit : Sg → Option (Int32 × Sg)} {dd : Nat} {R : Int32 × Sg} (G_X12_either : ∀ (σ : Sg) (R : Int32 × Sg), g_X12_either  σ = some R → mEv dd 146 [.ref 93] (mSh, L, σ) (some (.int R.1)) (mSh, L, R.2)) (G_X12_both : ∀ (σ : Sg) (R : Int32 × Sg), g_X12_both  σ = some R → mEv dd 147 [.ref 93] (mSh, L, σ) (some (.int R.1)) (mSh, L, R.2)) (G_X12_compared : ∀ (σ : Sg) (R : Int32 × Sg), g_X12_compared  σ = some R → mEv dd 148 [.ref 93] (mSh, L, σ) (some (.int R.1)) (mSh, L, R.2)) (G_X12_sum : ∀ (σ : Sg) (R : Int32 × Sg), g_X12_sum  σ = some R → mEv dd 149 [.ref 93] (mSh, L, σ) (some (.int R.1)) (mSh, L, R.2)) (G_X12_product : ∀ (σ : Sg) (R : Int32 × Sg), g_X12_product  σ = some R → mEv dd 150 [.ref 93] (mSh, L, σ) (some (.int R.1)) (mSh, L, R.2)) (G_X12_unit : ∀ (σ : Sg) (R : Int32 × Sg), g_X12_unit  σ = some R → mEv dd 151 [.ref 93] (mSh, L, σ) (some (.int R.1)) (mSh, L, R.2)) (hdd : 2 ≤ dd) (Hk5 : ∀ (x1 : Int32) (σ : Sg) (pl : mLoc), k5 x1 σ = some R → mlf [some (.ref 93), some (.int x1), none, none] pl → mAt (dd + 1) 150 (some (.int R.1), (mSh, L, R.2)) 5 pl [] (mSh, L, σ) 0 0) {s0 : Int32} {σ : Sg} {pl : mLoc} (h : c_X12_product_87 k5 g_X12_either g_X12_both g_X12_compared g_X12_sum g_X12_product g_X12_unit s0 σ = some R) (hl : mlf [some (.ref 93), none, none, none] pl) : mAt (dd + 1) 150 (some (.int R.1), (mSh, L, R.2)) 87 pl [.int s0] (mSh, L, σ) 0 0 := by
  refine mAt.less hl ?_
  unfold c_X12_product_87 at h
  refine mAt.blk bk_X12_product_87 ck_X12_product_87 ?_
  refine q_istore_n rfl rfl ?_
  refine q_goto ?_
  exact Hk5 _ _ _  h ⟨rfl, rfl, trivial⟩
def c_X12_product_32 (k5 : Int32 → Sg → Option (Int32 × Sg)) (g_X12_either : Sg → Option (Int32 × Sg)) (g_X12_both : Sg → Option (Int32 × Sg)) (g_X12_compared : Sg → Option (Int32 × Sg)) (g_X12_sum : Sg → Option (Int32 × Sg)) (g_X12_product : Sg → Option (Int32 × Sg)) (g_X12_unit : Sg → Option (Int32 × Sg)) (x1 : Int32) (σ : Sg) : Option (Int32 × Sg) := ((f_X12_here  σ).bind fun q7 => ((g_X12_unit  (mup σ 93 6 ((σ 93 6) + (1 : Int32)))).bind fun q8 => (if q7 = (42 : Int32) then (c_X12_product_87 k5 g_X12_either g_X12_both g_X12_compared g_X12_sum g_X12_product g_X12_unit (x1 * q8.1) q8.2) else (if q8.1 = 0 then (c_X12_product_87 k5 g_X12_either g_X12_both g_X12_compared g_X12_sum g_X12_product g_X12_unit (0 : Int32) q8.2) else (if q7 = (47 : Int32) then (if q8.1 = 0 then none else (c_X12_product_87 k5 g_X12_either g_X12_both g_X12_compared g_X12_sum g_X12_product g_X12_unit (x1 / q8.1) q8.2)) else (if q8.1 = 0 then none else (c_X12_product_87 k5 g_X12_either g_X12_both g_X12_compared g_X12_sum g_X12_product g_X12_unit (x1 - x1 / q8.1 * q8.1) q8.2)))))))
set_option maxHeartbeats 4000000 in
theorem okc_X12_product_32 {L : Nat} {k5 : Int32 → Sg → Option (Int32 × Sg)} {g_X12_either : Sg → Option (Int32 × Sg)} {g_X12_both : Sg → Option (Int32 × Sg)} {g_X12_compared : Sg → Option (Int32 × Sg)} {g_X12_sum : Sg → Option (Int32 × Sg)} {g_X12_product : Sg → Option (Int32 × Sg)} {g_X12_unit : Sg → Option (Int32 × Sg)} {dd : Nat} {R : Int32 × Sg} (G_X12_either : ∀ (σ : Sg) (R : Int32 × Sg), g_X12_either  σ = some R → mEv dd 146 [.ref 93] (mSh, L, σ) (some (.int R.1)) (mSh, L, R.2)) (G_X12_both : ∀ (σ : Sg) (R : Int32 × Sg), g_X12_both  σ = some R → mEv dd 147 [.ref 93] (mSh, L, σ) (some (.int R.1)) (mSh, L, R.2)) (G_X12_compared : ∀ (σ : Sg) (R : Int32 × Sg), g_X12_compared  σ = some R → mEv dd 148 [.ref 93] (mSh, L, σ) (some (.int R.1)) (mSh, L, R.2)) (G_X12_sum : ∀ (σ : Sg) (R : Int32 × Sg), g_X12_sum  σ = some R → mEv dd 149 [.ref 93] (mSh, L, σ) (some (.int R.1)) (mSh, L, R.2)) (G_X12_product : ∀ (σ : Sg) (R : Int32 × Sg), g_X12_product  σ = some R → mEv dd 150 [.ref 93] (mSh, L, σ) (some (.int R.1)) (mSh, L, R.2)) (G_X12_unit : ∀ (σ : Sg) (R : Int32 × Sg), g_X12_unit  σ = some R → mEv dd 151 [.ref 93] (mSh, L, σ) (some (.int R.1)) (mSh, L, R.2)) (hdd : 2 ≤ dd) (Hk5 : ∀ (x1 : Int32) (σ : Sg) (pl : mLoc), k5 x1 σ = some R → mlf [some (.ref 93), some (.int x1), none, none] pl → mAt (dd + 1) 150 (some (.int R.1), (mSh, L, R.2)) 5 pl [] (mSh, L, σ) 0 0) {x1 : Int32} {σ : Sg} {pl : mLoc} (h : c_X12_product_32 k5 g_X12_either g_X12_both g_X12_compared g_X12_sum g_X12_product g_X12_unit x1 σ = some R) (hl : mlf [some (.ref 93), some (.int x1), none, none] pl) : mAt (dd + 1) 150 (some (.int R.1), (mSh, L, R.2)) 32 pl [] (mSh, L, σ) 0 0 := by
  refine mAt.less hl ?_
  unfold c_X12_product_32 at h
  refine mAt.blk bk_X12_product_32 ck_X12_product_32 ?_
  refine q_aload_n rfl ?_
  obtain ⟨q7, e7, h⟩ := mbind h
  refine q_vI0 mcap_0 rfl rfl ob_93 rfl (by omega) (ok_X12_here  e7) ?_
  refine q_istore_n rfl rfl ?_
  refine q_aload_n rfl ?_
  refine q_dupR ?_
  refine q_getI ob_93 rfl ?_
  refine q_iconst ?_
  refine q_iadd ?_
  refine q_putI ob_93 rfl ?_
  refine q_aload_n rfl ?_
  obtain ⟨q8, e8, h⟩ := mbind h
  refine q_vI0 mcap_0 rfl rfl ob_93 rfl (by omega) (G_X12_unit _ _ e8) ?_
  refine q_istore_n rfl rfl ?_
  refine q_iload_n rfl ?_
  refine q_bipush ?_
  refine q_ic_ne (fun c9 => ?_) (fun c9 => ?_)
  · rw [if_pos c9] at h
    refine q_iload_n rfl ?_
    refine q_iload_n rfl ?_
    refine q_imul ?_
    refine q_goto ?_
    exact okc_X12_product_87 G_X12_either G_X12_both G_X12_compared G_X12_sum G_X12_product G_X12_unit hdd Hk5 h ⟨rfl, trivial⟩
  · rw [if_neg c9] at h
    refine mAt.blk bk_X12_product_64 ck_X12_product_64 ?_
    refine q_iload_n rfl ?_
    refine q_if_ne (fun c10 => ?_) (fun c10 => ?_)
    · rw [if_pos c10] at h
      refine q_iconst ?_
      refine q_goto ?_
      exact okc_X12_product_87 G_X12_either G_X12_both G_X12_compared G_X12_sum G_X12_product G_X12_unit hdd Hk5 h ⟨rfl, trivial⟩
    · rw [if_neg c10] at h
      refine mAt.blk bk_X12_product_72 ck_X12_product_72 ?_
      refine q_iload_n rfl ?_
      refine q_bipush ?_
      refine q_ic_ne (fun c11 => ?_) (fun c11 => ?_)
      · rw [if_pos c11] at h
        refine q_iload_n rfl ?_
        refine q_iload_n rfl ?_
        obtain ⟨c13, h⟩ := mnone h
        refine q_idiv c13 ?_
        refine q_goto ?_
        exact okc_X12_product_87 G_X12_either G_X12_both G_X12_compared G_X12_sum G_X12_product G_X12_unit hdd Hk5 h ⟨rfl, trivial⟩
      · rw [if_neg c11] at h
        refine mAt.blk bk_X12_product_84 ck_X12_product_84 ?_
        refine q_iload_n rfl ?_
        refine q_iload_n rfl ?_
        obtain ⟨c12, h⟩ := mnone h
        refine q_irem c12 ?_
        exact okc_X12_product_87 G_X12_either G_X12_both G_X12_compared G_X12_sum G_X12_product G_X12_unit hdd Hk5 h ⟨rfl, trivial⟩
def c_X12_product_5 (g_X12_either : Sg → Option (Int32 × Sg)) (g_X12_both : Sg → Option (Int32 × Sg)) (g_X12_compared : Sg → Option (Int32 × Sg)) (g_X12_sum : Sg → Option (Int32 × Sg)) (g_X12_product : Sg → Option (Int32 × Sg)) (g_X12_unit : Sg → Option (Int32 × Sg)) : Nat → Int32 → Sg → Option (Int32 × Sg)
  | 0, _, _ => none
  | n + 1, x1, σ => ((f_X12_here  σ).bind fun q1 => (if q1 = (42 : Int32) then (c_X12_product_32 (c_X12_product_5 g_X12_either g_X12_both g_X12_compared g_X12_sum g_X12_product g_X12_unit n) g_X12_either g_X12_both g_X12_compared g_X12_sum g_X12_product g_X12_unit x1 σ) else ((f_X12_here  σ).bind fun q3 => (if q3 = (47 : Int32) then (c_X12_product_32 (c_X12_product_5 g_X12_either g_X12_both g_X12_compared g_X12_sum g_X12_product g_X12_unit n) g_X12_either g_X12_both g_X12_compared g_X12_sum g_X12_product g_X12_unit x1 σ) else ((f_X12_here  σ).bind fun q5 => (if q5 = (37 : Int32) then (c_X12_product_32 (c_X12_product_5 g_X12_either g_X12_both g_X12_compared g_X12_sum g_X12_product g_X12_unit n) g_X12_either g_X12_both g_X12_compared g_X12_sum g_X12_product g_X12_unit x1 σ) else (some (x1, σ))))))))
set_option maxHeartbeats 4000000 in
theorem okc_X12_product_5 {L : Nat} {g_X12_either : Sg → Option (Int32 × Sg)} {g_X12_both : Sg → Option (Int32 × Sg)} {g_X12_compared : Sg → Option (Int32 × Sg)} {g_X12_sum : Sg → Option (Int32 × Sg)} {g_X12_product : Sg → Option (Int32 × Sg)} {g_X12_unit : Sg → Option (Int32 × Sg)} {dd : Nat} {R : Int32 × Sg} (G_X12_either : ∀ (σ : Sg) (R : Int32 × Sg), g_X12_either  σ = some R → mEv dd 146 [.ref 93] (mSh, L, σ) (some (.int R.1)) (mSh, L, R.2)) (G_X12_both : ∀ (σ : Sg) (R : Int32 × Sg), g_X12_both  σ = some R → mEv dd 147 [.ref 93] (mSh, L, σ) (some (.int R.1)) (mSh, L, R.2)) (G_X12_compared : ∀ (σ : Sg) (R : Int32 × Sg), g_X12_compared  σ = some R → mEv dd 148 [.ref 93] (mSh, L, σ) (some (.int R.1)) (mSh, L, R.2)) (G_X12_sum : ∀ (σ : Sg) (R : Int32 × Sg), g_X12_sum  σ = some R → mEv dd 149 [.ref 93] (mSh, L, σ) (some (.int R.1)) (mSh, L, R.2)) (G_X12_product : ∀ (σ : Sg) (R : Int32 × Sg), g_X12_product  σ = some R → mEv dd 150 [.ref 93] (mSh, L, σ) (some (.int R.1)) (mSh, L, R.2)) (G_X12_unit : ∀ (σ : Sg) (R : Int32 × Sg), g_X12_unit  σ = some R → mEv dd 151 [.ref 93] (mSh, L, σ) (some (.int R.1)) (mSh, L, R.2)) (hdd : 2 ≤ dd) {n : Nat} {x1 : Int32} {σ : Sg} {pl : mLoc} (h : c_X12_product_5 g_X12_either g_X12_both g_X12_compared g_X12_sum g_X12_product g_X12_unit n x1 σ = some R) (hl : mlf [some (.ref 93), some (.int x1), none, none] pl) : mAt (dd + 1) 150 (some (.int R.1), (mSh, L, R.2)) 5 pl [] (mSh, L, σ) 0 0 := by
  induction n generalizing x1 σ pl with
  | zero =>
    rw [c_X12_product_5.eq_1] at h
    cases h
  | succ n ih =>
    refine mAt.less hl ?_
    rw [c_X12_product_5.eq_2] at h
    refine mAt.blk bk_X12_product_5 ck_X12_product_5 ?_
    refine q_aload_n rfl ?_
    obtain ⟨q1, e1, h⟩ := mbind h
    refine q_vI0 mcap_0 rfl rfl ob_93 rfl (by omega) (ok_X12_here  e1) ?_
    refine q_bipush ?_
    refine q_ic_eq (fun c2 => ?_) (fun c2 => ?_)
    · rw [if_pos c2] at h
      exact okc_X12_product_32 G_X12_either G_X12_both G_X12_compared G_X12_sum G_X12_product G_X12_unit hdd (fun _ _ _ e hl => ih  e hl) h ⟨rfl, rfl, trivial⟩
    · rw [if_neg c2] at h
      refine q_aload_n rfl ?_
      obtain ⟨q3, e3, h⟩ := mbind h
      refine q_vI0 mcap_0 rfl rfl ob_93 rfl (by omega) (ok_X12_here  e3) ?_
      refine q_bipush ?_
      refine q_ic_eq (fun c4 => ?_) (fun c4 => ?_)
      · rw [if_pos c4] at h
        exact okc_X12_product_32 G_X12_either G_X12_both G_X12_compared G_X12_sum G_X12_product G_X12_unit hdd (fun _ _ _ e hl => ih  e hl) h ⟨rfl, rfl, trivial⟩
      · rw [if_neg c4] at h
        refine q_aload_n rfl ?_
        obtain ⟨q5, e5, h⟩ := mbind h
        refine q_vI0 mcap_0 rfl rfl ob_93 rfl (by omega) (ok_X12_here  e5) ?_
        refine q_bipush ?_
        refine q_ic_ne (fun c6 => ?_) (fun c6 => ?_)
        · rw [if_pos c6] at h
          exact okc_X12_product_32 G_X12_either G_X12_both G_X12_compared G_X12_sum G_X12_product G_X12_unit hdd (fun _ _ _ e hl => ih  e hl) h ⟨rfl, rfl, trivial⟩
        · rw [if_neg c6] at h
          refine mAt.blk bk_X12_product_91 ck_X12_product_91 ?_
          refine q_iload_n rfl ?_
          have h := Option.some.inj h
          subst h
          exact q_iretI mcap_0 rfl rfl
def b_X12_product (g_X12_either : Sg → Option (Int32 × Sg)) (g_X12_both : Sg → Option (Int32 × Sg)) (g_X12_compared : Sg → Option (Int32 × Sg)) (g_X12_sum : Sg → Option (Int32 × Sg)) (g_X12_product : Sg → Option (Int32 × Sg)) (g_X12_unit : Sg → Option (Int32 × Sg)) (σ : Sg) : Option (Int32 × Sg) := ((g_X12_unit  σ).bind fun q14 => (c_X12_product_5  g_X12_either g_X12_both g_X12_compared g_X12_sum g_X12_product g_X12_unit 1000 q14.1 q14.2))
set_option maxHeartbeats 4000000 in
theorem okb_X12_product {L : Nat} {g_X12_either : Sg → Option (Int32 × Sg)} {g_X12_both : Sg → Option (Int32 × Sg)} {g_X12_compared : Sg → Option (Int32 × Sg)} {g_X12_sum : Sg → Option (Int32 × Sg)} {g_X12_product : Sg → Option (Int32 × Sg)} {g_X12_unit : Sg → Option (Int32 × Sg)} {dd : Nat} {σ : Sg} {R : Int32 × Sg} (G_X12_either : ∀ (σ : Sg) (R : Int32 × Sg), g_X12_either  σ = some R → mEv dd 146 [.ref 93] (mSh, L, σ) (some (.int R.1)) (mSh, L, R.2)) (G_X12_both : ∀ (σ : Sg) (R : Int32 × Sg), g_X12_both  σ = some R → mEv dd 147 [.ref 93] (mSh, L, σ) (some (.int R.1)) (mSh, L, R.2)) (G_X12_compared : ∀ (σ : Sg) (R : Int32 × Sg), g_X12_compared  σ = some R → mEv dd 148 [.ref 93] (mSh, L, σ) (some (.int R.1)) (mSh, L, R.2)) (G_X12_sum : ∀ (σ : Sg) (R : Int32 × Sg), g_X12_sum  σ = some R → mEv dd 149 [.ref 93] (mSh, L, σ) (some (.int R.1)) (mSh, L, R.2)) (G_X12_product : ∀ (σ : Sg) (R : Int32 × Sg), g_X12_product  σ = some R → mEv dd 150 [.ref 93] (mSh, L, σ) (some (.int R.1)) (mSh, L, R.2)) (G_X12_unit : ∀ (σ : Sg) (R : Int32 × Sg), g_X12_unit  σ = some R → mEv dd 151 [.ref 93] (mSh, L, σ) (some (.int R.1)) (mSh, L, R.2)) (hdd : 2 ≤ dd) (h : b_X12_product g_X12_either g_X12_both g_X12_compared g_X12_sum g_X12_product g_X12_unit σ = some R) : mEv (dd + 1) 150 [.ref 93] (mSh, L, σ) (some (.int R.1)) (mSh, L, R.2) := by
  refine mEv.of (by decide) rfl rfl ?_
  unfold b_X12_product at h
  refine mAt.blk bk_X12_product_0 ck_X12_product_0 ?_
  refine q_aload_n rfl ?_
  obtain ⟨q14, e14, h⟩ := mbind h
  refine q_vI0 mcap_0 rfl rfl ob_93 rfl (by omega) (G_X12_unit _ _ e14) ?_
  refine q_istore_n rfl rfl ?_
  exact okc_X12_product_5 G_X12_either G_X12_both G_X12_compared G_X12_sum G_X12_product G_X12_unit hdd h ⟨rfl, rfl, trivial⟩
def bk_X12_unit_0 : List mI := [(.aload_n 0, 1, 0, 0, 0, []), (.invokevirtual 65, 3, 142, 0, 1048, []), (.istore_n 1, 1, 0, 0, 0, []), (.iload_n 1, 1, 0, 0, 0, []), (.bipush 33, 2, 0, 0, 0, [(33, 0)]), (.if_icmp .eq 9, 3, 17, 0, 0, []), (.iload_n 1, 1, 0, 0, 0, []), (.bipush 40, 2, 0, 0, 0, [(40, 0)]), (.if_icmp .ne 104, 3, 118, 0, 0, [])]
theorem ck_X12_unit_0 : mChk 151 0 bk_X12_unit_0 = true := by decide +kernel
def bk_X12_unit_17 : List mI := [(.aload_n 0, 1, 0, 0, 0, []), (.getfield 92, 3, 12, 9, 946, []), (.iconst 5, 1, 0, 0, 0, [(5, 0)]), (.if_icmp .ne 8, 3, 30, 0, 0, []), (.aload_n 0, 1, 0, 0, 0, []), (.invokevirtual 95, 3, 143, 0, 1052, []), (.ireturn, 1, 0, 0, 0, [])]
theorem ck_X12_unit_17 : mChk 151 17 bk_X12_unit_17 = true := by decide +kernel
def bk_X12_unit_30 : List mI := [(.aload_n 0, 1, 0, 0, 0, []), (.dup, 1, 0, 0, 0, []), (.getfield 92, 3, 12, 9, 946, []), (.iconst 1, 1, 0, 0, 0, [(1, 0)]), (.iadd, 1, 0, 0, 0, []), (.putfield 92, 3, 12, 9, 946, []), (.aload_n 0, 1, 0, 0, 0, []), (.dup, 1, 0, 0, 0, []), (.getfield 52, 3, 12, 6, 943, []), (.iconst 1, 1, 0, 0, 0, [(1, 0)]), (.iadd, 1, 0, 0, 0, []), (.putfield 52, 3, 12, 6, 943, []), (.iload_n 1, 1, 0, 0, 0, []), (.bipush 40, 2, 0, 0, 0, [(40, 0)]), (.if_icmp .ne 10, 3, 63, 0, 0, []), (.aload_n 0, 1, 0, 0, 0, []), (.invokevirtual 98, 3, 146, 0, 1024, []), (.goto 7, 3, 67, 0, 0, [])]
theorem ck_X12_unit_30 : mChk 151 30 bk_X12_unit_30 = true := by decide +kernel
def bk_X12_unit_63 : List mI := [(.aload_n 0, 1, 0, 0, 0, []), (.invokevirtual 89, 3, 151, 0, 1044, [])]
theorem ck_X12_unit_63 : mChk 151 63 bk_X12_unit_63 = true := by decide +kernel
def bk_X12_unit_67 : List mI := [(.istore_n 2, 1, 0, 0, 0, []), (.iload_n 1, 1, 0, 0, 0, []), (.bipush 40, 2, 0, 0, 0, [(40, 0)]), (.if_icmp .ne 17, 3, 88, 0, 0, []), (.aload_n 0, 1, 0, 0, 0, []), (.bipush 41, 2, 0, 0, 0, [(41, 0)]), (.invokevirtual 76, 3, 144, 0, 1056, []), (.ifCond .ne 8, 3, 88, 0, 0, []), (.aload_n 0, 1, 0, 0, 0, []), (.invokevirtual 95, 3, 143, 0, 1052, []), (.ireturn, 1, 0, 0, 0, [])]
theorem ck_X12_unit_67 : mChk 151 67 bk_X12_unit_67 = true := by decide +kernel
def bk_X12_unit_88 : List mI := [(.aload_n 0, 1, 0, 0, 0, []), (.dup, 1, 0, 0, 0, []), (.getfield 92, 3, 12, 9, 946, []), (.iconst 1, 1, 0, 0, 0, [(1, 0)]), (.isub, 1, 0, 0, 0, []), (.putfield 92, 3, 12, 9, 946, []), (.iload_n 1, 1, 0, 0, 0, []), (.bipush 40, 2, 0, 0, 0, [(40, 0)]), (.if_icmp .ne 7, 3, 108, 0, 0, []), (.iload_n 2, 1, 0, 0, 0, []), (.goto 12, 3, 117, 0, 0, [])]
theorem ck_X12_unit_88 : mChk 151 88 bk_X12_unit_88 = true := by decide +kernel
def bk_X12_unit_108 : List mI := [(.iload_n 2, 1, 0, 0, 0, []), (.ifCond .ne 7, 3, 116, 0, 0, []), (.iconst 1, 1, 0, 0, 0, [(1, 0)]), (.goto 4, 3, 117, 0, 0, [])]
theorem ck_X12_unit_108 : mChk 151 108 bk_X12_unit_108 = true := by decide +kernel
def bk_X12_unit_116 : List mI := [(.iconst 0, 1, 0, 0, 0, [(0, 0)])]
theorem ck_X12_unit_116 : mChk 151 116 bk_X12_unit_116 = true := by decide +kernel
def bk_X12_unit_117 : List mI := [(.ireturn, 1, 0, 0, 0, [])]
theorem ck_X12_unit_117 : mChk 151 117 bk_X12_unit_117 = true := by decide +kernel
def bk_X12_unit_118 : List mI := [(.aload_n 0, 1, 0, 0, 0, []), (.iload_n 1, 1, 0, 0, 0, []), (.invokevirtual 101, 3, 145, 0, 1060, []), (.istore_n 2, 1, 0, 0, 0, []), (.iload_n 2, 1, 0, 0, 0, []), (.ifCond .lt 20, 3, 145, 0, 0, []), (.aload_n 0, 1, 0, 0, 0, []), (.dup, 1, 0, 0, 0, []), (.getfield 52, 3, 12, 6, 943, []), (.iconst 1, 1, 0, 0, 0, [(1, 0)]), (.iadd, 1, 0, 0, 0, []), (.putfield 52, 3, 12, 6, 943, []), (.aload_n 0, 1, 0, 0, 0, []), (.getfield 22, 3, 12, 11, 948, []), (.iload_n 2, 1, 0, 0, 0, []), (.iaload, 1, 0, 0, 0, []), (.ireturn, 1, 0, 0, 0, [])]
theorem ck_X12_unit_118 : mChk 151 118 bk_X12_unit_118 = true := by decide +kernel
def bk_X12_unit_145 : List mI := [(.iconst 0, 1, 0, 0, 0, [(0, 0)]), (.istore_n 3, 1, 0, 0, 0, []), (.iconst 0, 1, 0, 0, 0, [(0, 0)]), (.istore 4, 2, 0, 0, 0, [])]
theorem ck_X12_unit_145 : mChk 151 145 bk_X12_unit_145 = true := by decide +kernel
def bk_X12_unit_150 : List mI := [(.iload 4, 2, 0, 0, 0, []), (.iconst 4, 1, 0, 0, 0, [(4, 0)]), (.if_icmp .ge 49, 3, 202, 0, 0, []), (.aload_n 0, 1, 0, 0, 0, []), (.invokevirtual 65, 3, 142, 0, 1048, []), (.i2l, 1, 0, 0, 0, []), (.ldc2_w 105, 3, 0, 0, 1064, [(48, 0)]), (.ldc2_w 107, 3, 0, 0, 1065, [(57, 0)]), (.invokestatic 48, 3, 135, 0, 1007, []), (.ifCond .eq 32, 3, 202, 0, 0, []), (.bipush 10, 2, 0, 0, 0, [(10, 0)]), (.iload_n 3, 1, 0, 0, 0, []), (.imul, 1, 0, 0, 0, []), (.aload_n 0, 1, 0, 0, 0, []), (.invokevirtual 65, 3, 142, 0, 1048, []), (.iadd, 1, 0, 0, 0, []), (.bipush 48, 2, 0, 0, 0, [(48, 0)]), (.isub, 1, 0, 0, 0, []), (.istore_n 3, 1, 0, 0, 0, []), (.aload_n 0, 1, 0, 0, 0, []), (.dup, 1, 0, 0, 0, []), (.getfield 52, 3, 12, 6, 943, []), (.iconst 1, 1, 0, 0, 0, [(1, 0)]), (.iadd, 1, 0, 0, 0, []), (.putfield 52, 3, 12, 6, 943, []), (.iinc 4 1, 3, 0, 0, 0, [(1, 0)]), (.goto (-49), 3, 150, 0, 0, [])]
theorem ck_X12_unit_150 : mChk 151 150 bk_X12_unit_150 = true := by decide +kernel
def bk_X12_unit_202 : List mI := [(.iload 4, 2, 0, 0, 0, []), (.ifCond .ne 10, 3, 214, 0, 0, []), (.aload_n 0, 1, 0, 0, 0, []), (.invokevirtual 95, 3, 143, 0, 1052, []), (.goto 4, 3, 215, 0, 0, [])]
theorem ck_X12_unit_202 : mChk 151 202 bk_X12_unit_202 = true := by decide +kernel
def bk_X12_unit_214 : List mI := [(.iload_n 3, 1, 0, 0, 0, [])]
theorem ck_X12_unit_214 : mChk 151 214 bk_X12_unit_214 = true := by decide +kernel
def bk_X12_unit_215 : List mI := [(.ireturn, 1, 0, 0, 0, [])]
theorem ck_X12_unit_215 : mChk 151 215 bk_X12_unit_215 = true := by decide +kernel
def c_X12_unit_88 (g_X12_either : Sg → Option (Int32 × Sg)) (g_X12_both : Sg → Option (Int32 × Sg)) (g_X12_compared : Sg → Option (Int32 × Sg)) (g_X12_sum : Sg → Option (Int32 × Sg)) (g_X12_product : Sg → Option (Int32 × Sg)) (g_X12_unit : Sg → Option (Int32 × Sg)) (x1 : Int32) (x2 : Int32) (σ : Sg) : Option (Int32 × Sg) := (if x1 = (40 : Int32) then (some (x2, (mup σ 93 9 ((σ 93 9) - (1 : Int32))))) else (if x2 = 0 then (some ((1 : Int32), (mup σ 93 9 ((σ 93 9) - (1 : Int32))))) else (some ((0 : Int32), (mup σ 93 9 ((σ 93 9) - (1 : Int32)))))))
set_option maxHeartbeats 4000000 in
theorem okc_X12_unit_88 {L : Nat} {g_X12_either : Sg → Option (Int32 × Sg)} {g_X12_both : Sg → Option (Int32 × Sg)} {g_X12_compared : Sg → Option (Int32 × Sg)} {g_X12_sum : Sg → Option (Int32 × Sg)} {g_X12_product : Sg → Option (Int32 × Sg)} {g_X12_unit : Sg → Option (Int32 × Sg)} {dd : Nat} {R : Int32 × Sg} (G_X12_either : ∀ (σ : Sg) (R : Int32 × Sg), g_X12_either  σ = some R → mEv dd 146 [.ref 93] (mSh, L, σ) (some (.int R.1)) (mSh, L, R.2)) (G_X12_both : ∀ (σ : Sg) (R : Int32 × Sg), g_X12_both  σ = some R → mEv dd 147 [.ref 93] (mSh, L, σ) (some (.int R.1)) (mSh, L, R.2)) (G_X12_compared : ∀ (σ : Sg) (R : Int32 × Sg), g_X12_compared  σ = some R → mEv dd 148 [.ref 93] (mSh, L, σ) (some (.int R.1)) (mSh, L, R.2)) (G_X12_sum : ∀ (σ : Sg) (R : Int32 × Sg), g_X12_sum  σ = some R → mEv dd 149 [.ref 93] (mSh, L, σ) (some (.int R.1)) (mSh, L, R.2)) (G_X12_product : ∀ (σ : Sg) (R : Int32 × Sg), g_X12_product  σ = some R → mEv dd 150 [.ref 93] (mSh, L, σ) (some (.int R.1)) (mSh, L, R.2)) (G_X12_unit : ∀ (σ : Sg) (R : Int32 × Sg), g_X12_unit  σ = some R → mEv dd 151 [.ref 93] (mSh, L, σ) (some (.int R.1)) (mSh, L, R.2)) (hdd : 2 ≤ dd) {x1 : Int32} {x2 : Int32} {σ : Sg} {pl : mLoc} (h : c_X12_unit_88 g_X12_either g_X12_both g_X12_compared g_X12_sum g_X12_product g_X12_unit x1 x2 σ = some R) (hl : mlf [some (.ref 93), some (.int x1), some (.int x2), none, none] pl) : mAt (dd + 1) 151 (some (.int R.1), (mSh, L, R.2)) 88 pl [] (mSh, L, σ) 0 0 := by
  refine mAt.less hl ?_
  unfold c_X12_unit_88 at h
  refine mAt.blk bk_X12_unit_88 ck_X12_unit_88 ?_
  refine q_aload_n rfl ?_
  refine q_dupR ?_
  refine q_getI ob_93 rfl ?_
  refine q_iconst ?_
  refine q_isub ?_
  refine q_putI ob_93 rfl ?_
  refine q_iload_n rfl ?_
  refine q_bipush ?_
  refine q_ic_ne (fun c10 => ?_) (fun c10 => ?_)
  · rw [if_pos c10] at h
    refine q_iload_n rfl ?_
    refine q_goto ?_
    refine mAt.blk bk_X12_unit_117 ck_X12_unit_117 ?_
    have h := Option.some.inj h
    subst h
    exact q_iretI mcap_0 rfl rfl
  · rw [if_neg c10] at h
    refine mAt.blk bk_X12_unit_108 ck_X12_unit_108 ?_
    refine q_iload_n rfl ?_
    refine q_if_ne (fun c11 => ?_) (fun c11 => ?_)
    · rw [if_pos c11] at h
      refine q_iconst ?_
      refine q_goto ?_
      refine mAt.blk bk_X12_unit_117 ck_X12_unit_117 ?_
      have h := Option.some.inj h
      subst h
      exact q_iretI mcap_0 rfl rfl
    · rw [if_neg c11] at h
      refine mAt.blk bk_X12_unit_116 ck_X12_unit_116 ?_
      refine q_iconst ?_
      refine mAt.blk bk_X12_unit_117 ck_X12_unit_117 ?_
      have h := Option.some.inj h
      subst h
      exact q_iretI mcap_0 rfl rfl
def c_X12_unit_202 (g_X12_either : Sg → Option (Int32 × Sg)) (g_X12_both : Sg → Option (Int32 × Sg)) (g_X12_compared : Sg → Option (Int32 × Sg)) (g_X12_sum : Sg → Option (Int32 × Sg)) (g_X12_product : Sg → Option (Int32 × Sg)) (g_X12_unit : Sg → Option (Int32 × Sg)) (x3 : Int32) (x4 : Int32) (σ : Sg) : Option (Int32 × Sg) := (if x4 = 0 then ((f_X12_wrong  σ).bind fun q18 => (some (q18.1, q18.2))) else (some (x3, σ)))
set_option maxHeartbeats 4000000 in
theorem okc_X12_unit_202 {L : Nat} {g_X12_either : Sg → Option (Int32 × Sg)} {g_X12_both : Sg → Option (Int32 × Sg)} {g_X12_compared : Sg → Option (Int32 × Sg)} {g_X12_sum : Sg → Option (Int32 × Sg)} {g_X12_product : Sg → Option (Int32 × Sg)} {g_X12_unit : Sg → Option (Int32 × Sg)} {dd : Nat} {R : Int32 × Sg} (G_X12_either : ∀ (σ : Sg) (R : Int32 × Sg), g_X12_either  σ = some R → mEv dd 146 [.ref 93] (mSh, L, σ) (some (.int R.1)) (mSh, L, R.2)) (G_X12_both : ∀ (σ : Sg) (R : Int32 × Sg), g_X12_both  σ = some R → mEv dd 147 [.ref 93] (mSh, L, σ) (some (.int R.1)) (mSh, L, R.2)) (G_X12_compared : ∀ (σ : Sg) (R : Int32 × Sg), g_X12_compared  σ = some R → mEv dd 148 [.ref 93] (mSh, L, σ) (some (.int R.1)) (mSh, L, R.2)) (G_X12_sum : ∀ (σ : Sg) (R : Int32 × Sg), g_X12_sum  σ = some R → mEv dd 149 [.ref 93] (mSh, L, σ) (some (.int R.1)) (mSh, L, R.2)) (G_X12_product : ∀ (σ : Sg) (R : Int32 × Sg), g_X12_product  σ = some R → mEv dd 150 [.ref 93] (mSh, L, σ) (some (.int R.1)) (mSh, L, R.2)) (G_X12_unit : ∀ (σ : Sg) (R : Int32 × Sg), g_X12_unit  σ = some R → mEv dd 151 [.ref 93] (mSh, L, σ) (some (.int R.1)) (mSh, L, R.2)) (hdd : 2 ≤ dd) {x3 : Int32} {x4 : Int32} {σ : Sg} {pl : mLoc} (h : c_X12_unit_202 g_X12_either g_X12_both g_X12_compared g_X12_sum g_X12_product g_X12_unit x3 x4 σ = some R) (hl : mlf [some (.ref 93), none, none, some (.int x3), some (.int x4)] pl) : mAt (dd + 1) 151 (some (.int R.1), (mSh, L, R.2)) 202 pl [] (mSh, L, σ) 0 0 := by
  refine mAt.less hl ?_
  unfold c_X12_unit_202 at h
  refine mAt.blk bk_X12_unit_202 ck_X12_unit_202 ?_
  refine q_iload rfl ?_
  refine q_if_ne (fun c17 => ?_) (fun c17 => ?_)
  · rw [if_pos c17] at h
    refine q_aload_n rfl ?_
    obtain ⟨q18, e18, h⟩ := mbind h
    refine q_vI0 mcap_0 rfl rfl ob_93 rfl (by omega) (ok_X12_wrong  e18) ?_
    refine q_goto ?_
    refine mAt.blk bk_X12_unit_215 ck_X12_unit_215 ?_
    have h := Option.some.inj h
    subst h
    exact q_iretI mcap_0 rfl rfl
  · rw [if_neg c17] at h
    refine mAt.blk bk_X12_unit_214 ck_X12_unit_214 ?_
    refine q_iload_n rfl ?_
    refine mAt.blk bk_X12_unit_215 ck_X12_unit_215 ?_
    have h := Option.some.inj h
    subst h
    exact q_iretI mcap_0 rfl rfl
def c_X12_unit_67 (g_X12_either : Sg → Option (Int32 × Sg)) (g_X12_both : Sg → Option (Int32 × Sg)) (g_X12_compared : Sg → Option (Int32 × Sg)) (g_X12_sum : Sg → Option (Int32 × Sg)) (g_X12_product : Sg → Option (Int32 × Sg)) (g_X12_unit : Sg → Option (Int32 × Sg)) (x1 : Int32) (s0 : Int32) (σ : Sg) : Option (Int32 × Sg) := (if x1 = (40 : Int32) then ((f_X12_takes (41 : Int32) σ).bind fun q7 => (if q7.1 = 0 then ((f_X12_wrong  q7.2).bind fun q9 => (some (q9.1, q9.2))) else (c_X12_unit_88  g_X12_either g_X12_both g_X12_compared g_X12_sum g_X12_product g_X12_unit x1 s0 q7.2))) else (c_X12_unit_88  g_X12_either g_X12_both g_X12_compared g_X12_sum g_X12_product g_X12_unit x1 s0 σ))
set_option maxHeartbeats 4000000 in
theorem okc_X12_unit_67 {L : Nat} {g_X12_either : Sg → Option (Int32 × Sg)} {g_X12_both : Sg → Option (Int32 × Sg)} {g_X12_compared : Sg → Option (Int32 × Sg)} {g_X12_sum : Sg → Option (Int32 × Sg)} {g_X12_product : Sg → Option (Int32 × Sg)} {g_X12_unit : Sg → Option (Int32 × Sg)} {dd : Nat} {R : Int32 × Sg} (G_X12_either : ∀ (σ : Sg) (R : Int32 × Sg), g_X12_either  σ = some R → mEv dd 146 [.ref 93] (mSh, L, σ) (some (.int R.1)) (mSh, L, R.2)) (G_X12_both : ∀ (σ : Sg) (R : Int32 × Sg), g_X12_both  σ = some R → mEv dd 147 [.ref 93] (mSh, L, σ) (some (.int R.1)) (mSh, L, R.2)) (G_X12_compared : ∀ (σ : Sg) (R : Int32 × Sg), g_X12_compared  σ = some R → mEv dd 148 [.ref 93] (mSh, L, σ) (some (.int R.1)) (mSh, L, R.2)) (G_X12_sum : ∀ (σ : Sg) (R : Int32 × Sg), g_X12_sum  σ = some R → mEv dd 149 [.ref 93] (mSh, L, σ) (some (.int R.1)) (mSh, L, R.2)) (G_X12_product : ∀ (σ : Sg) (R : Int32 × Sg), g_X12_product  σ = some R → mEv dd 150 [.ref 93] (mSh, L, σ) (some (.int R.1)) (mSh, L, R.2)) (G_X12_unit : ∀ (σ : Sg) (R : Int32 × Sg), g_X12_unit  σ = some R → mEv dd 151 [.ref 93] (mSh, L, σ) (some (.int R.1)) (mSh, L, R.2)) (hdd : 2 ≤ dd) {x1 : Int32} {s0 : Int32} {σ : Sg} {pl : mLoc} (h : c_X12_unit_67 g_X12_either g_X12_both g_X12_compared g_X12_sum g_X12_product g_X12_unit x1 s0 σ = some R) (hl : mlf [some (.ref 93), some (.int x1), none, none, none] pl) : mAt (dd + 1) 151 (some (.int R.1), (mSh, L, R.2)) 67 pl [.int s0] (mSh, L, σ) 0 0 := by
  refine mAt.less hl ?_
  unfold c_X12_unit_67 at h
  refine mAt.blk bk_X12_unit_67 ck_X12_unit_67 ?_
  refine q_istore_n rfl rfl ?_
  refine q_iload_n rfl ?_
  refine q_bipush ?_
  refine q_ic_ne (fun c6 => ?_) (fun c6 => ?_)
  · rw [if_pos c6] at h
    refine q_aload_n rfl ?_
    refine q_bipush ?_
    obtain ⟨q7, e7, h⟩ := mbind h
    refine q_vI1 mcap_0 rfl rfl ob_93 rfl (by omega) (ok_X12_takes  e7) ?_
    refine q_if_ne (fun c8 => ?_) (fun c8 => ?_)
    · rw [if_pos c8] at h
      refine q_aload_n rfl ?_
      obtain ⟨q9, e9, h⟩ := mbind h
      refine q_vI0 mcap_0 rfl rfl ob_93 rfl (by omega) (ok_X12_wrong  e9) ?_
      have h := Option.some.inj h
      subst h
      exact q_iretI mcap_0 rfl rfl
    · rw [if_neg c8] at h
      exact okc_X12_unit_88 G_X12_either G_X12_both G_X12_compared G_X12_sum G_X12_product G_X12_unit hdd h ⟨rfl, rfl, rfl, trivial⟩
  · rw [if_neg c6] at h
    exact okc_X12_unit_88 G_X12_either G_X12_both G_X12_compared G_X12_sum G_X12_product G_X12_unit hdd h ⟨rfl, rfl, rfl, trivial⟩
def c_X12_unit_150 (g_X12_either : Sg → Option (Int32 × Sg)) (g_X12_both : Sg → Option (Int32 × Sg)) (g_X12_compared : Sg → Option (Int32 × Sg)) (g_X12_sum : Sg → Option (Int32 × Sg)) (g_X12_product : Sg → Option (Int32 × Sg)) (g_X12_unit : Sg → Option (Int32 × Sg)) : Nat → Int32 → Int32 → Sg → Option (Int32 × Sg)
  | 0, _, _, _ => none
  | n + 1, x3, x4, σ => (if (4 : Int32) ≤ x4 then (c_X12_unit_202  g_X12_either g_X12_both g_X12_compared g_X12_sum g_X12_product g_X12_unit x3 x4 σ) else ((f_X12_here  σ).bind fun q13 => ((f_X12_isIn (q13).toInt64 (48 : Int32).toInt64 (57 : Int32).toInt64 σ).bind fun q14 => (if q14 = 0 then (c_X12_unit_202  g_X12_either g_X12_both g_X12_compared g_X12_sum g_X12_product g_X12_unit x3 x4 σ) else ((f_X12_here  σ).bind fun q16 => (c_X12_unit_150 g_X12_either g_X12_both g_X12_compared g_X12_sum g_X12_product g_X12_unit n ((((10 : Int32) * x3) + q16) - (48 : Int32)) (x4 + (1 : Int32)) (mup σ 93 6 ((σ 93 6) + (1 : Int32)))))))))
set_option maxHeartbeats 4000000 in
theorem okc_X12_unit_150 {L : Nat} {g_X12_either : Sg → Option (Int32 × Sg)} {g_X12_both : Sg → Option (Int32 × Sg)} {g_X12_compared : Sg → Option (Int32 × Sg)} {g_X12_sum : Sg → Option (Int32 × Sg)} {g_X12_product : Sg → Option (Int32 × Sg)} {g_X12_unit : Sg → Option (Int32 × Sg)} {dd : Nat} {R : Int32 × Sg} (G_X12_either : ∀ (σ : Sg) (R : Int32 × Sg), g_X12_either  σ = some R → mEv dd 146 [.ref 93] (mSh, L, σ) (some (.int R.1)) (mSh, L, R.2)) (G_X12_both : ∀ (σ : Sg) (R : Int32 × Sg), g_X12_both  σ = some R → mEv dd 147 [.ref 93] (mSh, L, σ) (some (.int R.1)) (mSh, L, R.2)) (G_X12_compared : ∀ (σ : Sg) (R : Int32 × Sg), g_X12_compared  σ = some R → mEv dd 148 [.ref 93] (mSh, L, σ) (some (.int R.1)) (mSh, L, R.2)) (G_X12_sum : ∀ (σ : Sg) (R : Int32 × Sg), g_X12_sum  σ = some R → mEv dd 149 [.ref 93] (mSh, L, σ) (some (.int R.1)) (mSh, L, R.2)) (G_X12_product : ∀ (σ : Sg) (R : Int32 × Sg), g_X12_product  σ = some R → mEv dd 150 [.ref 93] (mSh, L, σ) (some (.int R.1)) (mSh, L, R.2)) (G_X12_unit : ∀ (σ : Sg) (R : Int32 × Sg), g_X12_unit  σ = some R → mEv dd 151 [.ref 93] (mSh, L, σ) (some (.int R.1)) (mSh, L, R.2)) (hdd : 2 ≤ dd) {n : Nat} {x3 : Int32} {x4 : Int32} {σ : Sg} {pl : mLoc} (h : c_X12_unit_150 g_X12_either g_X12_both g_X12_compared g_X12_sum g_X12_product g_X12_unit n x3 x4 σ = some R) (hl : mlf [some (.ref 93), none, none, some (.int x3), some (.int x4)] pl) : mAt (dd + 1) 151 (some (.int R.1), (mSh, L, R.2)) 150 pl [] (mSh, L, σ) 0 0 := by
  induction n generalizing x3 x4 σ pl with
  | zero =>
    rw [c_X12_unit_150.eq_1] at h
    cases h
  | succ n ih =>
    refine mAt.less hl ?_
    rw [c_X12_unit_150.eq_2] at h
    refine mAt.blk bk_X12_unit_150 ck_X12_unit_150 ?_
    refine q_iload rfl ?_
    refine q_iconst ?_
    refine q_ic_ge (fun c12 => ?_) (fun c12 => ?_)
    · rw [if_pos c12] at h
      exact okc_X12_unit_202 G_X12_either G_X12_both G_X12_compared G_X12_sum G_X12_product G_X12_unit hdd h ⟨rfl, rfl, rfl, trivial⟩
    · rw [if_neg c12] at h
      refine q_aload_n rfl ?_
      obtain ⟨q13, e13, h⟩ := mbind h
      refine q_vI0 mcap_0 rfl rfl ob_93 rfl (by omega) (ok_X12_here  e13) ?_
      refine q_i2l ?_
      refine q_ldc2_w ?_
      refine q_ldc2_w ?_
      obtain ⟨q14, e14, h⟩ := mbind h
      refine q_sI3 mcap_0 rfl rfl rfl rfl (by omega) (ok_X12_isIn  e14) ?_
      refine q_if_eq (fun c15 => ?_) (fun c15 => ?_)
      · rw [if_pos c15] at h
        exact okc_X12_unit_202 G_X12_either G_X12_both G_X12_compared G_X12_sum G_X12_product G_X12_unit hdd h ⟨rfl, rfl, rfl, trivial⟩
      · rw [if_neg c15] at h
        refine q_bipush ?_
        refine q_iload_n rfl ?_
        refine q_imul ?_
        refine q_aload_n rfl ?_
        obtain ⟨q16, e16, h⟩ := mbind h
        refine q_vI0 mcap_0 rfl rfl ob_93 rfl (by omega) (ok_X12_here  e16) ?_
        refine q_iadd ?_
        refine q_bipush ?_
        refine q_isub ?_
        refine q_istore_n rfl rfl ?_
        refine q_aload_n rfl ?_
        refine q_dupR ?_
        refine q_getI ob_93 rfl ?_
        refine q_iconst ?_
        refine q_iadd ?_
        refine q_putI ob_93 rfl ?_
        refine q_iinc rfl rfl ?_
        refine q_goto ?_
        exact ih  h ⟨rfl, rfl, rfl, trivial⟩
def c_X12_unit_17 (g_X12_either : Sg → Option (Int32 × Sg)) (g_X12_both : Sg → Option (Int32 × Sg)) (g_X12_compared : Sg → Option (Int32 × Sg)) (g_X12_sum : Sg → Option (Int32 × Sg)) (g_X12_product : Sg → Option (Int32 × Sg)) (g_X12_unit : Sg → Option (Int32 × Sg)) (x1 : Int32) (σ : Sg) : Option (Int32 × Sg) := (if (σ 93 9) = (5 : Int32) then ((f_X12_wrong  σ).bind fun q5 => (some (q5.1, q5.2))) else (if x1 = (40 : Int32) then ((g_X12_either  (mup (mup σ 93 9 ((σ 93 9) + (1 : Int32))) 93 6 (((mup σ 93 9 ((σ 93 9) + (1 : Int32))) 93 6) + (1 : Int32)))).bind fun q4 => (c_X12_unit_67  g_X12_either g_X12_both g_X12_compared g_X12_sum g_X12_product g_X12_unit x1 q4.1 q4.2)) else ((g_X12_unit  (mup (mup σ 93 9 ((σ 93 9) + (1 : Int32))) 93 6 (((mup σ 93 9 ((σ 93 9) + (1 : Int32))) 93 6) + (1 : Int32)))).bind fun q3 => (c_X12_unit_67  g_X12_either g_X12_both g_X12_compared g_X12_sum g_X12_product g_X12_unit x1 q3.1 q3.2))))
set_option maxHeartbeats 4000000 in
theorem okc_X12_unit_17 {L : Nat} {g_X12_either : Sg → Option (Int32 × Sg)} {g_X12_both : Sg → Option (Int32 × Sg)} {g_X12_compared : Sg → Option (Int32 × Sg)} {g_X12_sum : Sg → Option (Int32 × Sg)} {g_X12_product : Sg → Option (Int32 × Sg)} {g_X12_unit : Sg → Option (Int32 × Sg)} {dd : Nat} {R : Int32 × Sg} (G_X12_either : ∀ (σ : Sg) (R : Int32 × Sg), g_X12_either  σ = some R → mEv dd 146 [.ref 93] (mSh, L, σ) (some (.int R.1)) (mSh, L, R.2)) (G_X12_both : ∀ (σ : Sg) (R : Int32 × Sg), g_X12_both  σ = some R → mEv dd 147 [.ref 93] (mSh, L, σ) (some (.int R.1)) (mSh, L, R.2)) (G_X12_compared : ∀ (σ : Sg) (R : Int32 × Sg), g_X12_compared  σ = some R → mEv dd 148 [.ref 93] (mSh, L, σ) (some (.int R.1)) (mSh, L, R.2)) (G_X12_sum : ∀ (σ : Sg) (R : Int32 × Sg), g_X12_sum  σ = some R → mEv dd 149 [.ref 93] (mSh, L, σ) (some (.int R.1)) (mSh, L, R.2)) (G_X12_product : ∀ (σ : Sg) (R : Int32 × Sg), g_X12_product  σ = some R → mEv dd 150 [.ref 93] (mSh, L, σ) (some (.int R.1)) (mSh, L, R.2)) (G_X12_unit : ∀ (σ : Sg) (R : Int32 × Sg), g_X12_unit  σ = some R → mEv dd 151 [.ref 93] (mSh, L, σ) (some (.int R.1)) (mSh, L, R.2)) (hdd : 2 ≤ dd) {x1 : Int32} {σ : Sg} {pl : mLoc} (h : c_X12_unit_17 g_X12_either g_X12_both g_X12_compared g_X12_sum g_X12_product g_X12_unit x1 σ = some R) (hl : mlf [some (.ref 93), some (.int x1), none, none, none] pl) : mAt (dd + 1) 151 (some (.int R.1), (mSh, L, R.2)) 17 pl [] (mSh, L, σ) 0 0 := by
  refine mAt.less hl ?_
  unfold c_X12_unit_17 at h
  refine mAt.blk bk_X12_unit_17 ck_X12_unit_17 ?_
  refine q_aload_n rfl ?_
  refine q_getI ob_93 rfl ?_
  refine q_iconst ?_
  refine q_ic_ne (fun c1 => ?_) (fun c1 => ?_)
  · rw [if_pos c1] at h
    refine q_aload_n rfl ?_
    obtain ⟨q5, e5, h⟩ := mbind h
    refine q_vI0 mcap_0 rfl rfl ob_93 rfl (by omega) (ok_X12_wrong  e5) ?_
    have h := Option.some.inj h
    subst h
    exact q_iretI mcap_0 rfl rfl
  · rw [if_neg c1] at h
    refine mAt.blk bk_X12_unit_30 ck_X12_unit_30 ?_
    refine q_aload_n rfl ?_
    refine q_dupR ?_
    refine q_getI ob_93 rfl ?_
    refine q_iconst ?_
    refine q_iadd ?_
    refine q_putI ob_93 rfl ?_
    refine q_aload_n rfl ?_
    refine q_dupR ?_
    refine q_getI ob_93 rfl ?_
    refine q_iconst ?_
    refine q_iadd ?_
    refine q_putI ob_93 rfl ?_
    refine q_iload_n rfl ?_
    refine q_bipush ?_
    refine q_ic_ne (fun c2 => ?_) (fun c2 => ?_)
    · rw [if_pos c2] at h
      refine q_aload_n rfl ?_
      obtain ⟨q4, e4, h⟩ := mbind h
      refine q_vI0 mcap_0 rfl rfl ob_93 rfl (by omega) (G_X12_either _ _ e4) ?_
      refine q_goto ?_
      exact okc_X12_unit_67 G_X12_either G_X12_both G_X12_compared G_X12_sum G_X12_product G_X12_unit hdd h ⟨rfl, rfl, trivial⟩
    · rw [if_neg c2] at h
      refine mAt.blk bk_X12_unit_63 ck_X12_unit_63 ?_
      refine q_aload_n rfl ?_
      obtain ⟨q3, e3, h⟩ := mbind h
      refine q_vI0 mcap_0 rfl rfl ob_93 rfl (by omega) (G_X12_unit _ _ e3) ?_
      exact okc_X12_unit_67 G_X12_either G_X12_both G_X12_compared G_X12_sum G_X12_product G_X12_unit hdd h ⟨rfl, rfl, trivial⟩
def b_X12_unit (g_X12_either : Sg → Option (Int32 × Sg)) (g_X12_both : Sg → Option (Int32 × Sg)) (g_X12_compared : Sg → Option (Int32 × Sg)) (g_X12_sum : Sg → Option (Int32 × Sg)) (g_X12_product : Sg → Option (Int32 × Sg)) (g_X12_unit : Sg → Option (Int32 × Sg)) (σ : Sg) : Option (Int32 × Sg) := ((f_X12_here  σ).bind fun q19 => (if q19 = (33 : Int32) then (c_X12_unit_17  g_X12_either g_X12_both g_X12_compared g_X12_sum g_X12_product g_X12_unit q19 σ) else (if q19 = (40 : Int32) then (c_X12_unit_17  g_X12_either g_X12_both g_X12_compared g_X12_sum g_X12_product g_X12_unit q19 σ) else ((f_X12_nameOf q19 σ).bind fun q22 => (if q22 < 0 then (c_X12_unit_150  g_X12_either g_X12_both g_X12_compared g_X12_sum g_X12_product g_X12_unit 1000 (0 : Int32) (0 : Int32) σ) else (if q22 < 0 ∨ 4 ≤ (q22).toNatClampNeg then none else (some (((mup σ 93 6 ((σ 93 6) + (1 : Int32))) 98 (q22).toNatClampNeg), (mup σ 93 6 ((σ 93 6) + (1 : Int32)))))))))))
set_option maxHeartbeats 4000000 in
theorem okb_X12_unit {L : Nat} {g_X12_either : Sg → Option (Int32 × Sg)} {g_X12_both : Sg → Option (Int32 × Sg)} {g_X12_compared : Sg → Option (Int32 × Sg)} {g_X12_sum : Sg → Option (Int32 × Sg)} {g_X12_product : Sg → Option (Int32 × Sg)} {g_X12_unit : Sg → Option (Int32 × Sg)} {dd : Nat} {σ : Sg} {R : Int32 × Sg} (G_X12_either : ∀ (σ : Sg) (R : Int32 × Sg), g_X12_either  σ = some R → mEv dd 146 [.ref 93] (mSh, L, σ) (some (.int R.1)) (mSh, L, R.2)) (G_X12_both : ∀ (σ : Sg) (R : Int32 × Sg), g_X12_both  σ = some R → mEv dd 147 [.ref 93] (mSh, L, σ) (some (.int R.1)) (mSh, L, R.2)) (G_X12_compared : ∀ (σ : Sg) (R : Int32 × Sg), g_X12_compared  σ = some R → mEv dd 148 [.ref 93] (mSh, L, σ) (some (.int R.1)) (mSh, L, R.2)) (G_X12_sum : ∀ (σ : Sg) (R : Int32 × Sg), g_X12_sum  σ = some R → mEv dd 149 [.ref 93] (mSh, L, σ) (some (.int R.1)) (mSh, L, R.2)) (G_X12_product : ∀ (σ : Sg) (R : Int32 × Sg), g_X12_product  σ = some R → mEv dd 150 [.ref 93] (mSh, L, σ) (some (.int R.1)) (mSh, L, R.2)) (G_X12_unit : ∀ (σ : Sg) (R : Int32 × Sg), g_X12_unit  σ = some R → mEv dd 151 [.ref 93] (mSh, L, σ) (some (.int R.1)) (mSh, L, R.2)) (hdd : 2 ≤ dd) (h : b_X12_unit g_X12_either g_X12_both g_X12_compared g_X12_sum g_X12_product g_X12_unit σ = some R) : mEv (dd + 1) 151 [.ref 93] (mSh, L, σ) (some (.int R.1)) (mSh, L, R.2) := by
  refine mEv.of (by decide) rfl rfl ?_
  unfold b_X12_unit at h
  refine mAt.blk bk_X12_unit_0 ck_X12_unit_0 ?_
  refine q_aload_n rfl ?_
  obtain ⟨q19, e19, h⟩ := mbind h
  refine q_vI0 mcap_0 rfl rfl ob_93 rfl (by omega) (ok_X12_here  e19) ?_
  refine q_istore_n rfl rfl ?_
  refine q_iload_n rfl ?_
  refine q_bipush ?_
  refine q_ic_eq (fun c20 => ?_) (fun c20 => ?_)
  · rw [if_pos c20] at h
    exact okc_X12_unit_17 G_X12_either G_X12_both G_X12_compared G_X12_sum G_X12_product G_X12_unit hdd h ⟨rfl, rfl, trivial⟩
  · rw [if_neg c20] at h
    refine q_iload_n rfl ?_
    refine q_bipush ?_
    refine q_ic_ne (fun c21 => ?_) (fun c21 => ?_)
    · rw [if_pos c21] at h
      exact okc_X12_unit_17 G_X12_either G_X12_both G_X12_compared G_X12_sum G_X12_product G_X12_unit hdd h ⟨rfl, rfl, trivial⟩
    · rw [if_neg c21] at h
      refine mAt.blk bk_X12_unit_118 ck_X12_unit_118 ?_
      refine q_aload_n rfl ?_
      refine q_iload_n rfl ?_
      obtain ⟨q22, e22, h⟩ := mbind h
      refine q_vI1 mcap_0 rfl rfl ob_93 rfl (by omega) (ok_X12_nameOf  e22) ?_
      refine q_istore_n rfl rfl ?_
      refine q_iload_n rfl ?_
      refine q_if_lt (fun c23 => ?_) (fun c23 => ?_)
      · rw [if_pos c23] at h
        refine mAt.blk bk_X12_unit_145 ck_X12_unit_145 ?_
        refine q_iconst ?_
        refine q_istore_n rfl rfl ?_
        refine q_iconst ?_
        refine q_istore rfl rfl ?_
        exact okc_X12_unit_150 G_X12_either G_X12_both G_X12_compared G_X12_sum G_X12_product G_X12_unit hdd h ⟨rfl, rfl, rfl, trivial⟩
      · rw [if_neg c23] at h
        refine q_aload_n rfl ?_
        refine q_dupR ?_
        refine q_getI ob_93 rfl ?_
        refine q_iconst ?_
        refine q_iadd ?_
        refine q_putI ob_93 rfl ?_
        refine q_aload_n rfl ?_
        refine q_getR ob_93 rfl rfl ?_
        refine q_iload_n rfl ?_
        obtain ⟨c24, h⟩ := mnone h
        refine q_iald (mrd ar_98 _ _) rfl c24 ?_
        have h := Option.some.inj h
        subst h
        exact q_iretI mcap_0 rfl rfl
def F_X12_either : Nat → (Sg → Option (Int32 × Sg)) × (Sg → Option (Int32 × Sg)) × (Sg → Option (Int32 × Sg)) × (Sg → Option (Int32 × Sg)) × (Sg → Option (Int32 × Sg)) × (Sg → Option (Int32 × Sg))
  | 0 => ((fun  _ => none), (fun  _ => none), (fun  _ => none), (fun  _ => none), (fun  _ => none), (fun  _ => none))
  | n + 1 => ((fun  σ => b_X12_either ((F_X12_either n).1) ((F_X12_either n).2.1) ((F_X12_either n).2.2.1) ((F_X12_either n).2.2.2.1) ((F_X12_either n).2.2.2.2.1) ((F_X12_either n).2.2.2.2.2)  σ), (fun  σ => b_X12_both ((F_X12_either n).1) ((F_X12_either n).2.1) ((F_X12_either n).2.2.1) ((F_X12_either n).2.2.2.1) ((F_X12_either n).2.2.2.2.1) ((F_X12_either n).2.2.2.2.2)  σ), (fun  σ => b_X12_compared ((F_X12_either n).1) ((F_X12_either n).2.1) ((F_X12_either n).2.2.1) ((F_X12_either n).2.2.2.1) ((F_X12_either n).2.2.2.2.1) ((F_X12_either n).2.2.2.2.2)  σ), (fun  σ => b_X12_sum ((F_X12_either n).1) ((F_X12_either n).2.1) ((F_X12_either n).2.2.1) ((F_X12_either n).2.2.2.1) ((F_X12_either n).2.2.2.2.1) ((F_X12_either n).2.2.2.2.2)  σ), (fun  σ => b_X12_product ((F_X12_either n).1) ((F_X12_either n).2.1) ((F_X12_either n).2.2.1) ((F_X12_either n).2.2.2.1) ((F_X12_either n).2.2.2.2.1) ((F_X12_either n).2.2.2.2.2)  σ), (fun  σ => b_X12_unit ((F_X12_either n).1) ((F_X12_either n).2.1) ((F_X12_either n).2.2.1) ((F_X12_either n).2.2.2.1) ((F_X12_either n).2.2.2.2.1) ((F_X12_either n).2.2.2.2.2)  σ))
def f_X12_either (n : Nat) (σ : Sg) : Option (Int32 × Sg) := ((F_X12_either n).1)  σ
def f_X12_both (n : Nat) (σ : Sg) : Option (Int32 × Sg) := ((F_X12_either n).2.1)  σ
def f_X12_compared (n : Nat) (σ : Sg) : Option (Int32 × Sg) := ((F_X12_either n).2.2.1)  σ
def f_X12_sum (n : Nat) (σ : Sg) : Option (Int32 × Sg) := ((F_X12_either n).2.2.2.1)  σ
def f_X12_product (n : Nat) (σ : Sg) : Option (Int32 × Sg) := ((F_X12_either n).2.2.2.2.1)  σ
def f_X12_unit (n : Nat) (σ : Sg) : Option (Int32 × Sg) := ((F_X12_either n).2.2.2.2.2)  σ
theorem f_X12_either_0 (σ : Sg) : f_X12_either 0  σ = none := rfl
theorem f_X12_either_s (n : Nat) (σ : Sg) : f_X12_either (n + 1)  σ = b_X12_either (f_X12_either n) (f_X12_both n) (f_X12_compared n) (f_X12_sum n) (f_X12_product n) (f_X12_unit n)  σ := rfl
theorem f_X12_both_0 (σ : Sg) : f_X12_both 0  σ = none := rfl
theorem f_X12_both_s (n : Nat) (σ : Sg) : f_X12_both (n + 1)  σ = b_X12_both (f_X12_either n) (f_X12_both n) (f_X12_compared n) (f_X12_sum n) (f_X12_product n) (f_X12_unit n)  σ := rfl
theorem f_X12_compared_0 (σ : Sg) : f_X12_compared 0  σ = none := rfl
theorem f_X12_compared_s (n : Nat) (σ : Sg) : f_X12_compared (n + 1)  σ = b_X12_compared (f_X12_either n) (f_X12_both n) (f_X12_compared n) (f_X12_sum n) (f_X12_product n) (f_X12_unit n)  σ := rfl
theorem f_X12_sum_0 (σ : Sg) : f_X12_sum 0  σ = none := rfl
theorem f_X12_sum_s (n : Nat) (σ : Sg) : f_X12_sum (n + 1)  σ = b_X12_sum (f_X12_either n) (f_X12_both n) (f_X12_compared n) (f_X12_sum n) (f_X12_product n) (f_X12_unit n)  σ := rfl
theorem f_X12_product_0 (σ : Sg) : f_X12_product 0  σ = none := rfl
theorem f_X12_product_s (n : Nat) (σ : Sg) : f_X12_product (n + 1)  σ = b_X12_product (f_X12_either n) (f_X12_both n) (f_X12_compared n) (f_X12_sum n) (f_X12_product n) (f_X12_unit n)  σ := rfl
theorem f_X12_unit_0 (σ : Sg) : f_X12_unit 0  σ = none := rfl
theorem f_X12_unit_s (n : Nat) (σ : Sg) : f_X12_unit (n + 1)  σ = b_X12_unit (f_X12_either n) (f_X12_both n) (f_X12_compared n) (f_X12_sum n) (f_X12_product n) (f_X12_unit n)  σ := rfl
set_option maxHeartbeats 4000000 in
theorem okg_X12_either {L : Nat} : ∀ n : Nat, (∀ (σ : Sg) (R : Int32 × Sg), f_X12_either n  σ = some R → mEv (n + 2) 146 [.ref 93] (mSh, L, σ) (some (.int R.1)) (mSh, L, R.2)) ∧ (∀ (σ : Sg) (R : Int32 × Sg), f_X12_both n  σ = some R → mEv (n + 2) 147 [.ref 93] (mSh, L, σ) (some (.int R.1)) (mSh, L, R.2)) ∧ (∀ (σ : Sg) (R : Int32 × Sg), f_X12_compared n  σ = some R → mEv (n + 2) 148 [.ref 93] (mSh, L, σ) (some (.int R.1)) (mSh, L, R.2)) ∧ (∀ (σ : Sg) (R : Int32 × Sg), f_X12_sum n  σ = some R → mEv (n + 2) 149 [.ref 93] (mSh, L, σ) (some (.int R.1)) (mSh, L, R.2)) ∧ (∀ (σ : Sg) (R : Int32 × Sg), f_X12_product n  σ = some R → mEv (n + 2) 150 [.ref 93] (mSh, L, σ) (some (.int R.1)) (mSh, L, R.2)) ∧ (∀ (σ : Sg) (R : Int32 × Sg), f_X12_unit n  σ = some R → mEv (n + 2) 151 [.ref 93] (mSh, L, σ) (some (.int R.1)) (mSh, L, R.2))
  | 0 => ⟨(fun  _ _ h => by rw [f_X12_either_0] at h; cases h), (fun  _ _ h => by rw [f_X12_both_0] at h; cases h), (fun  _ _ h => by rw [f_X12_compared_0] at h; cases h), (fun  _ _ h => by rw [f_X12_sum_0] at h; cases h), (fun  _ _ h => by rw [f_X12_product_0] at h; cases h), (fun  _ _ h => by rw [f_X12_unit_0] at h; cases h)⟩
  | n + 1 => by
    have ih := okg_X12_either (L := L) n
    exact ⟨(fun  _ _ h => by rw [f_X12_either_s] at h; exact (by have := okb_X12_either (L := L) (dd := n + 2) (ih.1) (ih.2.1) (ih.2.2.1) (ih.2.2.2.1) (ih.2.2.2.2.1) (ih.2.2.2.2.2) (by omega) h; rw [show n + 1 + 2 = n + 2 + 1 by omega]; exact this)), (fun  _ _ h => by rw [f_X12_both_s] at h; exact (by have := okb_X12_both (L := L) (dd := n + 2) (ih.1) (ih.2.1) (ih.2.2.1) (ih.2.2.2.1) (ih.2.2.2.2.1) (ih.2.2.2.2.2) (by omega) h; rw [show n + 1 + 2 = n + 2 + 1 by omega]; exact this)), (fun  _ _ h => by rw [f_X12_compared_s] at h; exact (by have := okb_X12_compared (L := L) (dd := n + 2) (ih.1) (ih.2.1) (ih.2.2.1) (ih.2.2.2.1) (ih.2.2.2.2.1) (ih.2.2.2.2.2) (by omega) h; rw [show n + 1 + 2 = n + 2 + 1 by omega]; exact this)), (fun  _ _ h => by rw [f_X12_sum_s] at h; exact (by have := okb_X12_sum (L := L) (dd := n + 2) (ih.1) (ih.2.1) (ih.2.2.1) (ih.2.2.2.1) (ih.2.2.2.2.1) (ih.2.2.2.2.2) (by omega) h; rw [show n + 1 + 2 = n + 2 + 1 by omega]; exact this)), (fun  _ _ h => by rw [f_X12_product_s] at h; exact (by have := okb_X12_product (L := L) (dd := n + 2) (ih.1) (ih.2.1) (ih.2.2.1) (ih.2.2.2.1) (ih.2.2.2.2.1) (ih.2.2.2.2.2) (by omega) h; rw [show n + 1 + 2 = n + 2 + 1 by omega]; exact this)), (fun  _ _ h => by rw [f_X12_unit_s] at h; exact (by have := okb_X12_unit (L := L) (dd := n + 2) (ih.1) (ih.2.1) (ih.2.2.1) (ih.2.2.2.1) (ih.2.2.2.2.1) (ih.2.2.2.2.2) (by omega) h; rw [show n + 1 + 2 = n + 2 + 1 by omega]; exact this))⟩
theorem ok_X12_either {L : Nat} {σ : Sg} {R : Int32 × Sg} (h : f_X12_either 64  σ = some R) : mEv 66 146 [.ref 93] (mSh, L, σ) (some (.int R.1)) (mSh, L, R.2) := (okg_X12_either (L := L) 64).1  _ _ h
theorem ok_X12_both {L : Nat} {σ : Sg} {R : Int32 × Sg} (h : f_X12_both 64  σ = some R) : mEv 66 147 [.ref 93] (mSh, L, σ) (some (.int R.1)) (mSh, L, R.2) := (okg_X12_either (L := L) 64).2.1  _ _ h
theorem ok_X12_compared {L : Nat} {σ : Sg} {R : Int32 × Sg} (h : f_X12_compared 64  σ = some R) : mEv 66 148 [.ref 93] (mSh, L, σ) (some (.int R.1)) (mSh, L, R.2) := (okg_X12_either (L := L) 64).2.2.1  _ _ h
theorem ok_X12_sum {L : Nat} {σ : Sg} {R : Int32 × Sg} (h : f_X12_sum 64  σ = some R) : mEv 66 149 [.ref 93] (mSh, L, σ) (some (.int R.1)) (mSh, L, R.2) := (okg_X12_either (L := L) 64).2.2.2.1  _ _ h
theorem ok_X12_product {L : Nat} {σ : Sg} {R : Int32 × Sg} (h : f_X12_product 64  σ = some R) : mEv 66 150 [.ref 93] (mSh, L, σ) (some (.int R.1)) (mSh, L, R.2) := (okg_X12_either (L := L) 64).2.2.2.2.1  _ _ h
theorem ok_X12_unit {L : Nat} {σ : Sg} {R : Int32 × Sg} (h : f_X12_unit 64  σ = some R) : mEv 66 151 [.ref 93] (mSh, L, σ) (some (.int R.1)) (mSh, L, R.2) := (okg_X12_either (L := L) 64).2.2.2.2.2  _ _ h
