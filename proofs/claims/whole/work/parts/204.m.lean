def bk_X9_leastOfRing_0 : List mI := [(.iload_n 1, 1, 0, 0, 0, []), (.istore_n 2, 1, 0, 0, 0, []), (.iload_n 1, 1, 0, 0, 0, []), (.istore_n 3, 1, 0, 0, 0, []), (.iconst 0, 1, 0, 0, 0, [(0, 0)]), (.istore 4, 2, 0, 0, 0, [])]
theorem ck_X9_leastOfRing_0 : mChk 62 0 bk_X9_leastOfRing_0 = true := by decide +kernel
def bk_X9_leastOfRing_7 : List mI := [(.iload 4, 2, 0, 0, 0, []), (.aload_n 0, 1, 0, 0, 0, []), (.getfield 28, 3, 9, 4, 195, []), (.if_icmp .ge 28, 3, 41, 0, 0, []), (.aload_n 0, 1, 0, 0, 0, []), (.iload_n 2, 1, 0, 0, 0, []), (.invokevirtual 56, 3, 58, 0, 728, []), (.istore_n 2, 1, 0, 0, 0, []), (.iload_n 2, 1, 0, 0, 0, []), (.iload_n 1, 1, 0, 0, 0, []), (.if_icmp .ne 5, 3, 29, 0, 0, []), (.iload_n 3, 1, 0, 0, 0, []), (.ireturn, 1, 0, 0, 0, [])]
theorem ck_X9_leastOfRing_7 : mChk 62 7 bk_X9_leastOfRing_7 = true := by decide +kernel
def bk_X9_leastOfRing_29 : List mI := [(.iload_n 3, 1, 0, 0, 0, []), (.iload_n 2, 1, 0, 0, 0, []), (.invokestatic 59, 3, 997, 0, 730, []), (.istore_n 3, 1, 0, 0, 0, []), (.iinc 4 1, 3, 0, 0, 0, [(1, 0)]), (.goto (-31), 3, 7, 0, 0, [])]
theorem ck_X9_leastOfRing_29 : mChk 62 29 bk_X9_leastOfRing_29 = true := by decide +kernel
def bk_X9_leastOfRing_41 : List mI := [(.iconst (-1), 1, 0, 0, 0, [((-1), 0)]), (.ireturn, 1, 0, 0, 0, [])]
theorem ck_X9_leastOfRing_41 : mChk 62 41 bk_X9_leastOfRing_41 = true := by decide +kernel
def c_X9_leastOfRing_7 (a : Nat) (σ : Sg) : Nat → Int32 → Int32 → Int32 → Int32 → Option (Int32)
  | 0, _, _, _, _ => none
  | n + 1, x1, x2, x3, x4 => (if (σ a 4) ≤ x4 then (some (-1 : Int32)) else ((f_X9_leadsTo a x2 σ).bind fun q2 => (if q2 = x1 then (some x3) else (c_X9_leastOfRing_7 a σ n x1 q2 (if q2 < x3 then q2 else x3) (x4 + (1 : Int32))))))
set_option maxHeartbeats 4000000 in
theorem okc_X9_leastOfRing_7 {L : Nat} {a : Nat} {σ : Sg} {R : Int32} (ha : P9 a) {n : Nat} {x1 : Int32} {x2 : Int32} {x3 : Int32} {x4 : Int32} {pl : mLoc} (h : c_X9_leastOfRing_7 a σ n x1 x2 x3 x4 = some R) (hl : mlf [some (.ref a), some (.int x1), some (.int x2), some (.int x3), some (.int x4)] pl) : mAt 2 62 (some (.int R), (mSh, L, σ)) 7 pl [] (mSh, L, σ) 0 0 := by
  induction n generalizing x1 x2 x3 x4 pl with
  | zero =>
    rw [c_X9_leastOfRing_7.eq_1] at h
    cases h
  | succ n ih =>
    refine mAt.less hl ?_
    rw [c_X9_leastOfRing_7.eq_2] at h
    refine mAt.blk bk_X9_leastOfRing_7 ck_X9_leastOfRing_7 ?_
    refine q_iload rfl ?_
    refine q_aload_n rfl ?_
    refine q_getI (ha).1 rfl ?_
    refine q_ic_ge (fun c1 => ?_) (fun c1 => ?_)
    · rw [if_pos c1] at h
      refine mAt.blk bk_X9_leastOfRing_41 ck_X9_leastOfRing_41 ?_
      refine q_iconst ?_
      have h := Option.some.inj h
      subst h
      exact q_iretI mcap_0 rfl rfl
    · rw [if_neg c1] at h
      refine q_aload_n rfl ?_
      refine q_iload_n rfl ?_
      obtain ⟨q2, e2, h⟩ := mbind h
      refine q_vI1 mcap_0 rfl rfl (ha).1 rfl (by decide) (ok_X9_leadsTo ha e2) ?_
      refine q_istore_n rfl rfl ?_
      refine q_iload_n rfl ?_
      refine q_iload_n rfl ?_
      refine q_ic_ne (fun c3 => ?_) (fun c3 => ?_)
      · rw [if_pos c3] at h
        refine q_iload_n rfl ?_
        have h := Option.some.inj h
        subst h
        exact q_iretI mcap_0 rfl rfl
      · rw [if_neg c3] at h
        refine mAt.blk bk_X9_leastOfRing_29 ck_X9_leastOfRing_29 ?_
        refine q_iload_n rfl ?_
        refine q_iload_n rfl ?_
        refine q_min rfl (by decide) mcap_0 ?_
        refine q_istore_n rfl rfl ?_
        refine q_iinc rfl rfl ?_
        refine q_goto ?_
        exact ih  h ⟨rfl, rfl, rfl, rfl, rfl, trivial⟩
def f_X9_leastOfRing (a : Nat) (p0 : Int32) (σ : Sg) : Option (Int32) := (c_X9_leastOfRing_7  a σ 1000 p0 p0 p0 (0 : Int32))
set_option maxHeartbeats 4000000 in
theorem ok_X9_leastOfRing {L : Nat} {a : Nat} {p0 : Int32} {σ : Sg} {R : Int32} (ha : P9 a) (h : f_X9_leastOfRing a p0 σ = some R) : mEv 2 62 [.ref a, .int p0] (mSh, L, σ) (some (.int R)) (mSh, L, σ) := by
  refine mEv.of (by decide) rfl rfl ?_
  unfold f_X9_leastOfRing at h
  refine mAt.blk bk_X9_leastOfRing_0 ck_X9_leastOfRing_0 ?_
  refine q_iload_n rfl ?_
  refine q_istore_n rfl rfl ?_
  refine q_iload_n rfl ?_
  refine q_istore_n rfl rfl ?_
  refine q_iconst ?_
  refine q_istore rfl rfl ?_
  exact okc_X9_leastOfRing_7 ha h ⟨rfl, rfl, rfl, rfl, rfl, trivial⟩
def bk_X9_deepBits_0 : List mI := [(.iconst 0, 1, 0, 0, 0, [(0, 0)]), (.istore_n 1, 1, 0, 0, 0, []), (.iconst 0, 1, 0, 0, 0, [(0, 0)]), (.istore_n 2, 1, 0, 0, 0, [])]
theorem ck_X9_deepBits_0 : mChk 63 0 bk_X9_deepBits_0 = true := by decide +kernel
def bk_X9_deepBits_4 : List mI := [(.iload_n 2, 1, 0, 0, 0, []), (.aload_n 0, 1, 0, 0, 0, []), (.getfield 28, 3, 9, 4, 195, []), (.if_icmp .ge 23, 3, 32, 0, 0, []), (.aload_n 0, 1, 0, 0, 0, []), (.iload_n 2, 1, 0, 0, 0, []), (.invokevirtual 65, 3, 62, 0, 743, []), (.ifCond .ge 9, 3, 26, 0, 0, []), (.iload_n 1, 1, 0, 0, 0, []), (.iconst 1, 1, 0, 0, 0, [(1, 0)]), (.iload_n 2, 1, 0, 0, 0, []), (.ishl, 1, 0, 0, 0, []), (.ior, 1, 0, 0, 0, []), (.istore_n 1, 1, 0, 0, 0, [])]
theorem ck_X9_deepBits_4 : mChk 63 4 bk_X9_deepBits_4 = true := by decide +kernel
def bk_X9_deepBits_26 : List mI := [(.iinc 2 1, 3, 0, 0, 0, [(1, 0)]), (.goto (-25), 3, 4, 0, 0, [])]
theorem ck_X9_deepBits_26 : mChk 63 26 bk_X9_deepBits_26 = true := by decide +kernel
def bk_X9_deepBits_32 : List mI := [(.iload_n 1, 1, 0, 0, 0, []), (.ireturn, 1, 0, 0, 0, [])]
theorem ck_X9_deepBits_32 : mChk 63 32 bk_X9_deepBits_32 = true := by decide +kernel
def c_X9_deepBits_26 (k4 : Int32 → Int32 → Option (Int32)) (a : Nat) (σ : Sg) (x1 : Int32) (x2 : Int32) : Option (Int32) := (k4 x1 (x2 + (1 : Int32)))
set_option maxHeartbeats 4000000 in
theorem okc_X9_deepBits_26 {L : Nat} {k4 : Int32 → Int32 → Option (Int32)} {a : Nat} {σ : Sg} {R : Int32} (ha : P9 a) (Hk4 : ∀ (x1 : Int32) (x2 : Int32) (pl : mLoc), k4 x1 x2 = some R → mlf [some (.ref a), some (.int x1), some (.int x2)] pl → mAt 3 63 (some (.int R), (mSh, L, σ)) 4 pl [] (mSh, L, σ) 0 0) {x1 : Int32} {x2 : Int32} {pl : mLoc} (h : c_X9_deepBits_26 k4 a σ x1 x2 = some R) (hl : mlf [some (.ref a), some (.int x1), some (.int x2)] pl) : mAt 3 63 (some (.int R), (mSh, L, σ)) 26 pl [] (mSh, L, σ) 0 0 := by
  refine mAt.less hl ?_
  unfold c_X9_deepBits_26 at h
  refine mAt.blk bk_X9_deepBits_26 ck_X9_deepBits_26 ?_
  refine q_iinc rfl rfl ?_
  refine q_goto ?_
  exact Hk4 _ _ _  h ⟨rfl, rfl, rfl, trivial⟩
def c_X9_deepBits_4 (a : Nat) (σ : Sg) : Nat → Int32 → Int32 → Option (Int32)
  | 0, _, _ => none
  | n + 1, x1, x2 => (if (σ a 4) ≤ x2 then (some x1) else ((f_X9_leastOfRing a x2 σ).bind fun q2 => (if 0 ≤ q2 then (c_X9_deepBits_26 (c_X9_deepBits_4 a σ n) a σ x1 x2) else (c_X9_deepBits_26 (c_X9_deepBits_4 a σ n) a σ (x1 ||| ((1 : Int32) <<< (x2 &&& 31))) x2))))
set_option maxHeartbeats 4000000 in
theorem okc_X9_deepBits_4 {L : Nat} {a : Nat} {σ : Sg} {R : Int32} (ha : P9 a) {n : Nat} {x1 : Int32} {x2 : Int32} {pl : mLoc} (h : c_X9_deepBits_4 a σ n x1 x2 = some R) (hl : mlf [some (.ref a), some (.int x1), some (.int x2)] pl) : mAt 3 63 (some (.int R), (mSh, L, σ)) 4 pl [] (mSh, L, σ) 0 0 := by
  induction n generalizing x1 x2 pl with
  | zero =>
    rw [c_X9_deepBits_4.eq_1] at h
    cases h
  | succ n ih =>
    refine mAt.less hl ?_
    rw [c_X9_deepBits_4.eq_2] at h
    refine mAt.blk bk_X9_deepBits_4 ck_X9_deepBits_4 ?_
    refine q_iload_n rfl ?_
    refine q_aload_n rfl ?_
    refine q_getI (ha).1 rfl ?_
    refine q_ic_ge (fun c1 => ?_) (fun c1 => ?_)
    · rw [if_pos c1] at h
      refine mAt.blk bk_X9_deepBits_32 ck_X9_deepBits_32 ?_
      refine q_iload_n rfl ?_
      have h := Option.some.inj h
      subst h
      exact q_iretI mcap_0 rfl rfl
    · rw [if_neg c1] at h
      refine q_aload_n rfl ?_
      refine q_iload_n rfl ?_
      obtain ⟨q2, e2, h⟩ := mbind h
      refine q_vI1 mcap_0 rfl rfl (ha).1 rfl (by decide) (ok_X9_leastOfRing ha e2) ?_
      refine q_if_ge (fun c3 => ?_) (fun c3 => ?_)
      · rw [if_pos c3] at h
        exact okc_X9_deepBits_26 ha (fun _ _ _ e hl => ih  e hl) h ⟨rfl, rfl, rfl, trivial⟩
      · rw [if_neg c3] at h
        refine q_iload_n rfl ?_
        refine q_iconst ?_
        refine q_iload_n rfl ?_
        refine q_ishl ?_
        refine q_ior ?_
        refine q_istore_n rfl rfl ?_
        exact okc_X9_deepBits_26 ha (fun _ _ _ e hl => ih  e hl) h ⟨rfl, rfl, rfl, trivial⟩
def f_X9_deepBits (a : Nat) (σ : Sg) : Option (Int32) := (c_X9_deepBits_4  a σ 1000 (0 : Int32) (0 : Int32))
set_option maxHeartbeats 4000000 in
theorem ok_X9_deepBits {L : Nat} {a : Nat} {σ : Sg} {R : Int32} (ha : P9 a) (h : f_X9_deepBits a σ = some R) : mEv 3 63 [.ref a] (mSh, L, σ) (some (.int R)) (mSh, L, σ) := by
  refine mEv.of (by decide) rfl rfl ?_
  unfold f_X9_deepBits at h
  refine mAt.blk bk_X9_deepBits_0 ck_X9_deepBits_0 ?_
  refine q_iconst ?_
  refine q_istore_n rfl rfl ?_
  refine q_iconst ?_
  refine q_istore_n rfl rfl ?_
  exact okc_X9_deepBits_4 ha h ⟨rfl, rfl, rfl, trivial⟩
def bk_X9_howManyRings_0 : List mI := [(.iconst 0, 1, 0, 0, 0, [(0, 0)]), (.istore_n 1, 1, 0, 0, 0, []), (.iconst 0, 1, 0, 0, 0, [(0, 0)]), (.istore_n 2, 1, 0, 0, 0, [])]
theorem ck_X9_howManyRings_0 : mChk 64 0 bk_X9_howManyRings_0 = true := by decide +kernel
def bk_X9_howManyRings_4 : List mI := [(.iload_n 2, 1, 0, 0, 0, []), (.aload_n 0, 1, 0, 0, 0, []), (.getfield 28, 3, 9, 4, 195, []), (.if_icmp .ge 21, 3, 30, 0, 0, []), (.aload_n 0, 1, 0, 0, 0, []), (.iload_n 2, 1, 0, 0, 0, []), (.invokevirtual 65, 3, 62, 0, 743, []), (.iload_n 2, 1, 0, 0, 0, []), (.if_icmp .ne 6, 3, 24, 0, 0, []), (.iinc 1 1, 3, 0, 0, 0, [(1, 0)])]
theorem ck_X9_howManyRings_4 : mChk 64 4 bk_X9_howManyRings_4 = true := by decide +kernel
def bk_X9_howManyRings_24 : List mI := [(.iinc 2 1, 3, 0, 0, 0, [(1, 0)]), (.goto (-23), 3, 4, 0, 0, [])]
theorem ck_X9_howManyRings_24 : mChk 64 24 bk_X9_howManyRings_24 = true := by decide +kernel
def bk_X9_howManyRings_30 : List mI := [(.iload_n 1, 1, 0, 0, 0, []), (.ireturn, 1, 0, 0, 0, [])]
theorem ck_X9_howManyRings_30 : mChk 64 30 bk_X9_howManyRings_30 = true := by decide +kernel
def c_X9_howManyRings_24 (k4 : Int32 → Int32 → Option (Int32)) (a : Nat) (σ : Sg) (x1 : Int32) (x2 : Int32) : Option (Int32) := (k4 x1 (x2 + (1 : Int32)))
set_option maxHeartbeats 4000000 in
theorem okc_X9_howManyRings_24 {L : Nat} {k4 : Int32 → Int32 → Option (Int32)} {a : Nat} {σ : Sg} {R : Int32} (ha : P9 a) (Hk4 : ∀ (x1 : Int32) (x2 : Int32) (pl : mLoc), k4 x1 x2 = some R → mlf [some (.ref a), some (.int x1), some (.int x2)] pl → mAt 3 64 (some (.int R), (mSh, L, σ)) 4 pl [] (mSh, L, σ) 0 0) {x1 : Int32} {x2 : Int32} {pl : mLoc} (h : c_X9_howManyRings_24 k4 a σ x1 x2 = some R) (hl : mlf [some (.ref a), some (.int x1), some (.int x2)] pl) : mAt 3 64 (some (.int R), (mSh, L, σ)) 24 pl [] (mSh, L, σ) 0 0 := by
  refine mAt.less hl ?_
  unfold c_X9_howManyRings_24 at h
  refine mAt.blk bk_X9_howManyRings_24 ck_X9_howManyRings_24 ?_
  refine q_iinc rfl rfl ?_
  refine q_goto ?_
  exact Hk4 _ _ _  h ⟨rfl, rfl, rfl, trivial⟩
def c_X9_howManyRings_4 (a : Nat) (σ : Sg) : Nat → Int32 → Int32 → Option (Int32)
  | 0, _, _ => none
  | n + 1, x1, x2 => (if (σ a 4) ≤ x2 then (some x1) else ((f_X9_leastOfRing a x2 σ).bind fun q2 => (if q2 = x2 then (c_X9_howManyRings_24 (c_X9_howManyRings_4 a σ n) a σ (x1 + (1 : Int32)) x2) else (c_X9_howManyRings_24 (c_X9_howManyRings_4 a σ n) a σ x1 x2))))
set_option maxHeartbeats 4000000 in
theorem okc_X9_howManyRings_4 {L : Nat} {a : Nat} {σ : Sg} {R : Int32} (ha : P9 a) {n : Nat} {x1 : Int32} {x2 : Int32} {pl : mLoc} (h : c_X9_howManyRings_4 a σ n x1 x2 = some R) (hl : mlf [some (.ref a), some (.int x1), some (.int x2)] pl) : mAt 3 64 (some (.int R), (mSh, L, σ)) 4 pl [] (mSh, L, σ) 0 0 := by
  induction n generalizing x1 x2 pl with
  | zero =>
    rw [c_X9_howManyRings_4.eq_1] at h
    cases h
  | succ n ih =>
    refine mAt.less hl ?_
    rw [c_X9_howManyRings_4.eq_2] at h
    refine mAt.blk bk_X9_howManyRings_4 ck_X9_howManyRings_4 ?_
    refine q_iload_n rfl ?_
    refine q_aload_n rfl ?_
    refine q_getI (ha).1 rfl ?_
    refine q_ic_ge (fun c1 => ?_) (fun c1 => ?_)
    · rw [if_pos c1] at h
      refine mAt.blk bk_X9_howManyRings_30 ck_X9_howManyRings_30 ?_
      refine q_iload_n rfl ?_
      have h := Option.some.inj h
      subst h
      exact q_iretI mcap_0 rfl rfl
    · rw [if_neg c1] at h
      refine q_aload_n rfl ?_
      refine q_iload_n rfl ?_
      obtain ⟨q2, e2, h⟩ := mbind h
      refine q_vI1 mcap_0 rfl rfl (ha).1 rfl (by decide) (ok_X9_leastOfRing ha e2) ?_
      refine q_iload_n rfl ?_
      refine q_ic_ne (fun c3 => ?_) (fun c3 => ?_)
      · rw [if_pos c3] at h
        refine q_iinc rfl rfl ?_
        exact okc_X9_howManyRings_24 ha (fun _ _ _ e hl => ih  e hl) h ⟨rfl, rfl, rfl, trivial⟩
      · rw [if_neg c3] at h
        exact okc_X9_howManyRings_24 ha (fun _ _ _ e hl => ih  e hl) h ⟨rfl, rfl, rfl, trivial⟩
def f_X9_howManyRings (a : Nat) (σ : Sg) : Option (Int32) := (c_X9_howManyRings_4  a σ 1000 (0 : Int32) (0 : Int32))
set_option maxHeartbeats 4000000 in
theorem ok_X9_howManyRings {L : Nat} {a : Nat} {σ : Sg} {R : Int32} (ha : P9 a) (h : f_X9_howManyRings a σ = some R) : mEv 3 64 [.ref a] (mSh, L, σ) (some (.int R)) (mSh, L, σ) := by
  refine mEv.of (by decide) rfl rfl ?_
  unfold f_X9_howManyRings at h
  refine mAt.blk bk_X9_howManyRings_0 ck_X9_howManyRings_0 ?_
  refine q_iconst ?_
  refine q_istore_n rfl rfl ?_
  refine q_iconst ?_
  refine q_istore_n rfl rfl ?_
  exact okc_X9_howManyRings_4 ha h ⟨rfl, rfl, rfl, trivial⟩
def bk_X9_meetingDay_0 : List mI := [(.iload_n 1, 1, 0, 0, 0, []), (.istore_n 3, 1, 0, 0, 0, []), (.iload_n 2, 1, 0, 0, 0, []), (.istore 4, 2, 0, 0, 0, []), (.iconst 0, 1, 0, 0, 0, [(0, 0)]), (.istore 5, 2, 0, 0, 0, []), (.iconst 0, 1, 0, 0, 0, [(0, 0)]), (.istore 6, 2, 0, 0, 0, []), (.iconst 0, 1, 0, 0, 0, [(0, 0)]), (.istore 7, 2, 0, 0, 0, [])]
theorem ck_X9_meetingDay_0 : mChk 65 0 bk_X9_meetingDay_0 = true := by decide +kernel
def bk_X9_meetingDay_14 : List mI := [(.iload 7, 2, 0, 0, 0, []), (.sipush 400, 3, 0, 0, 0, [(400, 0)]), (.if_icmp .gt 121, 3, 140, 0, 0, []), (.iload 5, 2, 0, 0, 0, []), (.iload 6, 2, 0, 0, 0, []), (.invokestatic 68, 3, 996, 0, 759, []), (.sipush 200, 3, 0, 0, 0, [(200, 0)]), (.if_icmp .gt 108, 3, 140, 0, 0, []), (.iload 5, 2, 0, 0, 0, []), (.iload 6, 2, 0, 0, 0, []), (.if_icmp .ne 12, 3, 51, 0, 0, []), (.iload_n 3, 1, 0, 0, 0, []), (.iload 4, 2, 0, 0, 0, []), (.if_icmp .ne 6, 3, 51, 0, 0, []), (.iload 5, 2, 0, 0, 0, []), (.ireturn, 1, 0, 0, 0, [])]
theorem ck_X9_meetingDay_14 : mChk 65 14 bk_X9_meetingDay_14 = true := by decide +kernel
def bk_X9_meetingDay_51 : List mI := [(.iload 5, 2, 0, 0, 0, []), (.iload 6, 2, 0, 0, 0, []), (.if_icmp .gt 7, 3, 62, 0, 0, []), (.iconst 1, 1, 0, 0, 0, [(1, 0)]), (.goto 4, 3, 63, 0, 0, [])]
theorem ck_X9_meetingDay_51 : mChk 65 51 bk_X9_meetingDay_51 = true := by decide +kernel
def bk_X9_meetingDay_62 : List mI := [(.iconst 0, 1, 0, 0, 0, [(0, 0)])]
theorem ck_X9_meetingDay_62 : mChk 65 62 bk_X9_meetingDay_62 = true := by decide +kernel
def bk_X9_meetingDay_63 : List mI := [(.istore 8, 2, 0, 0, 0, []), (.iload 8, 2, 0, 0, 0, []), (.ifCond .eq 7, 3, 74, 0, 0, []), (.iload_n 3, 1, 0, 0, 0, []), (.goto 5, 3, 76, 0, 0, [])]
theorem ck_X9_meetingDay_63 : mChk 65 63 bk_X9_meetingDay_63 = true := by decide +kernel
def bk_X9_meetingDay_74 : List mI := [(.iload 4, 2, 0, 0, 0, [])]
theorem ck_X9_meetingDay_74 : mChk 65 74 bk_X9_meetingDay_74 = true := by decide +kernel
def bk_X9_meetingDay_76 : List mI := [(.istore 9, 2, 0, 0, 0, []), (.aload_n 0, 1, 0, 0, 0, []), (.iload 9, 2, 0, 0, 0, []), (.invokevirtual 56, 3, 58, 0, 728, []), (.ifCond .ge 5, 3, 89, 0, 0, []), (.iconst (-1), 1, 0, 0, 0, [((-1), 0)]), (.ireturn, 1, 0, 0, 0, [])]
theorem ck_X9_meetingDay_76 : mChk 65 76 bk_X9_meetingDay_76 = true := by decide +kernel
def bk_X9_meetingDay_89 : List mI := [(.iload 8, 2, 0, 0, 0, []), (.ifCond .eq 24, 3, 115, 0, 0, []), (.iload 5, 2, 0, 0, 0, []), (.aload_n 0, 1, 0, 0, 0, []), (.iload 9, 2, 0, 0, 0, []), (.invokevirtual 52, 3, 59, 0, 729, []), (.iadd, 1, 0, 0, 0, []), (.istore 5, 2, 0, 0, 0, []), (.aload_n 0, 1, 0, 0, 0, []), (.iload 9, 2, 0, 0, 0, []), (.invokevirtual 56, 3, 58, 0, 728, []), (.istore_n 3, 1, 0, 0, 0, []), (.goto 22, 3, 134, 0, 0, [])]
theorem ck_X9_meetingDay_89 : mChk 65 89 bk_X9_meetingDay_89 = true := by decide +kernel
def bk_X9_meetingDay_115 : List mI := [(.iload 6, 2, 0, 0, 0, []), (.aload_n 0, 1, 0, 0, 0, []), (.iload 9, 2, 0, 0, 0, []), (.invokevirtual 52, 3, 59, 0, 729, []), (.iadd, 1, 0, 0, 0, []), (.istore 6, 2, 0, 0, 0, []), (.aload_n 0, 1, 0, 0, 0, []), (.iload 9, 2, 0, 0, 0, []), (.invokevirtual 56, 3, 58, 0, 728, []), (.istore 4, 2, 0, 0, 0, [])]
theorem ck_X9_meetingDay_115 : mChk 65 115 bk_X9_meetingDay_115 = true := by decide +kernel
def bk_X9_meetingDay_134 : List mI := [(.iinc 7 1, 3, 0, 0, 0, [(1, 0)]), (.goto (-123), 3, 14, 0, 0, [])]
theorem ck_X9_meetingDay_134 : mChk 65 134 bk_X9_meetingDay_134 = true := by decide +kernel
def bk_X9_meetingDay_140 : List mI := [(.iconst (-1), 1, 0, 0, 0, [((-1), 0)]), (.ireturn, 1, 0, 0, 0, [])]
theorem ck_X9_meetingDay_140 : mChk 65 140 bk_X9_meetingDay_140 = true := by decide +kernel
def c_X9_meetingDay_134 (k14 : Int32 → Int32 → Int32 → Int32 → Int32 → Option (Int32)) (a : Nat) (σ : Sg) (x3 : Int32) (x4 : Int32) (x5 : Int32) (x6 : Int32) (x7 : Int32) : Option (Int32) := (k14 x3 x4 x5 x6 (x7 + (1 : Int32)))
set_option maxHeartbeats 4000000 in
theorem okc_X9_meetingDay_134 {L : Nat} {k14 : Int32 → Int32 → Int32 → Int32 → Int32 → Option (Int32)} {a : Nat} {σ : Sg} {R : Int32} (ha : P9 a) (Hk14 : ∀ (x3 : Int32) (x4 : Int32) (x5 : Int32) (x6 : Int32) (x7 : Int32) (pl : mLoc), k14 x3 x4 x5 x6 x7 = some R → mlf [some (.ref a), none, none, some (.int x3), some (.int x4), some (.int x5), some (.int x6), some (.int x7), none, none] pl → mAt 2 65 (some (.int R), (mSh, L, σ)) 14 pl [] (mSh, L, σ) 0 0) {x3 : Int32} {x4 : Int32} {x5 : Int32} {x6 : Int32} {x7 : Int32} {pl : mLoc} (h : c_X9_meetingDay_134 k14 a σ x3 x4 x5 x6 x7 = some R) (hl : mlf [some (.ref a), none, none, some (.int x3), some (.int x4), some (.int x5), some (.int x6), some (.int x7), none, none] pl) : mAt 2 65 (some (.int R), (mSh, L, σ)) 134 pl [] (mSh, L, σ) 0 0 := by
  refine mAt.less hl ?_
  unfold c_X9_meetingDay_134 at h
  refine mAt.blk bk_X9_meetingDay_134 ck_X9_meetingDay_134 ?_
  refine q_iinc rfl rfl ?_
  refine q_goto ?_
  exact Hk14 _ _ _ _ _ _  h ⟨rfl, rfl, rfl, rfl, rfl, rfl, trivial⟩
def c_X9_meetingDay_76 (k14 : Int32 → Int32 → Int32 → Int32 → Int32 → Option (Int32)) (a : Nat) (σ : Sg) (x3 : Int32) (x4 : Int32) (x5 : Int32) (x6 : Int32) (x7 : Int32) (x8 : Int32) (s0 : Int32) : Option (Int32) := ((f_X9_leadsTo a s0 σ).bind fun q7 => (if 0 ≤ q7 then (if x8 = 0 then ((f_X9_daysOf a s0 σ).bind fun q10 => ((f_X9_leadsTo a s0 σ).bind fun q11 => (c_X9_meetingDay_134 k14 a σ x3 q11 x5 (x6 + q10) x7))) else ((f_X9_daysOf a s0 σ).bind fun q12 => ((f_X9_leadsTo a s0 σ).bind fun q13 => (c_X9_meetingDay_134 k14 a σ q13 x4 (x5 + q12) x6 x7)))) else (some (-1 : Int32))))
set_option maxHeartbeats 4000000 in
theorem okc_X9_meetingDay_76 {L : Nat} {k14 : Int32 → Int32 → Int32 → Int32 → Int32 → Option (Int32)} {a : Nat} {σ : Sg} {R : Int32} (ha : P9 a) (Hk14 : ∀ (x3 : Int32) (x4 : Int32) (x5 : Int32) (x6 : Int32) (x7 : Int32) (pl : mLoc), k14 x3 x4 x5 x6 x7 = some R → mlf [some (.ref a), none, none, some (.int x3), some (.int x4), some (.int x5), some (.int x6), some (.int x7), none, none] pl → mAt 2 65 (some (.int R), (mSh, L, σ)) 14 pl [] (mSh, L, σ) 0 0) {x3 : Int32} {x4 : Int32} {x5 : Int32} {x6 : Int32} {x7 : Int32} {x8 : Int32} {s0 : Int32} {pl : mLoc} (h : c_X9_meetingDay_76 k14 a σ x3 x4 x5 x6 x7 x8 s0 = some R) (hl : mlf [some (.ref a), none, none, some (.int x3), some (.int x4), some (.int x5), some (.int x6), some (.int x7), some (.int x8), none] pl) : mAt 2 65 (some (.int R), (mSh, L, σ)) 76 pl [.int s0] (mSh, L, σ) 0 0 := by
  refine mAt.less hl ?_
  unfold c_X9_meetingDay_76 at h
  refine mAt.blk bk_X9_meetingDay_76 ck_X9_meetingDay_76 ?_
  refine q_istore rfl rfl ?_
  refine q_aload_n rfl ?_
  refine q_iload rfl ?_
  obtain ⟨q7, e7, h⟩ := mbind h
  refine q_vI1 mcap_0 rfl rfl (ha).1 rfl (by decide) (ok_X9_leadsTo ha e7) ?_
  refine q_if_ge (fun c8 => ?_) (fun c8 => ?_)
  · rw [if_pos c8] at h
    refine mAt.blk bk_X9_meetingDay_89 ck_X9_meetingDay_89 ?_
    refine q_iload rfl ?_
    refine q_if_eq (fun c9 => ?_) (fun c9 => ?_)
    · rw [if_pos c9] at h
      refine mAt.blk bk_X9_meetingDay_115 ck_X9_meetingDay_115 ?_
      refine q_iload rfl ?_
      refine q_aload_n rfl ?_
      refine q_iload rfl ?_
      obtain ⟨q10, e10, h⟩ := mbind h
      refine q_vI1 mcap_0 rfl rfl (ha).1 rfl (by decide) (ok_X9_daysOf ha e10) ?_
      refine q_iadd ?_
      refine q_istore rfl rfl ?_
      refine q_aload_n rfl ?_
      refine q_iload rfl ?_
      obtain ⟨q11, e11, h⟩ := mbind h
      refine q_vI1 mcap_0 rfl rfl (ha).1 rfl (by decide) (ok_X9_leadsTo ha e11) ?_
      refine q_istore rfl rfl ?_
      exact okc_X9_meetingDay_134 ha Hk14 h ⟨rfl, rfl, rfl, rfl, rfl, rfl, trivial⟩
    · rw [if_neg c9] at h
      refine q_iload rfl ?_
      refine q_aload_n rfl ?_
      refine q_iload rfl ?_
      obtain ⟨q12, e12, h⟩ := mbind h
      refine q_vI1 mcap_0 rfl rfl (ha).1 rfl (by decide) (ok_X9_daysOf ha e12) ?_
      refine q_iadd ?_
      refine q_istore rfl rfl ?_
      refine q_aload_n rfl ?_
      refine q_iload rfl ?_
      obtain ⟨q13, e13, h⟩ := mbind h
      refine q_vI1 mcap_0 rfl rfl (ha).1 rfl (by decide) (ok_X9_leadsTo ha e13) ?_
      refine q_istore_n rfl rfl ?_
      refine q_goto ?_
      exact okc_X9_meetingDay_134 ha Hk14 h ⟨rfl, rfl, rfl, rfl, rfl, rfl, trivial⟩
  · rw [if_neg c8] at h
    refine q_iconst ?_
    have h := Option.some.inj h
    subst h
    exact q_iretI mcap_0 rfl rfl
def c_X9_meetingDay_63 (k14 : Int32 → Int32 → Int32 → Int32 → Int32 → Option (Int32)) (a : Nat) (σ : Sg) (x3 : Int32) (x4 : Int32) (x5 : Int32) (x6 : Int32) (x7 : Int32) (s0 : Int32) : Option (Int32) := (if s0 = 0 then (c_X9_meetingDay_76 k14 a σ x3 x4 x5 x6 x7 s0 x4) else (c_X9_meetingDay_76 k14 a σ x3 x4 x5 x6 x7 s0 x3))
set_option maxHeartbeats 4000000 in
theorem okc_X9_meetingDay_63 {L : Nat} {k14 : Int32 → Int32 → Int32 → Int32 → Int32 → Option (Int32)} {a : Nat} {σ : Sg} {R : Int32} (ha : P9 a) (Hk14 : ∀ (x3 : Int32) (x4 : Int32) (x5 : Int32) (x6 : Int32) (x7 : Int32) (pl : mLoc), k14 x3 x4 x5 x6 x7 = some R → mlf [some (.ref a), none, none, some (.int x3), some (.int x4), some (.int x5), some (.int x6), some (.int x7), none, none] pl → mAt 2 65 (some (.int R), (mSh, L, σ)) 14 pl [] (mSh, L, σ) 0 0) {x3 : Int32} {x4 : Int32} {x5 : Int32} {x6 : Int32} {x7 : Int32} {s0 : Int32} {pl : mLoc} (h : c_X9_meetingDay_63 k14 a σ x3 x4 x5 x6 x7 s0 = some R) (hl : mlf [some (.ref a), none, none, some (.int x3), some (.int x4), some (.int x5), some (.int x6), some (.int x7), none, none] pl) : mAt 2 65 (some (.int R), (mSh, L, σ)) 63 pl [.int s0] (mSh, L, σ) 0 0 := by
  refine mAt.less hl ?_
  unfold c_X9_meetingDay_63 at h
  refine mAt.blk bk_X9_meetingDay_63 ck_X9_meetingDay_63 ?_
  refine q_istore rfl rfl ?_
  refine q_iload rfl ?_
  refine q_if_eq (fun c6 => ?_) (fun c6 => ?_)
  · rw [if_pos c6] at h
    refine mAt.blk bk_X9_meetingDay_74 ck_X9_meetingDay_74 ?_
    refine q_iload rfl ?_
    exact okc_X9_meetingDay_76 ha Hk14 h ⟨rfl, rfl, rfl, rfl, rfl, rfl, rfl, trivial⟩
  · rw [if_neg c6] at h
    refine q_iload_n rfl ?_
    refine q_goto ?_
    exact okc_X9_meetingDay_76 ha Hk14 h ⟨rfl, rfl, rfl, rfl, rfl, rfl, rfl, trivial⟩
def c_X9_meetingDay_51 (k14 : Int32 → Int32 → Int32 → Int32 → Int32 → Option (Int32)) (a : Nat) (σ : Sg) (x3 : Int32) (x4 : Int32) (x5 : Int32) (x6 : Int32) (x7 : Int32) : Option (Int32) := (if x6 < x5 then (c_X9_meetingDay_63 k14 a σ x3 x4 x5 x6 x7 (0 : Int32)) else (c_X9_meetingDay_63 k14 a σ x3 x4 x5 x6 x7 (1 : Int32)))
set_option maxHeartbeats 4000000 in
theorem okc_X9_meetingDay_51 {L : Nat} {k14 : Int32 → Int32 → Int32 → Int32 → Int32 → Option (Int32)} {a : Nat} {σ : Sg} {R : Int32} (ha : P9 a) (Hk14 : ∀ (x3 : Int32) (x4 : Int32) (x5 : Int32) (x6 : Int32) (x7 : Int32) (pl : mLoc), k14 x3 x4 x5 x6 x7 = some R → mlf [some (.ref a), none, none, some (.int x3), some (.int x4), some (.int x5), some (.int x6), some (.int x7), none, none] pl → mAt 2 65 (some (.int R), (mSh, L, σ)) 14 pl [] (mSh, L, σ) 0 0) {x3 : Int32} {x4 : Int32} {x5 : Int32} {x6 : Int32} {x7 : Int32} {pl : mLoc} (h : c_X9_meetingDay_51 k14 a σ x3 x4 x5 x6 x7 = some R) (hl : mlf [some (.ref a), none, none, some (.int x3), some (.int x4), some (.int x5), some (.int x6), some (.int x7), none, none] pl) : mAt 2 65 (some (.int R), (mSh, L, σ)) 51 pl [] (mSh, L, σ) 0 0 := by
  refine mAt.less hl ?_
  unfold c_X9_meetingDay_51 at h
  refine mAt.blk bk_X9_meetingDay_51 ck_X9_meetingDay_51 ?_
  refine q_iload rfl ?_
  refine q_iload rfl ?_
  refine q_ic_gt (fun c5 => ?_) (fun c5 => ?_)
  · rw [if_pos c5] at h
    refine mAt.blk bk_X9_meetingDay_62 ck_X9_meetingDay_62 ?_
    refine q_iconst ?_
    exact okc_X9_meetingDay_63 ha Hk14 h ⟨rfl, rfl, rfl, rfl, rfl, rfl, trivial⟩
  · rw [if_neg c5] at h
    refine q_iconst ?_
    refine q_goto ?_
    exact okc_X9_meetingDay_63 ha Hk14 h ⟨rfl, rfl, rfl, rfl, rfl, rfl, trivial⟩
def c_X9_meetingDay_14 (a : Nat) (σ : Sg) : Nat → Int32 → Int32 → Int32 → Int32 → Int32 → Option (Int32)
  | 0, _, _, _, _, _ => none
  | n + 1, x3, x4, x5, x6, x7 => (if (400 : Int32) < x7 then (some (-1 : Int32)) else (if (200 : Int32) < (if x5 < x6 then x6 else x5) then (some (-1 : Int32)) else (if x5 = x6 then (if x3 = x4 then (some x5) else (c_X9_meetingDay_51 (c_X9_meetingDay_14 a σ n) a σ x3 x4 x5 x6 x7)) else (c_X9_meetingDay_51 (c_X9_meetingDay_14 a σ n) a σ x3 x4 x5 x6 x7))))
set_option maxHeartbeats 4000000 in
theorem okc_X9_meetingDay_14 {L : Nat} {a : Nat} {σ : Sg} {R : Int32} (ha : P9 a) {n : Nat} {x3 : Int32} {x4 : Int32} {x5 : Int32} {x6 : Int32} {x7 : Int32} {pl : mLoc} (h : c_X9_meetingDay_14 a σ n x3 x4 x5 x6 x7 = some R) (hl : mlf [some (.ref a), none, none, some (.int x3), some (.int x4), some (.int x5), some (.int x6), some (.int x7), none, none] pl) : mAt 2 65 (some (.int R), (mSh, L, σ)) 14 pl [] (mSh, L, σ) 0 0 := by
  induction n generalizing x3 x4 x5 x6 x7 pl with
  | zero =>
    rw [c_X9_meetingDay_14.eq_1] at h
    cases h
  | succ n ih =>
    refine mAt.less hl ?_
    rw [c_X9_meetingDay_14.eq_2] at h
    refine mAt.blk bk_X9_meetingDay_14 ck_X9_meetingDay_14 ?_
    refine q_iload rfl ?_
    refine q_sipush ?_
    refine q_ic_gt (fun c1 => ?_) (fun c1 => ?_)
    · rw [if_pos c1] at h
      refine mAt.blk bk_X9_meetingDay_140 ck_X9_meetingDay_140 ?_
      refine q_iconst ?_
      have h := Option.some.inj h
      subst h
      exact q_iretI mcap_0 rfl rfl
    · rw [if_neg c1] at h
      refine q_iload rfl ?_
      refine q_iload rfl ?_
      refine q_max rfl (by decide) mcap_0 ?_
      refine q_sipush ?_
      refine q_ic_gt (fun c2 => ?_) (fun c2 => ?_)
      · rw [if_pos c2] at h
        refine mAt.blk bk_X9_meetingDay_140 ck_X9_meetingDay_140 ?_
        refine q_iconst ?_
        have h := Option.some.inj h
        subst h
        exact q_iretI mcap_0 rfl rfl
      · rw [if_neg c2] at h
        refine q_iload rfl ?_
        refine q_iload rfl ?_
        refine q_ic_ne (fun c3 => ?_) (fun c3 => ?_)
        · rw [if_pos c3] at h
          refine q_iload_n rfl ?_
          refine q_iload rfl ?_
          refine q_ic_ne (fun c4 => ?_) (fun c4 => ?_)
          · rw [if_pos c4] at h
            refine q_iload rfl ?_
            have h := Option.some.inj h
            subst h
            exact q_iretI mcap_0 rfl rfl
          · rw [if_neg c4] at h
            exact okc_X9_meetingDay_51 ha (fun _ _ _ _ _ _ e hl => ih  e hl) h ⟨rfl, rfl, rfl, rfl, rfl, rfl, trivial⟩
        · rw [if_neg c3] at h
          exact okc_X9_meetingDay_51 ha (fun _ _ _ _ _ _ e hl => ih  e hl) h ⟨rfl, rfl, rfl, rfl, rfl, rfl, trivial⟩
def f_X9_meetingDay (a : Nat) (p0 : Int32) (p1 : Int32) (σ : Sg) : Option (Int32) := (c_X9_meetingDay_14  a σ 1000 p0 p1 (0 : Int32) (0 : Int32) (0 : Int32))
set_option maxHeartbeats 4000000 in
theorem ok_X9_meetingDay {L : Nat} {a : Nat} {p0 : Int32} {p1 : Int32} {σ : Sg} {R : Int32} (ha : P9 a) (h : f_X9_meetingDay a p0 p1 σ = some R) : mEv 2 65 [.ref a, .int p0, .int p1] (mSh, L, σ) (some (.int R)) (mSh, L, σ) := by
  refine mEv.of (by decide) rfl rfl ?_
  unfold f_X9_meetingDay at h
  refine mAt.blk bk_X9_meetingDay_0 ck_X9_meetingDay_0 ?_
  refine q_iload_n rfl ?_
  refine q_istore_n rfl rfl ?_
  refine q_iload_n rfl ?_
  refine q_istore rfl rfl ?_
  refine q_iconst ?_
  refine q_istore rfl rfl ?_
  refine q_iconst ?_
  refine q_istore rfl rfl ?_
  refine q_iconst ?_
  refine q_istore rfl rfl ?_
  exact okc_X9_meetingDay_14 ha h ⟨rfl, rfl, rfl, rfl, rfl, rfl, trivial⟩
def bk_X9_longestGoing_0 : List mI := [(.iconst (-1), 1, 0, 0, 0, [((-1), 0)]), (.istore_n 1, 1, 0, 0, 0, []), (.iconst 0, 1, 0, 0, 0, [(0, 0)]), (.istore_n 2, 1, 0, 0, 0, [])]
theorem ck_X9_longestGoing_0 : mChk 66 0 bk_X9_longestGoing_0 = true := by decide +kernel
def bk_X9_longestGoing_4 : List mI := [(.iload_n 2, 1, 0, 0, 0, []), (.aload_n 0, 1, 0, 0, 0, []), (.getfield 28, 3, 9, 4, 195, []), (.if_icmp .ge 36, 3, 45, 0, 0, []), (.aload_n 0, 1, 0, 0, 0, []), (.iload_n 2, 1, 0, 0, 0, []), (.invokevirtual 56, 3, 58, 0, 728, []), (.ifCond .lt 22, 3, 39, 0, 0, []), (.iload_n 1, 1, 0, 0, 0, []), (.ifCond .lt 16, 3, 37, 0, 0, []), (.aload_n 0, 1, 0, 0, 0, []), (.iload_n 2, 1, 0, 0, 0, []), (.invokevirtual 52, 3, 59, 0, 729, []), (.aload_n 0, 1, 0, 0, 0, []), (.iload_n 1, 1, 0, 0, 0, []), (.invokevirtual 52, 3, 59, 0, 729, []), (.if_icmp .le 5, 3, 39, 0, 0, [])]
theorem ck_X9_longestGoing_4 : mChk 66 4 bk_X9_longestGoing_4 = true := by decide +kernel
def bk_X9_longestGoing_37 : List mI := [(.iload_n 2, 1, 0, 0, 0, []), (.istore_n 1, 1, 0, 0, 0, [])]
theorem ck_X9_longestGoing_37 : mChk 66 37 bk_X9_longestGoing_37 = true := by decide +kernel
def bk_X9_longestGoing_39 : List mI := [(.iinc 2 1, 3, 0, 0, 0, [(1, 0)]), (.goto (-38), 3, 4, 0, 0, [])]
theorem ck_X9_longestGoing_39 : mChk 66 39 bk_X9_longestGoing_39 = true := by decide +kernel
def bk_X9_longestGoing_45 : List mI := [(.iload_n 1, 1, 0, 0, 0, []), (.ireturn, 1, 0, 0, 0, [])]
theorem ck_X9_longestGoing_45 : mChk 66 45 bk_X9_longestGoing_45 = true := by decide +kernel
def c_X9_longestGoing_39 (k4 : Int32 → Int32 → Option (Int32)) (a : Nat) (σ : Sg) (x1 : Int32) (x2 : Int32) : Option (Int32) := (k4 x1 (x2 + (1 : Int32)))
set_option maxHeartbeats 4000000 in
theorem okc_X9_longestGoing_39 {L : Nat} {k4 : Int32 → Int32 → Option (Int32)} {a : Nat} {σ : Sg} {R : Int32} (ha : P9 a) (Hk4 : ∀ (x1 : Int32) (x2 : Int32) (pl : mLoc), k4 x1 x2 = some R → mlf [some (.ref a), some (.int x1), some (.int x2)] pl → mAt 2 66 (some (.int R), (mSh, L, σ)) 4 pl [] (mSh, L, σ) 0 0) {x1 : Int32} {x2 : Int32} {pl : mLoc} (h : c_X9_longestGoing_39 k4 a σ x1 x2 = some R) (hl : mlf [some (.ref a), some (.int x1), some (.int x2)] pl) : mAt 2 66 (some (.int R), (mSh, L, σ)) 39 pl [] (mSh, L, σ) 0 0 := by
  refine mAt.less hl ?_
  unfold c_X9_longestGoing_39 at h
  refine mAt.blk bk_X9_longestGoing_39 ck_X9_longestGoing_39 ?_
  refine q_iinc rfl rfl ?_
  refine q_goto ?_
  exact Hk4 _ _ _  h ⟨rfl, rfl, rfl, trivial⟩
def c_X9_longestGoing_37 (k4 : Int32 → Int32 → Option (Int32)) (a : Nat) (σ : Sg) (x2 : Int32) : Option (Int32) := (c_X9_longestGoing_39 k4 a σ x2 x2)
set_option maxHeartbeats 4000000 in
theorem okc_X9_longestGoing_37 {L : Nat} {k4 : Int32 → Int32 → Option (Int32)} {a : Nat} {σ : Sg} {R : Int32} (ha : P9 a) (Hk4 : ∀ (x1 : Int32) (x2 : Int32) (pl : mLoc), k4 x1 x2 = some R → mlf [some (.ref a), some (.int x1), some (.int x2)] pl → mAt 2 66 (some (.int R), (mSh, L, σ)) 4 pl [] (mSh, L, σ) 0 0) {x2 : Int32} {pl : mLoc} (h : c_X9_longestGoing_37 k4 a σ x2 = some R) (hl : mlf [some (.ref a), none, some (.int x2)] pl) : mAt 2 66 (some (.int R), (mSh, L, σ)) 37 pl [] (mSh, L, σ) 0 0 := by
  refine mAt.less hl ?_
  unfold c_X9_longestGoing_37 at h
  refine mAt.blk bk_X9_longestGoing_37 ck_X9_longestGoing_37 ?_
  refine q_iload_n rfl ?_
  refine q_istore_n rfl rfl ?_
  exact okc_X9_longestGoing_39 ha Hk4 h ⟨rfl, rfl, rfl, trivial⟩
def c_X9_longestGoing_4 (a : Nat) (σ : Sg) : Nat → Int32 → Int32 → Option (Int32)
  | 0, _, _ => none
  | n + 1, x1, x2 => (if (σ a 4) ≤ x2 then (some x1) else ((f_X9_leadsTo a x2 σ).bind fun q2 => (if q2 < 0 then (c_X9_longestGoing_39 (c_X9_longestGoing_4 a σ n) a σ x1 x2) else (if x1 < 0 then (c_X9_longestGoing_37 (c_X9_longestGoing_4 a σ n) a σ x2) else ((f_X9_daysOf a x2 σ).bind fun q5 => ((f_X9_daysOf a x1 σ).bind fun q6 => (if q5 ≤ q6 then (c_X9_longestGoing_39 (c_X9_longestGoing_4 a σ n) a σ x1 x2) else (c_X9_longestGoing_37 (c_X9_longestGoing_4 a σ n) a σ x2))))))))
set_option maxHeartbeats 4000000 in
theorem okc_X9_longestGoing_4 {L : Nat} {a : Nat} {σ : Sg} {R : Int32} (ha : P9 a) {n : Nat} {x1 : Int32} {x2 : Int32} {pl : mLoc} (h : c_X9_longestGoing_4 a σ n x1 x2 = some R) (hl : mlf [some (.ref a), some (.int x1), some (.int x2)] pl) : mAt 2 66 (some (.int R), (mSh, L, σ)) 4 pl [] (mSh, L, σ) 0 0 := by
  induction n generalizing x1 x2 pl with
  | zero =>
    rw [c_X9_longestGoing_4.eq_1] at h
    cases h
  | succ n ih =>
    refine mAt.less hl ?_
    rw [c_X9_longestGoing_4.eq_2] at h
    refine mAt.blk bk_X9_longestGoing_4 ck_X9_longestGoing_4 ?_
    refine q_iload_n rfl ?_
    refine q_aload_n rfl ?_
    refine q_getI (ha).1 rfl ?_
    refine q_ic_ge (fun c1 => ?_) (fun c1 => ?_)
    · rw [if_pos c1] at h
      refine mAt.blk bk_X9_longestGoing_45 ck_X9_longestGoing_45 ?_
      refine q_iload_n rfl ?_
      have h := Option.some.inj h
      subst h
      exact q_iretI mcap_0 rfl rfl
    · rw [if_neg c1] at h
      refine q_aload_n rfl ?_
      refine q_iload_n rfl ?_
      obtain ⟨q2, e2, h⟩ := mbind h
      refine q_vI1 mcap_0 rfl rfl (ha).1 rfl (by decide) (ok_X9_leadsTo ha e2) ?_
      refine q_if_lt (fun c3 => ?_) (fun c3 => ?_)
      · rw [if_pos c3] at h
        exact okc_X9_longestGoing_39 ha (fun _ _ _ e hl => ih  e hl) h ⟨rfl, rfl, rfl, trivial⟩
      · rw [if_neg c3] at h
        refine q_iload_n rfl ?_
        refine q_if_lt (fun c4 => ?_) (fun c4 => ?_)
        · rw [if_pos c4] at h
          exact okc_X9_longestGoing_37 ha (fun _ _ _ e hl => ih  e hl) h ⟨rfl, rfl, trivial⟩
        · rw [if_neg c4] at h
          refine q_aload_n rfl ?_
          refine q_iload_n rfl ?_
          obtain ⟨q5, e5, h⟩ := mbind h
          refine q_vI1 mcap_0 rfl rfl (ha).1 rfl (by decide) (ok_X9_daysOf ha e5) ?_
          refine q_aload_n rfl ?_
          refine q_iload_n rfl ?_
          obtain ⟨q6, e6, h⟩ := mbind h
          refine q_vI1 mcap_0 rfl rfl (ha).1 rfl (by decide) (ok_X9_daysOf ha e6) ?_
          refine q_ic_le (fun c7 => ?_) (fun c7 => ?_)
          · rw [if_pos c7] at h
            exact okc_X9_longestGoing_39 ha (fun _ _ _ e hl => ih  e hl) h ⟨rfl, rfl, rfl, trivial⟩
          · rw [if_neg c7] at h
            exact okc_X9_longestGoing_37 ha (fun _ _ _ e hl => ih  e hl) h ⟨rfl, rfl, trivial⟩
def f_X9_longestGoing (a : Nat) (σ : Sg) : Option (Int32) := (c_X9_longestGoing_4  a σ 1000 (-1 : Int32) (0 : Int32))
set_option maxHeartbeats 4000000 in
theorem ok_X9_longestGoing {L : Nat} {a : Nat} {σ : Sg} {R : Int32} (ha : P9 a) (h : f_X9_longestGoing a σ = some R) : mEv 2 66 [.ref a] (mSh, L, σ) (some (.int R)) (mSh, L, σ) := by
  refine mEv.of (by decide) rfl rfl ?_
  unfold f_X9_longestGoing at h
  refine mAt.blk bk_X9_longestGoing_0 ck_X9_longestGoing_0 ?_
  refine q_iconst ?_
  refine q_istore_n rfl rfl ?_
  refine q_iconst ?_
  refine q_istore_n rfl rfl ?_
  exact okc_X9_longestGoing_4 ha h ⟨rfl, rfl, rfl, trivial⟩
def bk_X10_copyFrom_0 : List mI := [(.aload_n 0, 1, 0, 0, 0, []), (.getfield 12, 3, 10, 0, 249, []), (.aload_n 1, 1, 0, 0, 0, []), (.getfield 12, 3, 10, 0, 249, []), (.invokevirtual 32, 3, 53, 0, 693, []), (.aload_n 0, 1, 0, 0, 0, []), (.getfield 21, 3, 10, 1, 251, []), (.aload_n 1, 1, 0, 0, 0, []), (.getfield 21, 3, 10, 1, 251, []), (.invokevirtual 36, 3, 38, 0, 698, []), (.aload_n 0, 1, 0, 0, 0, []), (.aload_n 1, 1, 0, 0, 0, []), (.getfield 39, 3, 10, 4, 255, []), (.putfield 39, 3, 10, 4, 255, []), (.return_, 1, 0, 0, 0, [])]
theorem ck_X10_copyFrom_0 : mChk 68 0 bk_X10_copyFrom_0 = true := by decide +kernel
def f_X10_copyFrom (a a_sl a_tk r0 r0_sl r0_tk : Nat) (σ : Sg) : Option (Sg) := ((f_X9_copyFrom (a + 1) (r0 + 1) σ).bind fun q1 => ((f_X7_copyFrom (a + 6) (r0 + 6) q1).bind fun q2 => (some (mup q2 a 4 (q2 r0 4)))))
set_option maxHeartbeats 4000000 in
theorem ok_X10_copyFrom {L : Nat} {a a_sl a_tk r0 r0_sl r0_tk : Nat} {σ : Sg} {R : Sg} (ha : P10 a a_sl a_tk) (hr0 : P10 r0 r0_sl r0_tk) (h : f_X10_copyFrom a a_sl a_tk r0 r0_sl r0_tk σ = some R) : mEv 3 68 [.ref a, .ref r0] (mSh, L, σ) none (mSh, L, R) := by
  refine mEv.of (by decide) rfl rfl ?_
  unfold f_X10_copyFrom at h
  refine mAt.blk bk_X10_copyFrom_0 ck_X10_copyFrom_0 ?_
  refine q_aload_n rfl ?_
  refine q_getR (ha).1 rfl rfl ?_
  refine q_aload_n rfl ?_
  refine q_getR (hr0).1 rfl rfl ?_
  obtain ⟨q1, e1, h⟩ := mbind h
  refine q_vV1 mcap_0 rfl rfl ((ha).2.1).1 rfl (by decide) (ok_X9_copyFrom (ha).2.1 (hr0).2.1 e1) ?_
  refine q_aload_n rfl ?_
  refine q_getR (ha).1 rfl rfl ?_
  refine q_aload_n rfl ?_
  refine q_getR (hr0).1 rfl rfl ?_
  obtain ⟨q2, e2, h⟩ := mbind h
  refine q_vV1 mcap_0 rfl rfl ((ha).2.2.1).1 rfl (by decide) (ok_X7_copyFrom (ha).2.2.1 (hr0).2.2.1 e2) ?_
  refine q_aload_n rfl ?_
  refine q_aload_n rfl ?_
  refine q_getI (hr0).1 rfl ?_
  refine q_putI (ha).1 rfl ?_
  have h := Option.some.inj h
  subst h
  exact q_vret mcap_0 rfl rfl
def bk_X10_gives_0 : List mI := [(.iload_n 1, 1, 0, 0, 0, []), (.ifCond .ne 40, 3, 41, 0, 0, []), (.aload_n 0, 1, 0, 0, 0, []), (.getfield 25, 3, 10, 2, 253, []), (.getfield 113, 3, 6, 2, 121, []), (.ifCond .ne 7, 3, 18, 0, 0, []), (.iconst 0, 1, 0, 0, 0, [(0, 0)]), (.goto 25, 3, 40, 0, 0, [])]
theorem ck_X10_gives_0 : mChk 72 0 bk_X10_gives_0 = true := by decide +kernel
def bk_X10_gives_18 : List mI := [(.iconst 0, 1, 0, 0, 0, [(0, 0)]), (.bipush 30, 2, 0, 0, 0, [(30, 0)]), (.aload_n 0, 1, 0, 0, 0, []), (.getfield 25, 3, 10, 2, 253, []), (.iload_n 2, 1, 0, 0, 0, []), (.iload_n 3, 1, 0, 0, 0, []), (.iload 4, 2, 0, 0, 0, []), (.iload 5, 2, 0, 0, 0, []), (.invokevirtual 118, 3, 34, 0, 534, []), (.invokestatic 93, 3, 997, 0, 546, []), (.invokestatic 122, 3, 996, 0, 513, [])]
theorem ck_X10_gives_18 : mChk 72 18 bk_X10_gives_18 = true := by decide +kernel
def bk_X10_gives_40 : List mI := [(.ireturn, 1, 0, 0, 0, [])]
theorem ck_X10_gives_40 : mChk 72 40 bk_X10_gives_40 = true := by decide +kernel
def bk_X10_gives_41 : List mI := [(.aload_n 0, 1, 0, 0, 0, []), (.getfield 29, 3, 10, 3, 254, []), (.getfield 113, 3, 6, 2, 121, []), (.ifCond .ne 7, 3, 55, 0, 0, []), (.iconst 1, 1, 0, 0, 0, [(1, 0)]), (.goto 16, 3, 68, 0, 0, [])]
theorem ck_X10_gives_41 : mChk 72 41 bk_X10_gives_41 = true := by decide +kernel
def bk_X10_gives_55 : List mI := [(.aload_n 0, 1, 0, 0, 0, []), (.getfield 29, 3, 10, 3, 254, []), (.iload_n 2, 1, 0, 0, 0, []), (.iload_n 3, 1, 0, 0, 0, []), (.iload 4, 2, 0, 0, 0, []), (.iload 5, 2, 0, 0, 0, []), (.invokevirtual 118, 3, 34, 0, 534, [])]
theorem ck_X10_gives_55 : mChk 72 55 bk_X10_gives_55 = true := by decide +kernel
def bk_X10_gives_68 : List mI := [(.ireturn, 1, 0, 0, 0, [])]
theorem ck_X10_gives_68 : mChk 72 68 bk_X10_gives_68 = true := by decide +kernel
def f_X10_gives (a a_sl a_tk : Nat) (p0 : Int32) (p1 : Int32) (p2 : Int32) (p3 : Int32) (p4 : Int32) (σ : Sg) : Option (Int32 × Sg) := (if p0 = 0 then (if (σ a_sl 2) = 0 then (some ((0 : Int32), σ)) else ((f_X6_worth a_sl p1 p2 p3 p4 σ).bind fun q5 => (some ((if (0 : Int32) < (if q5.1 < (30 : Int32) then q5.1 else (30 : Int32)) then (if q5.1 < (30 : Int32) then q5.1 else (30 : Int32)) else (0 : Int32)), q5.2)))) else (if (σ a_tk 2) = 0 then (some ((1 : Int32), σ)) else ((f_X6_worth a_tk p1 p2 p3 p4 σ).bind fun q3 => (some (q3.1, q3.2)))))
set_option maxHeartbeats 4000000 in
theorem ok_X10_gives {L : Nat} {a a_sl a_tk : Nat} {p0 : Int32} {p1 : Int32} {p2 : Int32} {p3 : Int32} {p4 : Int32} {σ : Sg} {R : Int32 × Sg} (ha : P10 a a_sl a_tk) (h : f_X10_gives a a_sl a_tk p0 p1 p2 p3 p4 σ = some R) : mEv 2 72 [.ref a, .int p0, .int p1, .int p2, .int p3, .int p4] (mSh, L, σ) (some (.int R.1)) (mSh, L, R.2) := by
  refine mEv.of (by decide) rfl rfl ?_
  unfold f_X10_gives at h
  refine mAt.blk bk_X10_gives_0 ck_X10_gives_0 ?_
  refine q_iload_n rfl ?_
  refine q_if_ne (fun c1 => ?_) (fun c1 => ?_)
  · rw [if_pos c1] at h
    refine q_aload_n rfl ?_
    refine q_getR (ha).1 rfl rfl ?_
    refine q_getI ((ha).2.2.2.1).1 rfl ?_
    refine q_if_ne (fun c4 => ?_) (fun c4 => ?_)
    · rw [if_pos c4] at h
      refine q_iconst ?_
      refine q_goto ?_
      refine mAt.blk bk_X10_gives_40 ck_X10_gives_40 ?_
      have h := Option.some.inj h
      subst h
      exact q_iretI mcap_0 rfl rfl
    · rw [if_neg c4] at h
      refine mAt.blk bk_X10_gives_18 ck_X10_gives_18 ?_
      refine q_iconst ?_
      refine q_bipush ?_
      refine q_aload_n rfl ?_
      refine q_getR (ha).1 rfl rfl ?_
      refine q_iload_n rfl ?_
      refine q_iload_n rfl ?_
      refine q_iload rfl ?_
      refine q_iload rfl ?_
      obtain ⟨q5, e5, h⟩ := mbind h
      refine q_vI4 mcap_0 rfl rfl ((ha).2.2.2.1).1 rfl (by decide) (ok_X6_worth (ha).2.2.2.1 e5) ?_
      refine q_min rfl (by decide) mcap_0 ?_
      refine q_max rfl (by decide) mcap_0 ?_
      refine mAt.blk bk_X10_gives_40 ck_X10_gives_40 ?_
      have h := Option.some.inj h
      subst h
      exact q_iretI mcap_0 rfl rfl
  · rw [if_neg c1] at h
    refine mAt.blk bk_X10_gives_41 ck_X10_gives_41 ?_
    refine q_aload_n rfl ?_
    refine q_getR (ha).1 rfl rfl ?_
    refine q_getI ((ha).2.2.2.2).1 rfl ?_
    refine q_if_ne (fun c2 => ?_) (fun c2 => ?_)
    · rw [if_pos c2] at h
      refine q_iconst ?_
      refine q_goto ?_
      refine mAt.blk bk_X10_gives_68 ck_X10_gives_68 ?_
      have h := Option.some.inj h
      subst h
      exact q_iretI mcap_0 rfl rfl
    · rw [if_neg c2] at h
      refine mAt.blk bk_X10_gives_55 ck_X10_gives_55 ?_
      refine q_aload_n rfl ?_
      refine q_getR (ha).1 rfl rfl ?_
      refine q_iload_n rfl ?_
      refine q_iload_n rfl ?_
      refine q_iload rfl ?_
      refine q_iload rfl ?_
      obtain ⟨q3, e3, h⟩ := mbind h
      refine q_vI4 mcap_0 rfl rfl ((ha).2.2.2.2).1 rfl (by decide) (ok_X6_worth (ha).2.2.2.2 e3) ?_
      refine mAt.blk bk_X10_gives_68 ck_X10_gives_68 ?_
      have h := Option.some.inj h
      subst h
      exact q_iretI mcap_0 rfl rfl
def bk_X10_comeNearer_0 : List mI := [(.aload_n 0, 1, 0, 0, 0, []), (.getfield 21, 3, 10, 1, 251, []), (.getfield 75, 3, 7, 3, 225, []), (.iload_n 1, 1, 0, 0, 0, []), (.invokestatic 79, 3, 130, 0, 502, []), (.istore_n 2, 1, 0, 0, 0, []), (.aload_n 0, 1, 0, 0, 0, []), (.getfield 21, 3, 10, 1, 251, []), (.getfield 83, 3, 7, 4, 228, []), (.iload_n 1, 1, 0, 0, 0, []), (.invokestatic 79, 3, 130, 0, 502, []), (.iconst 1, 1, 0, 0, 0, [(1, 0)]), (.isub, 1, 0, 0, 0, []), (.istore_n 3, 1, 0, 0, 0, []), (.iload_n 3, 1, 0, 0, 0, []), (.ifCond .le 15, 3, 42, 0, 0, []), (.aload_n 0, 1, 0, 0, 0, []), (.getfield 21, 3, 10, 1, 251, []), (.iload_n 1, 1, 0, 0, 0, []), (.iconst 1, 1, 0, 0, 0, [(1, 0)]), (.iload_n 2, 1, 0, 0, 0, []), (.iload_n 3, 1, 0, 0, 0, []), (.invokevirtual 71, 3, 41, 0, 665, []), (.return_, 1, 0, 0, 0, [])]
theorem ck_X10_comeNearer_0 : mChk 71 0 bk_X10_comeNearer_0 = true := by decide +kernel
def bk_X10_comeNearer_42 : List mI := [(.ldc 86, 2, 0, 0, 670, [(999999, 0)]), (.aload_n 0, 1, 0, 0, 0, []), (.getfield 21, 3, 10, 1, 251, []), (.getfield 87, 3, 7, 5, 230, []), (.iload_n 1, 1, 0, 0, 0, []), (.invokestatic 79, 3, 130, 0, 502, []), (.aload_n 0, 1, 0, 0, 0, []), (.getfield 12, 3, 10, 0, 249, []), (.getfield 90, 3, 9, 2, 190, []), (.iload_n 2, 1, 0, 0, 0, []), (.invokestatic 79, 3, 130, 0, 502, []), (.iadd, 1, 0, 0, 0, []), (.invokestatic 93, 3, 997, 0, 546, []), (.istore 4, 2, 0, 0, 0, []), (.aload_n 0, 1, 0, 0, 0, []), (.getfield 21, 3, 10, 1, 251, []), (.getfield 87, 3, 7, 5, 230, []), (.iload_n 1, 1, 0, 0, 0, []), (.iload 4, 2, 0, 0, 0, []), (.invokestatic 99, 3, 131, 0, 671, []), (.aload_n 0, 1, 0, 0, 0, []), (.getfield 12, 3, 10, 0, 249, []), (.getfield 103, 3, 9, 3, 193, []), (.iload_n 2, 1, 0, 0, 0, []), (.invokestatic 79, 3, 130, 0, 502, []), (.ifCond .eq 33, 3, 129, 0, 0, []), (.aload_n 0, 1, 0, 0, 0, []), (.iconst 1, 1, 0, 0, 0, [(1, 0)]), (.iload_n 2, 1, 0, 0, 0, []), (.aload_n 0, 1, 0, 0, 0, []), (.getfield 21, 3, 10, 1, 251, []), (.getfield 106, 3, 7, 0, 216, []), (.iload_n 1, 1, 0, 0, 0, []), (.invokestatic 79, 3, 130, 0, 502, []), (.aload_n 0, 1, 0, 0, 0, []), (.getfield 39, 3, 10, 4, 255, []), (.iload 4, 2, 0, 0, 0, []), (.invokevirtual 109, 3, 72, 0, 530, []), (.ifCond .eq 7, 3, 129, 0, 0, []), (.iconst 1, 1, 0, 0, 0, [(1, 0)]), (.goto 4, 3, 130, 0, 0, [])]
theorem ck_X10_comeNearer_42 : mChk 71 42 bk_X10_comeNearer_42 = true := by decide +kernel
def bk_X10_comeNearer_129 : List mI := [(.iconst 0, 1, 0, 0, 0, [(0, 0)])]
theorem ck_X10_comeNearer_129 : mChk 71 129 bk_X10_comeNearer_129 = true := by decide +kernel
def bk_X10_comeNearer_130 : List mI := [(.istore 5, 2, 0, 0, 0, []), (.aload_n 0, 1, 0, 0, 0, []), (.getfield 21, 3, 10, 1, 251, []), (.iload_n 1, 1, 0, 0, 0, []), (.iload 5, 2, 0, 0, 0, []), (.ifCond .eq 7, 3, 146, 0, 0, []), (.iconst 2, 1, 0, 0, 0, [(2, 0)]), (.goto 4, 3, 147, 0, 0, [])]
theorem ck_X10_comeNearer_130 : mChk 71 130 bk_X10_comeNearer_130 = true := by decide +kernel
def bk_X10_comeNearer_146 : List mI := [(.iconst 0, 1, 0, 0, 0, [(0, 0)])]
theorem ck_X10_comeNearer_146 : mChk 71 146 bk_X10_comeNearer_146 = true := by decide +kernel
def bk_X10_comeNearer_147 : List mI := [(.iload_n 2, 1, 0, 0, 0, []), (.iconst 0, 1, 0, 0, 0, [(0, 0)]), (.invokevirtual 71, 3, 41, 0, 665, []), (.return_, 1, 0, 0, 0, [])]
theorem ck_X10_comeNearer_147 : mChk 71 147 bk_X10_comeNearer_147 = true := by decide +kernel
def c_X10_comeNearer_130 (a a_sl a_tk : Nat) (x1 : Int32) (x2 : Int32) (s0 : Int32) (σ : Sg) : Option (Sg) := (if s0 = 0 then ((f_X7_place (a + 6) x1 (0 : Int32) x2 (0 : Int32) σ).bind fun q2 => (some q2)) else ((f_X7_place (a + 6) x1 (2 : Int32) x2 (0 : Int32) σ).bind fun q3 => (some q3)))
set_option maxHeartbeats 4000000 in
theorem okc_X10_comeNearer_130 {L : Nat} {a a_sl a_tk : Nat} {R : Sg} (ha : P10 a a_sl a_tk) {x1 : Int32} {x2 : Int32} {s0 : Int32} {σ : Sg} {pl : mLoc} (h : c_X10_comeNearer_130 a a_sl a_tk x1 x2 s0 σ = some R) (hl : mlf [some (.ref a), some (.int x1), some (.int x2), none, none, none] pl) : mAt 3 71 (none, (mSh, L, R)) 130 pl [.int s0] (mSh, L, σ) 0 0 := by
  refine mAt.less hl ?_
  unfold c_X10_comeNearer_130 at h
  refine mAt.blk bk_X10_comeNearer_130 ck_X10_comeNearer_130 ?_
  refine q_istore rfl rfl ?_
  refine q_aload_n rfl ?_
  refine q_getR (ha).1 rfl rfl ?_
  refine q_iload_n rfl ?_
  refine q_iload rfl ?_
  refine q_if_eq (fun c1 => ?_) (fun c1 => ?_)
  · rw [if_pos c1] at h
    refine mAt.blk bk_X10_comeNearer_146 ck_X10_comeNearer_146 ?_
    refine q_iconst ?_
    refine mAt.blk bk_X10_comeNearer_147 ck_X10_comeNearer_147 ?_
    refine q_iload_n rfl ?_
    refine q_iconst ?_
    obtain ⟨q2, e2, h⟩ := mbind h
    refine q_vV4 mcap_0 rfl rfl ((ha).2.2.1).1 rfl (by decide) (ok_X7_place (ha).2.2.1 e2) ?_
    have h := Option.some.inj h
    subst h
    exact q_vret mcap_0 rfl rfl
  · rw [if_neg c1] at h
    refine q_iconst ?_
    refine q_goto ?_
    refine mAt.blk bk_X10_comeNearer_147 ck_X10_comeNearer_147 ?_
    refine q_iload_n rfl ?_
    refine q_iconst ?_
    obtain ⟨q3, e3, h⟩ := mbind h
    refine q_vV4 mcap_0 rfl rfl ((ha).2.2.1).1 rfl (by decide) (ok_X7_place (ha).2.2.1 e3) ?_
    have h := Option.some.inj h
    subst h
    exact q_vret mcap_0 rfl rfl
def c_X10_comeNearer_129 (a a_sl a_tk : Nat) (x1 : Int32) (x2 : Int32) (σ : Sg) : Option (Sg) := (c_X10_comeNearer_130  a a_sl a_tk x1 x2 (0 : Int32) σ)
set_option maxHeartbeats 4000000 in
theorem okc_X10_comeNearer_129 {L : Nat} {a a_sl a_tk : Nat} {R : Sg} (ha : P10 a a_sl a_tk) {x1 : Int32} {x2 : Int32} {σ : Sg} {pl : mLoc} (h : c_X10_comeNearer_129 a a_sl a_tk x1 x2 σ = some R) (hl : mlf [some (.ref a), some (.int x1), some (.int x2), none, none, none] pl) : mAt 3 71 (none, (mSh, L, R)) 129 pl [] (mSh, L, σ) 0 0 := by
  refine mAt.less hl ?_
  unfold c_X10_comeNearer_129 at h
  refine mAt.blk bk_X10_comeNearer_129 ck_X10_comeNearer_129 ?_
  refine q_iconst ?_
  exact okc_X10_comeNearer_130 ha h ⟨rfl, rfl, rfl, trivial⟩
def f_X10_comeNearer (a a_sl a_tk : Nat) (p0 : Int32) (σ : Sg) : Option (Sg) := ((f_X11_pick ((a + 6) + 4) 10 p0 σ).bind fun q4 => ((f_X11_pick ((a + 6) + 5) 10 p0 σ).bind fun q5 => (if (q5 - (1 : Int32)) ≤ 0 then ((f_X11_pick ((a + 6) + 6) 10 p0 σ).bind fun q7 => ((f_X11_pick ((a + 1) + 3) 9 q4 σ).bind fun q8 => ((f_X11_lay ((a + 6) + 6) 10 p0 (if (q7 + q8) < (999999 : Int32) then (q7 + q8) else (999999 : Int32)) σ).bind fun q9 => ((f_X11_pick ((a + 1) + 4) 9 q4 q9).bind fun q10 => (if q10 = 0 then (c_X10_comeNearer_129  a a_sl a_tk p0 q4 q9) else ((f_X11_pick ((a + 6) + 1) 10 p0 q9).bind fun q12 => ((f_X10_gives a a_sl a_tk (1 : Int32) q4 q12 (q9 a 4) (if (q7 + q8) < (999999 : Int32) then (q7 + q8) else (999999 : Int32)) q9).bind fun q13 => (if q13.1 = 0 then (c_X10_comeNearer_129  a a_sl a_tk p0 q4 q13.2) else (c_X10_comeNearer_130  a a_sl a_tk p0 q4 (1 : Int32) q13.2))))))))) else ((f_X7_place (a + 6) p0 (1 : Int32) q4 (q5 - (1 : Int32)) σ).bind fun q15 => (some q15)))))
set_option maxHeartbeats 4000000 in
theorem ok_X10_comeNearer {L : Nat} {a a_sl a_tk : Nat} {p0 : Int32} {σ : Sg} {R : Sg} (ha : P10 a a_sl a_tk) (h : f_X10_comeNearer a a_sl a_tk p0 σ = some R) : mEv 3 71 [.ref a, .int p0] (mSh, L, σ) none (mSh, L, R) := by
  refine mEv.of (by decide) rfl rfl ?_
  unfold f_X10_comeNearer at h
  refine mAt.blk bk_X10_comeNearer_0 ck_X10_comeNearer_0 ?_
  refine q_aload_n rfl ?_
  refine q_getR (ha).1 rfl rfl ?_
  refine q_getR ((ha).2.2.1).1 rfl rfl ?_
  refine q_iload_n rfl ?_
  obtain ⟨q4, e4, h⟩ := mbind h
  refine q_sI2 mcap_0 rfl rfl rfl rfl (by decide) (ok_X11_pick (mrd ((ha).2.2.1).2.2.2.2.1) e4) ?_
  refine q_istore_n rfl rfl ?_
  refine q_aload_n rfl ?_
  refine q_getR (ha).1 rfl rfl ?_
  refine q_getR ((ha).2.2.1).1 rfl rfl ?_
  refine q_iload_n rfl ?_
  obtain ⟨q5, e5, h⟩ := mbind h
  refine q_sI2 mcap_0 rfl rfl rfl rfl (by decide) (ok_X11_pick (mrd ((ha).2.2.1).2.2.2.2.2.1) e5) ?_
  refine q_iconst ?_
  refine q_isub ?_
  refine q_istore_n rfl rfl ?_
  refine q_iload_n rfl ?_
  refine q_if_le (fun c6 => ?_) (fun c6 => ?_)
  · rw [if_pos c6] at h
    refine mAt.blk bk_X10_comeNearer_42 ck_X10_comeNearer_42 ?_
    refine q_ldc ?_
    refine q_aload_n rfl ?_
    refine q_getR (ha).1 rfl rfl ?_
    refine q_getR ((ha).2.2.1).1 rfl rfl ?_
    refine q_iload_n rfl ?_
    obtain ⟨q7, e7, h⟩ := mbind h
    refine q_sI2 mcap_0 rfl rfl rfl rfl (by decide) (ok_X11_pick (mrd ((ha).2.2.1).2.2.2.2.2.2) e7) ?_
    refine q_aload_n rfl ?_
    refine q_getR (ha).1 rfl rfl ?_
    refine q_getR ((ha).2.1).1 rfl rfl ?_
    refine q_iload_n rfl ?_
    obtain ⟨q8, e8, h⟩ := mbind h
    refine q_sI2 mcap_0 rfl rfl rfl rfl (by decide) (ok_X11_pick (mrd ((ha).2.1).2.2.2.1) e8) ?_
    refine q_iadd ?_
    refine q_min rfl (by decide) mcap_0 ?_
    refine q_istore rfl rfl ?_
    refine q_aload_n rfl ?_
    refine q_getR (ha).1 rfl rfl ?_
    refine q_getR ((ha).2.2.1).1 rfl rfl ?_
    refine q_iload_n rfl ?_
    refine q_iload rfl ?_
    obtain ⟨q9, e9, h⟩ := mbind h
    refine q_sV3 mcap_0 rfl rfl rfl rfl (by decide) (ok_X11_lay ((ha).2.2.1).2.2.2.2.2.2 e9) ?_
    refine q_aload_n rfl ?_
    refine q_getR (ha).1 rfl rfl ?_
    refine q_getR ((ha).2.1).1 rfl rfl ?_
    refine q_iload_n rfl ?_
    obtain ⟨q10, e10, h⟩ := mbind h
    refine q_sI2 mcap_0 rfl rfl rfl rfl (by decide) (ok_X11_pick (mrd ((ha).2.1).2.2.2.2) e10) ?_
    refine q_if_eq (fun c11 => ?_) (fun c11 => ?_)
    · rw [if_pos c11] at h
      exact okc_X10_comeNearer_129 ha h ⟨rfl, rfl, rfl, trivial⟩
    · rw [if_neg c11] at h
      refine q_aload_n rfl ?_
      refine q_iconst ?_
      refine q_iload_n rfl ?_
      refine q_aload_n rfl ?_
      refine q_getR (ha).1 rfl rfl ?_
      refine q_getR ((ha).2.2.1).1 rfl rfl ?_
      refine q_iload_n rfl ?_
      obtain ⟨q12, e12, h⟩ := mbind h
      refine q_sI2 mcap_0 rfl rfl rfl rfl (by decide) (ok_X11_pick (mrd ((ha).2.2.1).2.1) e12) ?_
      refine q_aload_n rfl ?_
      refine q_getI (ha).1 rfl ?_
      refine q_iload rfl ?_
      obtain ⟨q13, e13, h⟩ := mbind h
      refine q_vI5 mcap_0 rfl rfl (ha).1 rfl (by decide) (ok_X10_gives ha e13) ?_
      refine q_if_eq (fun c14 => ?_) (fun c14 => ?_)
      · rw [if_pos c14] at h
        exact okc_X10_comeNearer_129 ha h ⟨rfl, rfl, rfl, trivial⟩
      · rw [if_neg c14] at h
        refine q_iconst ?_
        refine q_goto ?_
        exact okc_X10_comeNearer_130 ha h ⟨rfl, rfl, rfl, trivial⟩
  · rw [if_neg c6] at h
    refine q_aload_n rfl ?_
    refine q_getR (ha).1 rfl rfl ?_
    refine q_iload_n rfl ?_
    refine q_iconst ?_
    refine q_iload_n rfl ?_
    refine q_iload_n rfl ?_
    obtain ⟨q15, e15, h⟩ := mbind h
    refine q_vV4 mcap_0 rfl rfl ((ha).2.2.1).1 rfl (by decide) (ok_X7_place (ha).2.2.1 e15) ?_
    have h := Option.some.inj h
    subst h
    exact q_vret mcap_0 rfl rfl
def bk_X10_month_0 : List mI := [(.aload_n 0, 1, 0, 0, 0, []), (.getfield 39, 3, 10, 4, 255, []), (.bipush 30, 2, 0, 0, 0, [(30, 0)]), (.idiv, 1, 0, 0, 0, []), (.bipush 12, 2, 0, 0, 0, [(12, 0)]), (.irem, 1, 0, 0, 0, []), (.ireturn, 1, 0, 0, 0, [])]
theorem ck_X10_month_0 : mChk 74 0 bk_X10_month_0 = true := by decide +kernel
def f_X10_month (a a_sl a_tk : Nat) (σ : Sg) : Option (Int32) := (some (((σ a 4) / (30 : Int32)) - ((σ a 4) / (30 : Int32)) / (12 : Int32) * (12 : Int32)))
set_option maxHeartbeats 4000000 in
theorem ok_X10_month {L : Nat} {a a_sl a_tk : Nat} {σ : Sg} {R : Int32} (ha : P10 a a_sl a_tk) (h : f_X10_month a a_sl a_tk σ = some R) : mEv 0 74 [.ref a] (mSh, L, σ) (some (.int R)) (mSh, L, σ) := by
  refine mEv.of (by decide) rfl rfl ?_
  unfold f_X10_month at h
  refine mAt.blk bk_X10_month_0 ck_X10_month_0 ?_
  refine q_aload_n rfl ?_
  refine q_getI (ha).1 rfl ?_
  refine q_bipush ?_
  refine q_idiv (by decide) ?_
  refine q_bipush ?_
  refine q_irem (by decide) ?_
  have h := Option.some.inj h
  subst h
  exact q_iretI mcap_0 rfl rfl
def bk_X10_lastsByKind_0 : List mI := [(.aload_n 0, 1, 0, 0, 0, []), (.getfield 12, 3, 10, 0, 249, []), (.iload 4, 2, 0, 0, 0, []), (.invokevirtual 134, 3, 59, 0, 512, []), (.istore 5, 2, 0, 0, 0, []), (.iload_n 2, 1, 0, 0, 0, []), (.tableswitch 105 1 6 #[40, 49, 54, 40, 59, 81], 40, 117, 0, 0, [(1, 52), (2, 61), (3, 66), (4, 52), (5, 71), (6, 93)])]
theorem ck_X10_lastsByKind_0 : mChk 76 0 bk_X10_lastsByKind_0 = true := by decide +kernel
def bk_X10_lastsByKind_52 : List mI := [(.iconst 1, 1, 0, 0, 0, [(1, 0)]), (.iload 5, 2, 0, 0, 0, []), (.iconst 1, 1, 0, 0, 0, [(1, 0)]), (.isub, 1, 0, 0, 0, []), (.invokestatic 122, 3, 996, 0, 513, []), (.ireturn, 1, 0, 0, 0, [])]
theorem ck_X10_lastsByKind_52 : mChk 76 52 bk_X10_lastsByKind_52 = true := by decide +kernel
def bk_X10_lastsByKind_61 : List mI := [(.iload 5, 2, 0, 0, 0, []), (.iload_n 3, 1, 0, 0, 0, []), (.iadd, 1, 0, 0, 0, []), (.ireturn, 1, 0, 0, 0, [])]
theorem ck_X10_lastsByKind_61 : mChk 76 61 bk_X10_lastsByKind_61 = true := by decide +kernel
def bk_X10_lastsByKind_66 : List mI := [(.iload 5, 2, 0, 0, 0, []), (.iconst 2, 1, 0, 0, 0, [(2, 0)]), (.imul, 1, 0, 0, 0, []), (.ireturn, 1, 0, 0, 0, [])]
theorem ck_X10_lastsByKind_66 : mChk 76 66 bk_X10_lastsByKind_66 = true := by decide +kernel
def bk_X10_lastsByKind_71 : List mI := [(.iload 5, 2, 0, 0, 0, []), (.aload_n 0, 1, 0, 0, 0, []), (.getfield 21, 3, 10, 1, 251, []), (.iload_n 1, 1, 0, 0, 0, []), (.iconst 1, 1, 0, 0, 0, [(1, 0)]), (.aload_n 0, 1, 0, 0, 0, []), (.getfield 12, 3, 10, 0, 249, []), (.iload 4, 2, 0, 0, 0, []), (.invokevirtual 61, 3, 58, 0, 503, []), (.invokevirtual 137, 3, 44, 0, 514, []), (.iadd, 1, 0, 0, 0, []), (.ireturn, 1, 0, 0, 0, [])]
theorem ck_X10_lastsByKind_71 : mChk 76 71 bk_X10_lastsByKind_71 = true := by decide +kernel
def bk_X10_lastsByKind_93 : List mI := [(.iload 5, 2, 0, 0, 0, []), (.iload_n 3, 1, 0, 0, 0, []), (.iadd, 1, 0, 0, 0, []), (.aload_n 0, 1, 0, 0, 0, []), (.invokevirtual 141, 3, 74, 0, 525, []), (.iconst 5, 1, 0, 0, 0, [(5, 0)]), (.bipush 7, 2, 0, 0, 0, [(7, 0)]), (.invokestatic 144, 3, 125, 0, 529, []), (.ifCond .eq 7, 3, 114, 0, 0, []), (.iconst 5, 1, 0, 0, 0, [(5, 0)]), (.goto 4, 3, 115, 0, 0, [])]
theorem ck_X10_lastsByKind_93 : mChk 76 93 bk_X10_lastsByKind_93 = true := by decide +kernel
def bk_X10_lastsByKind_114 : List mI := [(.iconst 0, 1, 0, 0, 0, [(0, 0)])]
theorem ck_X10_lastsByKind_114 : mChk 76 114 bk_X10_lastsByKind_114 = true := by decide +kernel
def bk_X10_lastsByKind_115 : List mI := [(.iadd, 1, 0, 0, 0, []), (.ireturn, 1, 0, 0, 0, [])]
theorem ck_X10_lastsByKind_115 : mChk 76 115 bk_X10_lastsByKind_115 = true := by decide +kernel
def bk_X10_lastsByKind_117 : List mI := [(.iload 5, 2, 0, 0, 0, []), (.ireturn, 1, 0, 0, 0, [])]
theorem ck_X10_lastsByKind_117 : mChk 76 117 bk_X10_lastsByKind_117 = true := by decide +kernel
def f_X10_lastsByKind (a a_sl a_tk : Nat) (p0 : Int32) (p1 : Int32) (p2 : Int32) (p3 : Int32) (σ : Sg) : Option (Int32) := ((f_X9_daysOf (a + 1) p3 σ).bind fun q1 => (if p1 = (1 : Int32) then (some (if (1 : Int32) < (q1 - (1 : Int32)) then (q1 - (1 : Int32)) else (1 : Int32))) else (if p1 = (2 : Int32) then (some (q1 + p2)) else (if p1 = (3 : Int32) then (some (q1 * (2 : Int32))) else (if p1 = (4 : Int32) then (some (if (1 : Int32) < (q1 - (1 : Int32)) then (q1 - (1 : Int32)) else (1 : Int32))) else (if p1 = (5 : Int32) then ((f_X9_leadsTo (a + 1) p3 σ).bind fun q2 => ((f_X7_others (a + 6) p0 (1 : Int32) q2 σ).bind fun q3 => (some (q1 + q3)))) else (if p1 = (6 : Int32) then ((f_X10_month a a_sl a_tk σ).bind fun q4 => ((f_X11_within q4 (5 : Int32) (7 : Int32) σ).bind fun q5 => (if q5 = 0 then (some ((q1 + p2) + (0 : Int32))) else (some ((q1 + p2) + (5 : Int32)))))) else (some q1))))))))
set_option maxHeartbeats 4000000 in
theorem ok_X10_lastsByKind {L : Nat} {a a_sl a_tk : Nat} {p0 : Int32} {p1 : Int32} {p2 : Int32} {p3 : Int32} {σ : Sg} {R : Int32} (ha : P10 a a_sl a_tk) (h : f_X10_lastsByKind a a_sl a_tk p0 p1 p2 p3 σ = some R) : mEv 2 76 [.ref a, .int p0, .int p1, .int p2, .int p3] (mSh, L, σ) (some (.int R)) (mSh, L, σ) := by
  refine mEv.of (by decide) rfl rfl ?_
  unfold f_X10_lastsByKind at h
  refine mAt.blk bk_X10_lastsByKind_0 ck_X10_lastsByKind_0 ?_
  refine q_aload_n rfl ?_
  refine q_getR (ha).1 rfl rfl ?_
  refine q_iload rfl ?_
  obtain ⟨q1, e1, h⟩ := mbind h
  refine q_vI1 mcap_0 rfl rfl ((ha).2.1).1 rfl (by decide) (ok_X9_daysOf (ha).2.1 e1) ?_
  refine q_istore rfl rfl ?_
  refine q_iload_n rfl ?_
  refine q_tsw ?_
  refine ⟨fun c12 => ?_, fun c12 => ?_⟩
  · rw [if_pos c12] at h
    refine mAt.blk bk_X10_lastsByKind_52 ck_X10_lastsByKind_52 ?_
    refine q_iconst ?_
    refine q_iload rfl ?_
    refine q_iconst ?_
    refine q_isub ?_
    refine q_max rfl (by decide) mcap_0 ?_
    have h := Option.some.inj h
    subst h
    exact q_iretI mcap_0 rfl rfl
  · rw [if_neg c12] at h
    refine ⟨fun c11 => ?_, fun c11 => ?_⟩
    · rw [if_pos c11] at h
      refine mAt.blk bk_X10_lastsByKind_61 ck_X10_lastsByKind_61 ?_
      refine q_iload rfl ?_
      refine q_iload_n rfl ?_
      refine q_iadd ?_
      have h := Option.some.inj h
      subst h
      exact q_iretI mcap_0 rfl rfl
    · rw [if_neg c11] at h
      refine ⟨fun c10 => ?_, fun c10 => ?_⟩
      · rw [if_pos c10] at h
        refine mAt.blk bk_X10_lastsByKind_66 ck_X10_lastsByKind_66 ?_
        refine q_iload rfl ?_
        refine q_iconst ?_
        refine q_imul ?_
        have h := Option.some.inj h
        subst h
        exact q_iretI mcap_0 rfl rfl
      · rw [if_neg c10] at h
        refine ⟨fun c9 => ?_, fun c9 => ?_⟩
        · rw [if_pos c9] at h
          refine mAt.blk bk_X10_lastsByKind_52 ck_X10_lastsByKind_52 ?_
          refine q_iconst ?_
          refine q_iload rfl ?_
          refine q_iconst ?_
          refine q_isub ?_
          refine q_max rfl (by decide) mcap_0 ?_
          have h := Option.some.inj h
          subst h
          exact q_iretI mcap_0 rfl rfl
        · rw [if_neg c9] at h
          refine ⟨fun c8 => ?_, fun c8 => ?_⟩
          · rw [if_pos c8] at h
            refine mAt.blk bk_X10_lastsByKind_71 ck_X10_lastsByKind_71 ?_
            refine q_iload rfl ?_
            refine q_aload_n rfl ?_
            refine q_getR (ha).1 rfl rfl ?_
            refine q_iload_n rfl ?_
            refine q_iconst ?_
            refine q_aload_n rfl ?_
            refine q_getR (ha).1 rfl rfl ?_
            refine q_iload rfl ?_
            obtain ⟨q2, e2, h⟩ := mbind h
            refine q_vI1 mcap_0 rfl rfl ((ha).2.1).1 rfl (by decide) (ok_X9_leadsTo (ha).2.1 e2) ?_
            obtain ⟨q3, e3, h⟩ := mbind h
            refine q_vI3 mcap_0 rfl rfl ((ha).2.2.1).1 rfl (by decide) (ok_X7_others (ha).2.2.1 e3) ?_
            refine q_iadd ?_
            have h := Option.some.inj h
            subst h
            exact q_iretI mcap_0 rfl rfl
          · rw [if_neg c8] at h
            refine ⟨fun c7 => ?_, fun c7 => ?_⟩
            · rw [if_pos c7] at h
              refine mAt.blk bk_X10_lastsByKind_93 ck_X10_lastsByKind_93 ?_
              refine q_iload rfl ?_
              refine q_iload_n rfl ?_
              refine q_iadd ?_
              refine q_aload_n rfl ?_
              obtain ⟨q4, e4, h⟩ := mbind h
              refine q_vI0 mcap_0 rfl rfl (ha).1 rfl (by decide) (ok_X10_month ha e4) ?_
              refine q_iconst ?_
              refine q_bipush ?_
              obtain ⟨q5, e5, h⟩ := mbind h
              refine q_sI3 mcap_0 rfl rfl rfl rfl (by decide) (ok_X11_within  e5) ?_
              refine q_if_eq (fun c6 => ?_) (fun c6 => ?_)
              · rw [if_pos c6] at h
                refine mAt.blk bk_X10_lastsByKind_114 ck_X10_lastsByKind_114 ?_
                refine q_iconst ?_
                refine mAt.blk bk_X10_lastsByKind_115 ck_X10_lastsByKind_115 ?_
                refine q_iadd ?_
                have h := Option.some.inj h
                subst h
                exact q_iretI mcap_0 rfl rfl
              · rw [if_neg c6] at h
                refine q_iconst ?_
                refine q_goto ?_
                refine mAt.blk bk_X10_lastsByKind_115 ck_X10_lastsByKind_115 ?_
                refine q_iadd ?_
                have h := Option.some.inj h
                subst h
                exact q_iretI mcap_0 rfl rfl
            · rw [if_neg c7] at h
              refine mAt.blk bk_X10_lastsByKind_117 ck_X10_lastsByKind_117 ?_
              refine q_iload rfl ?_
              have h := Option.some.inj h
              subst h
              exact q_iretI mcap_0 rfl rfl
def bk_X10_lasts_0 : List mI := [(.aload_n 0, 1, 0, 0, 0, []), (.getfield 21, 3, 10, 1, 251, []), (.getfield 75, 3, 7, 3, 225, []), (.iload_n 1, 1, 0, 0, 0, []), (.invokestatic 79, 3, 130, 0, 502, []), (.istore_n 2, 1, 0, 0, 0, []), (.aload_n 0, 1, 0, 0, 0, []), (.getfield 21, 3, 10, 1, 251, []), (.getfield 106, 3, 7, 0, 216, []), (.iload_n 1, 1, 0, 0, 0, []), (.invokestatic 79, 3, 130, 0, 502, []), (.istore_n 3, 1, 0, 0, 0, []), (.aload_n 0, 1, 0, 0, 0, []), (.getfield 21, 3, 10, 1, 251, []), (.getfield 125, 3, 7, 1, 219, []), (.iload_n 1, 1, 0, 0, 0, []), (.invokestatic 79, 3, 130, 0, 502, []), (.istore 4, 2, 0, 0, 0, []), (.aload_n 0, 1, 0, 0, 0, []), (.iload_n 1, 1, 0, 0, 0, []), (.iload_n 3, 1, 0, 0, 0, []), (.iload 4, 2, 0, 0, 0, []), (.iload_n 2, 1, 0, 0, 0, []), (.invokevirtual 131, 3, 76, 0, 508, []), (.aload_n 0, 1, 0, 0, 0, []), (.iconst 0, 1, 0, 0, 0, [(0, 0)]), (.iload_n 2, 1, 0, 0, 0, []), (.iload_n 3, 1, 0, 0, 0, []), (.aload_n 0, 1, 0, 0, 0, []), (.getfield 39, 3, 10, 4, 255, []), (.iload 4, 2, 0, 0, 0, []), (.invokevirtual 109, 3, 72, 0, 530, []), (.iadd, 1, 0, 0, 0, []), (.ireturn, 1, 0, 0, 0, [])]
theorem ck_X10_lasts_0 : mChk 75 0 bk_X10_lasts_0 = true := by decide +kernel
def f_X10_lasts (a a_sl a_tk : Nat) (p0 : Int32) (σ : Sg) : Option (Int32 × Sg) := ((f_X11_pick ((a + 6) + 4) 10 p0 σ).bind fun q1 => ((f_X11_pick ((a + 6) + 1) 10 p0 σ).bind fun q2 => ((f_X11_pick ((a + 6) + 2) 10 p0 σ).bind fun q3 => ((f_X10_lastsByKind a a_sl a_tk p0 q2 q3 q1 σ).bind fun q4 => ((f_X10_gives a a_sl a_tk (0 : Int32) q1 q2 (σ a 4) q3 σ).bind fun q5 => (some ((q4 + q5.1), q5.2)))))))
set_option maxHeartbeats 4000000 in
theorem ok_X10_lasts {L : Nat} {a a_sl a_tk : Nat} {p0 : Int32} {σ : Sg} {R : Int32 × Sg} (ha : P10 a a_sl a_tk) (h : f_X10_lasts a a_sl a_tk p0 σ = some R) : mEv 3 75 [.ref a, .int p0] (mSh, L, σ) (some (.int R.1)) (mSh, L, R.2) := by
  refine mEv.of (by decide) rfl rfl ?_
  unfold f_X10_lasts at h
  refine mAt.blk bk_X10_lasts_0 ck_X10_lasts_0 ?_
  refine q_aload_n rfl ?_
  refine q_getR (ha).1 rfl rfl ?_
  refine q_getR ((ha).2.2.1).1 rfl rfl ?_
  refine q_iload_n rfl ?_
  obtain ⟨q1, e1, h⟩ := mbind h
  refine q_sI2 mcap_0 rfl rfl rfl rfl (by decide) (ok_X11_pick (mrd ((ha).2.2.1).2.2.2.2.1) e1) ?_
  refine q_istore_n rfl rfl ?_
  refine q_aload_n rfl ?_
  refine q_getR (ha).1 rfl rfl ?_
  refine q_getR ((ha).2.2.1).1 rfl rfl ?_
  refine q_iload_n rfl ?_
  obtain ⟨q2, e2, h⟩ := mbind h
  refine q_sI2 mcap_0 rfl rfl rfl rfl (by decide) (ok_X11_pick (mrd ((ha).2.2.1).2.1) e2) ?_
  refine q_istore_n rfl rfl ?_
  refine q_aload_n rfl ?_
  refine q_getR (ha).1 rfl rfl ?_
  refine q_getR ((ha).2.2.1).1 rfl rfl ?_
  refine q_iload_n rfl ?_
  obtain ⟨q3, e3, h⟩ := mbind h
  refine q_sI2 mcap_0 rfl rfl rfl rfl (by decide) (ok_X11_pick (mrd ((ha).2.2.1).2.2.1) e3) ?_
  refine q_istore rfl rfl ?_
  refine q_aload_n rfl ?_
  refine q_iload_n rfl ?_
  refine q_iload_n rfl ?_
  refine q_iload rfl ?_
  refine q_iload_n rfl ?_
  obtain ⟨q4, e4, h⟩ := mbind h
  refine q_vI4 mcap_0 rfl rfl (ha).1 rfl (by decide) (ok_X10_lastsByKind ha e4) ?_
  refine q_aload_n rfl ?_
  refine q_iconst ?_
  refine q_iload_n rfl ?_
  refine q_iload_n rfl ?_
  refine q_aload_n rfl ?_
  refine q_getI (ha).1 rfl ?_
  refine q_iload rfl ?_
  obtain ⟨q5, e5, h⟩ := mbind h
  refine q_vI5 mcap_0 rfl rfl (ha).1 rfl (by decide) (ok_X10_gives ha e5) ?_
  refine q_iadd ?_
  have h := Option.some.inj h
  subst h
  exact q_iretI mcap_0 rfl rfl
