def bk_X7_bits_0 : List mI := [(.iconst 0, 1, 0, 0, 0, [(0, 0)]), (.istore_n 3, 1, 0, 0, 0, []), (.iconst 0, 1, 0, 0, 0, [(0, 0)]), (.istore 4, 2, 0, 0, 0, [])]
theorem ck_X7_bits_0 : mChk 43 0 bk_X7_bits_0 = true := by decide +kernel
def bk_X7_bits_5 : List mI := [(.iload 4, 2, 0, 0, 0, []), (.aload_n 0, 1, 0, 0, 0, []), (.getfield 34, 3, 7, 6, 231, []), (.if_icmp .ge 45, 3, 56, 0, 0, []), (.iload 4, 2, 0, 0, 0, []), (.bipush 10, 2, 0, 0, 0, [(10, 0)]), (.if_icmp .ge 38, 3, 56, 0, 0, []), (.aload_n 0, 1, 0, 0, 0, []), (.getfield 18, 3, 7, 2, 221, []), (.iload 4, 2, 0, 0, 0, []), (.iaload, 1, 0, 0, 0, []), (.iload_n 1, 1, 0, 0, 0, []), (.if_icmp .ne 21, 3, 50, 0, 0, []), (.aload_n 0, 1, 0, 0, 0, []), (.getfield 21, 3, 7, 3, 224, []), (.iload 4, 2, 0, 0, 0, []), (.iaload, 1, 0, 0, 0, []), (.iload_n 2, 1, 0, 0, 0, []), (.if_icmp .ne 10, 3, 50, 0, 0, []), (.iload_n 3, 1, 0, 0, 0, []), (.iconst 1, 1, 0, 0, 0, [(1, 0)]), (.iload 4, 2, 0, 0, 0, []), (.ishl, 1, 0, 0, 0, []), (.ior, 1, 0, 0, 0, []), (.istore_n 3, 1, 0, 0, 0, [])]
theorem ck_X7_bits_5 : mChk 43 5 bk_X7_bits_5 = true := by decide +kernel
def bk_X7_bits_50 : List mI := [(.iinc 4 1, 3, 0, 0, 0, [(1, 0)]), (.goto (-48), 3, 5, 0, 0, [])]
theorem ck_X7_bits_50 : mChk 43 50 bk_X7_bits_50 = true := by decide +kernel
def bk_X7_bits_56 : List mI := [(.iload_n 3, 1, 0, 0, 0, []), (.ireturn, 1, 0, 0, 0, [])]
theorem ck_X7_bits_56 : mChk 43 56 bk_X7_bits_56 = true := by decide +kernel
def c_X7_bits_50 (k5 : Int32 → Int32 → Int32 → Int32 → Option (Int32)) (a : Nat) (σ : Sg) (x1 : Int32) (x2 : Int32) (x3 : Int32) (x4 : Int32) : Option (Int32) := (k5 x1 x2 x3 (x4 + (1 : Int32)))
set_option maxHeartbeats 4000000 in
theorem okc_X7_bits_50 {L : Nat} {k5 : Int32 → Int32 → Int32 → Int32 → Option (Int32)} {a : Nat} {σ : Sg} {R : Int32} (ha : P7 a) (Hk5 : ∀ (x1 : Int32) (x2 : Int32) (x3 : Int32) (x4 : Int32) (pl : mLoc), k5 x1 x2 x3 x4 = some R → mlf [some (.ref a), some (.int x1), some (.int x2), some (.int x3), some (.int x4)] pl → mAt 0 43 (some (.int R), (mSh, L, σ)) 5 pl [] (mSh, L, σ) 0 0) {x1 : Int32} {x2 : Int32} {x3 : Int32} {x4 : Int32} {pl : mLoc} (h : c_X7_bits_50 k5 a σ x1 x2 x3 x4 = some R) (hl : mlf [some (.ref a), some (.int x1), some (.int x2), some (.int x3), some (.int x4)] pl) : mAt 0 43 (some (.int R), (mSh, L, σ)) 50 pl [] (mSh, L, σ) 0 0 := by
  refine mAt.less hl ?_
  unfold c_X7_bits_50 at h
  refine mAt.blk bk_X7_bits_50 ck_X7_bits_50 ?_
  refine q_iinc rfl rfl ?_
  refine q_goto ?_
  exact Hk5 _ _ _ _ _  h ⟨rfl, rfl, rfl, rfl, rfl, trivial⟩
def c_X7_bits_5 (a : Nat) (σ : Sg) : Nat → Int32 → Int32 → Int32 → Int32 → Option (Int32)
  | 0, _, _, _, _ => none
  | n + 1, x1, x2, x3, x4 => (if (σ a 6) ≤ x4 then (some x3) else (if (10 : Int32) ≤ x4 then (some x3) else (if x4 < 0 ∨ 10 ≤ (x4).toNatClampNeg then none else (if (σ (a + 3) (x4).toNatClampNeg) = x1 then (if x4 < 0 ∨ 10 ≤ (x4).toNatClampNeg then none else (if (σ (a + 4) (x4).toNatClampNeg) = x2 then (c_X7_bits_50 (c_X7_bits_5 a σ n) a σ x1 x2 (x3 ||| ((1 : Int32) <<< (x4 &&& 31))) x4) else (c_X7_bits_50 (c_X7_bits_5 a σ n) a σ x1 x2 x3 x4))) else (c_X7_bits_50 (c_X7_bits_5 a σ n) a σ x1 x2 x3 x4)))))
set_option maxHeartbeats 4000000 in
theorem okc_X7_bits_5 {L : Nat} {a : Nat} {σ : Sg} {R : Int32} (ha : P7 a) {n : Nat} {x1 : Int32} {x2 : Int32} {x3 : Int32} {x4 : Int32} {pl : mLoc} (h : c_X7_bits_5 a σ n x1 x2 x3 x4 = some R) (hl : mlf [some (.ref a), some (.int x1), some (.int x2), some (.int x3), some (.int x4)] pl) : mAt 0 43 (some (.int R), (mSh, L, σ)) 5 pl [] (mSh, L, σ) 0 0 := by
  induction n generalizing x1 x2 x3 x4 pl with
  | zero =>
    rw [c_X7_bits_5.eq_1] at h
    cases h
  | succ n ih =>
    refine mAt.less hl ?_
    rw [c_X7_bits_5.eq_2] at h
    refine mAt.blk bk_X7_bits_5 ck_X7_bits_5 ?_
    refine q_iload rfl ?_
    refine q_aload_n rfl ?_
    refine q_getI (ha).1 rfl ?_
    refine q_ic_ge (fun c1 => ?_) (fun c1 => ?_)
    · rw [if_pos c1] at h
      refine mAt.blk bk_X7_bits_56 ck_X7_bits_56 ?_
      refine q_iload_n rfl ?_
      have h := Option.some.inj h
      subst h
      exact q_iretI mcap_0 rfl rfl
    · rw [if_neg c1] at h
      refine q_iload rfl ?_
      refine q_bipush ?_
      refine q_ic_ge (fun c2 => ?_) (fun c2 => ?_)
      · rw [if_pos c2] at h
        refine mAt.blk bk_X7_bits_56 ck_X7_bits_56 ?_
        refine q_iload_n rfl ?_
        have h := Option.some.inj h
        subst h
        exact q_iretI mcap_0 rfl rfl
      · rw [if_neg c2] at h
        refine q_aload_n rfl ?_
        refine q_getR (ha).1 rfl rfl ?_
        refine q_iload rfl ?_
        obtain ⟨c3, h⟩ := mnone h
        refine q_iald (mrd (ha).2.2.2.1 _ _) rfl c3 ?_
        refine q_iload_n rfl ?_
        refine q_ic_ne (fun c4 => ?_) (fun c4 => ?_)
        · rw [if_pos c4] at h
          refine q_aload_n rfl ?_
          refine q_getR (ha).1 rfl rfl ?_
          refine q_iload rfl ?_
          obtain ⟨c5, h⟩ := mnone h
          refine q_iald (mrd (ha).2.2.2.2.1 _ _) rfl c5 ?_
          refine q_iload_n rfl ?_
          refine q_ic_ne (fun c6 => ?_) (fun c6 => ?_)
          · rw [if_pos c6] at h
            refine q_iload_n rfl ?_
            refine q_iconst ?_
            refine q_iload rfl ?_
            refine q_ishl ?_
            refine q_ior ?_
            refine q_istore_n rfl rfl ?_
            exact okc_X7_bits_50 ha (fun _ _ _ _ _ e hl => ih  e hl) h ⟨rfl, rfl, rfl, rfl, rfl, trivial⟩
          · rw [if_neg c6] at h
            exact okc_X7_bits_50 ha (fun _ _ _ _ _ e hl => ih  e hl) h ⟨rfl, rfl, rfl, rfl, rfl, trivial⟩
        · rw [if_neg c4] at h
          exact okc_X7_bits_50 ha (fun _ _ _ _ _ e hl => ih  e hl) h ⟨rfl, rfl, rfl, rfl, rfl, trivial⟩
def f_X7_bits (a : Nat) (p0 : Int32) (p1 : Int32) (σ : Sg) : Option (Int32) := (c_X7_bits_5  a σ 1000 p0 p1 (0 : Int32) (0 : Int32))
set_option maxHeartbeats 4000000 in
theorem ok_X7_bits {L : Nat} {a : Nat} {p0 : Int32} {p1 : Int32} {σ : Sg} {R : Int32} (ha : P7 a) (h : f_X7_bits a p0 p1 σ = some R) : mEv 0 43 [.ref a, .int p0, .int p1] (mSh, L, σ) (some (.int R)) (mSh, L, σ) := by
  refine mEv.of (by decide) rfl rfl ?_
  unfold f_X7_bits at h
  refine mAt.blk bk_X7_bits_0 ck_X7_bits_0 ?_
  refine q_iconst ?_
  refine q_istore_n rfl rfl ?_
  refine q_iconst ?_
  refine q_istore rfl rfl ?_
  exact okc_X7_bits_5 ha h ⟨rfl, rfl, rfl, rfl, rfl, trivial⟩
def bk_X7_others_0 : List mI := [(.aload_n 0, 1, 0, 0, 0, []), (.iload_n 2, 1, 0, 0, 0, []), (.iload_n 3, 1, 0, 0, 0, []), (.invokevirtual 50, 3, 43, 0, 518, []), (.iconst 1, 1, 0, 0, 0, [(1, 0)]), (.iload_n 1, 1, 0, 0, 0, []), (.ishl, 1, 0, 0, 0, []), (.iconst (-1), 1, 0, 0, 0, [((-1), 0)]), (.ixor, 1, 0, 0, 0, []), (.iand, 1, 0, 0, 0, []), (.invokestatic 54, 3, 228, 0, 519, []), (.ireturn, 1, 0, 0, 0, [])]
theorem ck_X7_others_0 : mChk 44 0 bk_X7_others_0 = true := by decide +kernel
def f_X7_others (a : Nat) (p0 : Int32) (p1 : Int32) (p2 : Int32) (σ : Sg) : Option (Int32) := ((f_X7_bits a p1 p2 σ).bind fun q1 => ((f_J6_bitCount_0f7a4 (q1 &&& (((1 : Int32) <<< (p0 &&& 31)) ^^^ (-1 : Int32))) σ).bind fun q2 => (some q2)))
set_option maxHeartbeats 4000000 in
theorem ok_X7_others {L : Nat} {a : Nat} {p0 : Int32} {p1 : Int32} {p2 : Int32} {σ : Sg} {R : Int32} (ha : P7 a) (h : f_X7_others a p0 p1 p2 σ = some R) : mEv 1 44 [.ref a, .int p0, .int p1, .int p2] (mSh, L, σ) (some (.int R)) (mSh, L, σ) := by
  refine mEv.of (by decide) rfl rfl ?_
  unfold f_X7_others at h
  refine mAt.blk bk_X7_others_0 ck_X7_others_0 ?_
  refine q_aload_n rfl ?_
  refine q_iload_n rfl ?_
  refine q_iload_n rfl ?_
  obtain ⟨q1, e1, h⟩ := mbind h
  refine q_vI2 mcap_0 rfl rfl (ha).1 rfl (by decide) (ok_X7_bits ha e1) ?_
  refine q_iconst ?_
  refine q_iload_n rfl ?_
  refine q_ishl ?_
  refine q_iconst ?_
  refine q_ixor ?_
  refine q_iand ?_
  obtain ⟨q2, e2, h⟩ := mbind h
  refine q_sI1 mcap_0 rfl rfl rfl rfl (by decide) (ok_J6_bitCount_0f7a4  e2) ?_
  have h := Option.some.inj h
  subst h
  exact q_iretI mcap_0 rfl rfl
def bk_X7_belowBits_0 : List mI := [(.iconst 0, 1, 0, 0, 0, [(0, 0)]), (.istore_n 1, 1, 0, 0, 0, []), (.iconst 0, 1, 0, 0, 0, [(0, 0)]), (.istore_n 2, 1, 0, 0, 0, [])]
theorem ck_X7_belowBits_0 : mChk 45 0 bk_X7_belowBits_0 = true := by decide +kernel
def bk_X7_belowBits_4 : List mI := [(.iload_n 2, 1, 0, 0, 0, []), (.aload_n 0, 1, 0, 0, 0, []), (.getfield 34, 3, 7, 6, 231, []), (.if_icmp .ge 27, 3, 36, 0, 0, []), (.aload_n 0, 1, 0, 0, 0, []), (.getfield 18, 3, 7, 2, 221, []), (.iload_n 2, 1, 0, 0, 0, []), (.invokestatic 46, 3, 130, 0, 501, []), (.iconst 1, 1, 0, 0, 0, [(1, 0)]), (.if_icmp .ne 9, 3, 30, 0, 0, []), (.iload_n 1, 1, 0, 0, 0, []), (.iconst 1, 1, 0, 0, 0, [(1, 0)]), (.iload_n 2, 1, 0, 0, 0, []), (.ishl, 1, 0, 0, 0, []), (.ior, 1, 0, 0, 0, []), (.istore_n 1, 1, 0, 0, 0, [])]
theorem ck_X7_belowBits_4 : mChk 45 4 bk_X7_belowBits_4 = true := by decide +kernel
def bk_X7_belowBits_30 : List mI := [(.iinc 2 1, 3, 0, 0, 0, [(1, 0)]), (.goto (-29), 3, 4, 0, 0, [])]
theorem ck_X7_belowBits_30 : mChk 45 30 bk_X7_belowBits_30 = true := by decide +kernel
def bk_X7_belowBits_36 : List mI := [(.iload_n 1, 1, 0, 0, 0, []), (.ireturn, 1, 0, 0, 0, [])]
theorem ck_X7_belowBits_36 : mChk 45 36 bk_X7_belowBits_36 = true := by decide +kernel
def c_X7_belowBits_30 (k4 : Int32 → Int32 → Option (Int32)) (a : Nat) (σ : Sg) (x1 : Int32) (x2 : Int32) : Option (Int32) := (k4 x1 (x2 + (1 : Int32)))
set_option maxHeartbeats 4000000 in
theorem okc_X7_belowBits_30 {L : Nat} {k4 : Int32 → Int32 → Option (Int32)} {a : Nat} {σ : Sg} {R : Int32} (ha : P7 a) (Hk4 : ∀ (x1 : Int32) (x2 : Int32) (pl : mLoc), k4 x1 x2 = some R → mlf [some (.ref a), some (.int x1), some (.int x2)] pl → mAt 1 45 (some (.int R), (mSh, L, σ)) 4 pl [] (mSh, L, σ) 0 0) {x1 : Int32} {x2 : Int32} {pl : mLoc} (h : c_X7_belowBits_30 k4 a σ x1 x2 = some R) (hl : mlf [some (.ref a), some (.int x1), some (.int x2)] pl) : mAt 1 45 (some (.int R), (mSh, L, σ)) 30 pl [] (mSh, L, σ) 0 0 := by
  refine mAt.less hl ?_
  unfold c_X7_belowBits_30 at h
  refine mAt.blk bk_X7_belowBits_30 ck_X7_belowBits_30 ?_
  refine q_iinc rfl rfl ?_
  refine q_goto ?_
  exact Hk4 _ _ _  h ⟨rfl, rfl, rfl, trivial⟩
def c_X7_belowBits_4 (a : Nat) (σ : Sg) : Nat → Int32 → Int32 → Option (Int32)
  | 0, _, _ => none
  | n + 1, x1, x2 => (if (σ a 6) ≤ x2 then (some x1) else ((f_X11_pick (a + 3) 10 x2 σ).bind fun q2 => (if q2 = (1 : Int32) then (c_X7_belowBits_30 (c_X7_belowBits_4 a σ n) a σ (x1 ||| ((1 : Int32) <<< (x2 &&& 31))) x2) else (c_X7_belowBits_30 (c_X7_belowBits_4 a σ n) a σ x1 x2))))
set_option maxHeartbeats 4000000 in
theorem okc_X7_belowBits_4 {L : Nat} {a : Nat} {σ : Sg} {R : Int32} (ha : P7 a) {n : Nat} {x1 : Int32} {x2 : Int32} {pl : mLoc} (h : c_X7_belowBits_4 a σ n x1 x2 = some R) (hl : mlf [some (.ref a), some (.int x1), some (.int x2)] pl) : mAt 1 45 (some (.int R), (mSh, L, σ)) 4 pl [] (mSh, L, σ) 0 0 := by
  induction n generalizing x1 x2 pl with
  | zero =>
    rw [c_X7_belowBits_4.eq_1] at h
    cases h
  | succ n ih =>
    refine mAt.less hl ?_
    rw [c_X7_belowBits_4.eq_2] at h
    refine mAt.blk bk_X7_belowBits_4 ck_X7_belowBits_4 ?_
    refine q_iload_n rfl ?_
    refine q_aload_n rfl ?_
    refine q_getI (ha).1 rfl ?_
    refine q_ic_ge (fun c1 => ?_) (fun c1 => ?_)
    · rw [if_pos c1] at h
      refine mAt.blk bk_X7_belowBits_36 ck_X7_belowBits_36 ?_
      refine q_iload_n rfl ?_
      have h := Option.some.inj h
      subst h
      exact q_iretI mcap_0 rfl rfl
    · rw [if_neg c1] at h
      refine q_aload_n rfl ?_
      refine q_getR (ha).1 rfl rfl ?_
      refine q_iload_n rfl ?_
      obtain ⟨q2, e2, h⟩ := mbind h
      refine q_sI2 mcap_0 rfl rfl rfl rfl (by decide) (ok_X11_pick (mrd (ha).2.2.2.1) e2) ?_
      refine q_iconst ?_
      refine q_ic_ne (fun c3 => ?_) (fun c3 => ?_)
      · rw [if_pos c3] at h
        refine q_iload_n rfl ?_
        refine q_iconst ?_
        refine q_iload_n rfl ?_
        refine q_ishl ?_
        refine q_ior ?_
        refine q_istore_n rfl rfl ?_
        exact okc_X7_belowBits_30 ha (fun _ _ _ e hl => ih  e hl) h ⟨rfl, rfl, rfl, trivial⟩
      · rw [if_neg c3] at h
        exact okc_X7_belowBits_30 ha (fun _ _ _ e hl => ih  e hl) h ⟨rfl, rfl, rfl, trivial⟩
def f_X7_belowBits (a : Nat) (σ : Sg) : Option (Int32) := (c_X7_belowBits_4  a σ 1000 (0 : Int32) (0 : Int32))
set_option maxHeartbeats 4000000 in
theorem ok_X7_belowBits {L : Nat} {a : Nat} {σ : Sg} {R : Int32} (ha : P7 a) (h : f_X7_belowBits a σ = some R) : mEv 1 45 [.ref a] (mSh, L, σ) (some (.int R)) (mSh, L, σ) := by
  refine mEv.of (by decide) rfl rfl ?_
  unfold f_X7_belowBits at h
  refine mAt.blk bk_X7_belowBits_0 ck_X7_belowBits_0 ?_
  refine q_iconst ?_
  refine q_istore_n rfl rfl ?_
  refine q_iconst ?_
  refine q_istore_n rfl rfl ?_
  exact okc_X7_belowBits_4 ha h ⟨rfl, rfl, rfl, trivial⟩
def bk_X7_howManyOut_0 : List mI := [(.iconst 0, 1, 0, 0, 0, [(0, 0)]), (.istore_n 1, 1, 0, 0, 0, []), (.iconst 0, 1, 0, 0, 0, [(0, 0)]), (.istore_n 2, 1, 0, 0, 0, [])]
theorem ck_X7_howManyOut_0 : mChk 46 0 bk_X7_howManyOut_0 = true := by decide +kernel
def bk_X7_howManyOut_4 : List mI := [(.iload_n 2, 1, 0, 0, 0, []), (.aload_n 0, 1, 0, 0, 0, []), (.getfield 34, 3, 7, 6, 231, []), (.if_icmp .ge 24, 3, 33, 0, 0, []), (.aload_n 0, 1, 0, 0, 0, []), (.getfield 18, 3, 7, 2, 221, []), (.iload_n 2, 1, 0, 0, 0, []), (.invokestatic 46, 3, 130, 0, 501, []), (.iconst 2, 1, 0, 0, 0, [(2, 0)]), (.if_icmp .ne 6, 3, 27, 0, 0, []), (.iinc 1 1, 3, 0, 0, 0, [(1, 0)])]
theorem ck_X7_howManyOut_4 : mChk 46 4 bk_X7_howManyOut_4 = true := by decide +kernel
def bk_X7_howManyOut_27 : List mI := [(.iinc 2 1, 3, 0, 0, 0, [(1, 0)]), (.goto (-26), 3, 4, 0, 0, [])]
theorem ck_X7_howManyOut_27 : mChk 46 27 bk_X7_howManyOut_27 = true := by decide +kernel
def bk_X7_howManyOut_33 : List mI := [(.iload_n 1, 1, 0, 0, 0, []), (.ireturn, 1, 0, 0, 0, [])]
theorem ck_X7_howManyOut_33 : mChk 46 33 bk_X7_howManyOut_33 = true := by decide +kernel
def c_X7_howManyOut_27 (k4 : Int32 → Int32 → Option (Int32)) (a : Nat) (σ : Sg) (x1 : Int32) (x2 : Int32) : Option (Int32) := (k4 x1 (x2 + (1 : Int32)))
set_option maxHeartbeats 4000000 in
theorem okc_X7_howManyOut_27 {L : Nat} {k4 : Int32 → Int32 → Option (Int32)} {a : Nat} {σ : Sg} {R : Int32} (ha : P7 a) (Hk4 : ∀ (x1 : Int32) (x2 : Int32) (pl : mLoc), k4 x1 x2 = some R → mlf [some (.ref a), some (.int x1), some (.int x2)] pl → mAt 1 46 (some (.int R), (mSh, L, σ)) 4 pl [] (mSh, L, σ) 0 0) {x1 : Int32} {x2 : Int32} {pl : mLoc} (h : c_X7_howManyOut_27 k4 a σ x1 x2 = some R) (hl : mlf [some (.ref a), some (.int x1), some (.int x2)] pl) : mAt 1 46 (some (.int R), (mSh, L, σ)) 27 pl [] (mSh, L, σ) 0 0 := by
  refine mAt.less hl ?_
  unfold c_X7_howManyOut_27 at h
  refine mAt.blk bk_X7_howManyOut_27 ck_X7_howManyOut_27 ?_
  refine q_iinc rfl rfl ?_
  refine q_goto ?_
  exact Hk4 _ _ _  h ⟨rfl, rfl, rfl, trivial⟩
def c_X7_howManyOut_4 (a : Nat) (σ : Sg) : Nat → Int32 → Int32 → Option (Int32)
  | 0, _, _ => none
  | n + 1, x1, x2 => (if (σ a 6) ≤ x2 then (some x1) else ((f_X11_pick (a + 3) 10 x2 σ).bind fun q2 => (if q2 = (2 : Int32) then (c_X7_howManyOut_27 (c_X7_howManyOut_4 a σ n) a σ (x1 + (1 : Int32)) x2) else (c_X7_howManyOut_27 (c_X7_howManyOut_4 a σ n) a σ x1 x2))))
set_option maxHeartbeats 4000000 in
theorem okc_X7_howManyOut_4 {L : Nat} {a : Nat} {σ : Sg} {R : Int32} (ha : P7 a) {n : Nat} {x1 : Int32} {x2 : Int32} {pl : mLoc} (h : c_X7_howManyOut_4 a σ n x1 x2 = some R) (hl : mlf [some (.ref a), some (.int x1), some (.int x2)] pl) : mAt 1 46 (some (.int R), (mSh, L, σ)) 4 pl [] (mSh, L, σ) 0 0 := by
  induction n generalizing x1 x2 pl with
  | zero =>
    rw [c_X7_howManyOut_4.eq_1] at h
    cases h
  | succ n ih =>
    refine mAt.less hl ?_
    rw [c_X7_howManyOut_4.eq_2] at h
    refine mAt.blk bk_X7_howManyOut_4 ck_X7_howManyOut_4 ?_
    refine q_iload_n rfl ?_
    refine q_aload_n rfl ?_
    refine q_getI (ha).1 rfl ?_
    refine q_ic_ge (fun c1 => ?_) (fun c1 => ?_)
    · rw [if_pos c1] at h
      refine mAt.blk bk_X7_howManyOut_33 ck_X7_howManyOut_33 ?_
      refine q_iload_n rfl ?_
      have h := Option.some.inj h
      subst h
      exact q_iretI mcap_0 rfl rfl
    · rw [if_neg c1] at h
      refine q_aload_n rfl ?_
      refine q_getR (ha).1 rfl rfl ?_
      refine q_iload_n rfl ?_
      obtain ⟨q2, e2, h⟩ := mbind h
      refine q_sI2 mcap_0 rfl rfl rfl rfl (by decide) (ok_X11_pick (mrd (ha).2.2.2.1) e2) ?_
      refine q_iconst ?_
      refine q_ic_ne (fun c3 => ?_) (fun c3 => ?_)
      · rw [if_pos c3] at h
        refine q_iinc rfl rfl ?_
        exact okc_X7_howManyOut_27 ha (fun _ _ _ e hl => ih  e hl) h ⟨rfl, rfl, rfl, trivial⟩
      · rw [if_neg c3] at h
        exact okc_X7_howManyOut_27 ha (fun _ _ _ e hl => ih  e hl) h ⟨rfl, rfl, rfl, trivial⟩
def f_X7_howManyOut (a : Nat) (σ : Sg) : Option (Int32) := (c_X7_howManyOut_4  a σ 1000 (0 : Int32) (0 : Int32))
set_option maxHeartbeats 4000000 in
theorem ok_X7_howManyOut {L : Nat} {a : Nat} {σ : Sg} {R : Int32} (ha : P7 a) (h : f_X7_howManyOut a σ = some R) : mEv 1 46 [.ref a] (mSh, L, σ) (some (.int R)) (mSh, L, σ) := by
  refine mEv.of (by decide) rfl rfl ?_
  unfold f_X7_howManyOut at h
  refine mAt.blk bk_X7_howManyOut_0 ck_X7_howManyOut_0 ?_
  refine q_iconst ?_
  refine q_istore_n rfl rfl ?_
  refine q_iconst ?_
  refine q_istore_n rfl rfl ?_
  exact okc_X7_howManyOut_4 ha h ⟨rfl, rfl, rfl, trivial⟩
def bk_X8_holderOf_0 : List mI := [(.iload_n 0, 1, 0, 0, 0, []), (.istore_n 2, 1, 0, 0, 0, []), (.iconst 0, 1, 0, 0, 0, [(0, 0)]), (.istore_n 3, 1, 0, 0, 0, [])]
theorem ck_X8_holderOf_0 : mChk 50 0 bk_X8_holderOf_0 = true := by decide +kernel
def bk_X8_holderOf_4 : List mI := [(.iload_n 3, 1, 0, 0, 0, []), (.bipush 7, 2, 0, 0, 0, [(7, 0)]), (.if_icmp .ge 31, 3, 38, 0, 0, []), (.getstatic 43, 3, 2, 0, 850, []), (.iload_n 2, 1, 0, 0, 0, []), (.iconst 4, 1, 0, 0, 0, [(4, 0)]), (.imul, 1, 0, 0, 0, []), (.iload_n 1, 1, 0, 0, 0, []), (.iadd, 1, 0, 0, 0, []), (.invokestatic 39, 3, 130, 0, 852, []), (.ifCond .ne 17, 3, 38, 0, 0, []), (.getstatic 36, 3, 1, 0, 853, []), (.iload_n 2, 1, 0, 0, 0, []), (.invokestatic 39, 3, 130, 0, 852, []), (.istore_n 2, 1, 0, 0, 0, []), (.iinc 3 1, 3, 0, 0, 0, [(1, 0)]), (.goto (-31), 3, 4, 0, 0, [])]
theorem ck_X8_holderOf_4 : mChk 50 4 bk_X8_holderOf_4 = true := by decide +kernel
def bk_X8_holderOf_38 : List mI := [(.iload_n 2, 1, 0, 0, 0, []), (.ireturn, 1, 0, 0, 0, [])]
theorem ck_X8_holderOf_38 : mChk 50 38 bk_X8_holderOf_38 = true := by decide +kernel
def c_X8_holderOf_4 (σ : Sg) : Nat → Int32 → Int32 → Int32 → Option (Int32)
  | 0, _, _, _ => none
  | n + 1, x1, x2, x3 => (if (7 : Int32) ≤ x3 then (some x2) else ((f_X11_pick (1000000 + 2) 28 ((x2 * (4 : Int32)) + x1) σ).bind fun q2 => (if q2 = 0 then ((f_X11_pick (1000000 + 1) 7 x2 σ).bind fun q4 => (c_X8_holderOf_4 σ n x1 q4 (x3 + (1 : Int32)))) else (some x2))))
set_option maxHeartbeats 4000000 in
theorem okc_X8_holderOf_4 {L : Nat} {σ : Sg} {R : Int32} {n : Nat} {x1 : Int32} {x2 : Int32} {x3 : Int32} {pl : mLoc} (h : c_X8_holderOf_4 σ n x1 x2 x3 = some R) (hl : mlf [none, some (.int x1), some (.int x2), some (.int x3)] pl) : mAt 1 50 (some (.int R), (mSh, L, σ)) 4 pl [] (mSh, L, σ) 0 0 := by
  induction n generalizing x1 x2 x3 pl with
  | zero =>
    rw [c_X8_holderOf_4.eq_1] at h
    cases h
  | succ n ih =>
    refine mAt.less hl ?_
    rw [c_X8_holderOf_4.eq_2] at h
    refine mAt.blk bk_X8_holderOf_4 ck_X8_holderOf_4 ?_
    refine q_iload_n rfl ?_
    refine q_bipush ?_
    refine q_ic_ge (fun c1 => ?_) (fun c1 => ?_)
    · rw [if_pos c1] at h
      refine mAt.blk bk_X8_holderOf_38 ck_X8_holderOf_38 ?_
      refine q_iload_n rfl ?_
      have h := Option.some.inj h
      subst h
      exact q_iretI mcap_0 rfl rfl
    · rw [if_neg c1] at h
      refine q_getstatic ?_
      refine q_iload_n rfl ?_
      refine q_iconst ?_
      refine q_imul ?_
      refine q_iload_n rfl ?_
      refine q_iadd ?_
      obtain ⟨q2, e2, h⟩ := mbind h
      refine q_sI2 mcap_0 rfl rfl rfl rfl (by decide) (ok_X11_pick mrd_2 e2) ?_
      refine q_if_ne (fun c3 => ?_) (fun c3 => ?_)
      · rw [if_pos c3] at h
        refine q_getstatic ?_
        refine q_iload_n rfl ?_
        obtain ⟨q4, e4, h⟩ := mbind h
        refine q_sI2 mcap_0 rfl rfl rfl rfl (by decide) (ok_X11_pick mrd_1 e4) ?_
        refine q_istore_n rfl rfl ?_
        refine q_iinc rfl rfl ?_
        refine q_goto ?_
        exact ih  h ⟨rfl, rfl, rfl, trivial⟩
      · rw [if_neg c3] at h
        refine mAt.blk bk_X8_holderOf_38 ck_X8_holderOf_38 ?_
        refine q_iload_n rfl ?_
        have h := Option.some.inj h
        subst h
        exact q_iretI mcap_0 rfl rfl
def f_X8_holderOf (p0 : Int32) (p1 : Int32) (σ : Sg) : Option (Int32) := (c_X8_holderOf_4  σ 1000 p1 p0 (0 : Int32))
set_option maxHeartbeats 4000000 in
theorem ok_X8_holderOf {L : Nat} {p0 : Int32} {p1 : Int32} {σ : Sg} {R : Int32} (h : f_X8_holderOf p0 p1 σ = some R) : mEv 1 50 [.int p0, .int p1] (mSh, L, σ) (some (.int R)) (mSh, L, σ) := by
  refine mEv.of (by decide) rfl rfl ?_
  unfold f_X8_holderOf at h
  refine mAt.blk bk_X8_holderOf_0 ck_X8_holderOf_0 ?_
  refine q_iload_n rfl ?_
  refine q_istore_n rfl rfl ?_
  refine q_iconst ?_
  refine q_istore_n rfl rfl ?_
  exact okc_X8_holderOf_4  h ⟨rfl, rfl, rfl, trivial⟩
def bk_X8_note_0 : List mI := [(.aload_n 0, 1, 0, 0, 0, []), (.getfield 25, 3, 8, 1, 325, []), (.bipush 40, 2, 0, 0, 0, [(40, 0)]), (.if_icmp .ge 25, 3, 31, 0, 0, []), (.aload_n 0, 1, 0, 0, 0, []), (.getfield 9, 3, 8, 0, 323, []), (.aload_n 0, 1, 0, 0, 0, []), (.getfield 25, 3, 8, 1, 325, []), (.iload_n 1, 1, 0, 0, 0, []), (.invokestatic 50, 3, 131, 0, 858, []), (.aload_n 0, 1, 0, 0, 0, []), (.dup, 1, 0, 0, 0, []), (.getfield 25, 3, 8, 1, 325, []), (.iconst 1, 1, 0, 0, 0, [(1, 0)]), (.iadd, 1, 0, 0, 0, []), (.putfield 25, 3, 8, 1, 325, [])]
theorem ck_X8_note_0 : mChk 51 0 bk_X8_note_0 = true := by decide +kernel
def bk_X8_note_31 : List mI := [(.return_, 1, 0, 0, 0, [])]
theorem ck_X8_note_31 : mChk 51 31 bk_X8_note_31 = true := by decide +kernel
def f_X8_note (p0 : Int32) (σ : Sg) : Option (Sg) := (if (40 : Int32) ≤ (σ 81 1) then (some σ) else ((f_X11_lay 82 40 (σ 81 1) p0 σ).bind fun q2 => (some (mup q2 81 1 ((q2 81 1) + (1 : Int32))))))
set_option maxHeartbeats 4000000 in
theorem ok_X8_note {L : Nat} {p0 : Int32} {σ : Sg} {R : Sg} (h : f_X8_note p0 σ = some R) : mEv 1 51 [.ref 81, .int p0] (mSh, L, σ) none (mSh, L, R) := by
  refine mEv.of (by decide) rfl rfl ?_
  unfold f_X8_note at h
  refine mAt.blk bk_X8_note_0 ck_X8_note_0 ?_
  refine q_aload_n rfl ?_
  refine q_getI ob_81 rfl ?_
  refine q_bipush ?_
  refine q_ic_ge (fun c1 => ?_) (fun c1 => ?_)
  · rw [if_pos c1] at h
    refine mAt.blk bk_X8_note_31 ck_X8_note_31 ?_
    have h := Option.some.inj h
    subst h
    exact q_vret mcap_0 rfl rfl
  · rw [if_neg c1] at h
    refine q_aload_n rfl ?_
    refine q_getR ob_81 rfl rfl ?_
    refine q_aload_n rfl ?_
    refine q_getI ob_81 rfl ?_
    refine q_iload_n rfl ?_
    obtain ⟨q2, e2, h⟩ := mbind h
    refine q_sV3 mcap_0 rfl rfl rfl rfl (by decide) (ok_X11_lay ar_82 e2) ?_
    refine q_aload_n rfl ?_
    refine q_dupR ?_
    refine q_getI ob_81 rfl ?_
    refine q_iconst ?_
    refine q_iadd ?_
    refine q_putI ob_81 rfl ?_
    refine mAt.blk bk_X8_note_31 ck_X8_note_31 ?_
    have h := Option.some.inj h
    subst h
    exact q_vret mcap_0 rfl rfl
def bk_X8_says_0 : List mI := [(.iload 4, 2, 0, 0, 0, []), (.bipush 40, 2, 0, 0, 0, [(40, 0)]), (.if_icmp .le 5, 3, 9, 0, 0, []), (.iconst 0, 1, 0, 0, 0, [(0, 0)]), (.ireturn, 1, 0, 0, 0, [])]
theorem ck_X8_says_0 : mChk 49 0 bk_X8_says_0 = true := by decide +kernel
def bk_X8_says_9 : List mI := [(.iload_n 1, 1, 0, 0, 0, []), (.iload_n 2, 1, 0, 0, 0, []), (.invokestatic 32, 3, 50, 0, 847, []), (.istore 5, 2, 0, 0, 0, []), (.getstatic 36, 3, 1, 0, 853, []), (.iload 5, 2, 0, 0, 0, []), (.invokestatic 39, 3, 130, 0, 852, []), (.istore 6, 2, 0, 0, 0, []), (.getstatic 43, 3, 2, 0, 850, []), (.iload 5, 2, 0, 0, 0, []), (.iconst 4, 1, 0, 0, 0, [(4, 0)]), (.imul, 1, 0, 0, 0, []), (.iload_n 2, 1, 0, 0, 0, []), (.iadd, 1, 0, 0, 0, []), (.invokestatic 39, 3, 130, 0, 852, []), (.istore 7, 2, 0, 0, 0, []), (.iload 4, 2, 0, 0, 0, []), (.iconst 1, 1, 0, 0, 0, [(1, 0)]), (.iadd, 1, 0, 0, 0, []), (.istore 8, 2, 0, 0, 0, []), (.aload_n 0, 1, 0, 0, 0, []), (.iload 7, 2, 0, 0, 0, []), (.invokevirtual 46, 3, 51, 0, 854, []), (.iload 7, 2, 0, 0, 0, []), (.lookupswitch 279 #[(10, 98), (11, 105), (12, 120), (13, 127), (20, 153), (30, 177), (40, 190), (50, 202), (60, 215), (70, 239), (71, 255)], 98, 333, 0, 0, [(10, 152), (11, 159), (12, 174), (13, 181), (20, 207), (30, 231), (40, 244), (50, 256), (60, 269), (70, 293), (71, 309)])]
theorem ck_X8_says_9 : mChk 49 9 bk_X8_says_9 = true := by decide +kernel
def bk_X8_says_152 : List mI := [(.iload_n 3, 1, 0, 0, 0, []), (.aload_n 0, 1, 0, 0, 0, []), (.getfield 19, 3, 8, 3, 328, []), (.iadd, 1, 0, 0, 0, []), (.ireturn, 1, 0, 0, 0, [])]
theorem ck_X8_says_152 : mChk 49 152 bk_X8_says_152 = true := by decide +kernel
def bk_X8_says_159 : List mI := [(.aload_n 0, 1, 0, 0, 0, []), (.aload_n 0, 1, 0, 0, 0, []), (.getfield 15, 3, 8, 2, 327, []), (.iconst 0, 1, 0, 0, 0, [(0, 0)]), (.iload_n 3, 1, 0, 0, 0, []), (.iload 8, 2, 0, 0, 0, []), (.invokevirtual 28, 3, 49, 0, 843, []), (.iconst 2, 1, 0, 0, 0, [(2, 0)]), (.imul, 1, 0, 0, 0, []), (.ireturn, 1, 0, 0, 0, [])]
theorem ck_X8_says_159 : mChk 49 159 bk_X8_says_159 = true := by decide +kernel
def bk_X8_says_174 : List mI := [(.iload_n 3, 1, 0, 0, 0, []), (.aload_n 0, 1, 0, 0, 0, []), (.getfield 22, 3, 8, 4, 329, []), (.isub, 1, 0, 0, 0, []), (.ireturn, 1, 0, 0, 0, [])]
theorem ck_X8_says_174 : mChk 49 174 bk_X8_says_174 = true := by decide +kernel
def bk_X8_says_181 : List mI := [(.aload_n 0, 1, 0, 0, 0, []), (.aload_n 0, 1, 0, 0, 0, []), (.getfield 15, 3, 8, 2, 327, []), (.iconst 1, 1, 0, 0, 0, [(1, 0)]), (.iload_n 3, 1, 0, 0, 0, []), (.iload 8, 2, 0, 0, 0, []), (.invokevirtual 28, 3, 49, 0, 843, []), (.aload_n 0, 1, 0, 0, 0, []), (.aload_n 0, 1, 0, 0, 0, []), (.getfield 15, 3, 8, 2, 327, []), (.iconst 2, 1, 0, 0, 0, [(2, 0)]), (.iload_n 3, 1, 0, 0, 0, []), (.iload 8, 2, 0, 0, 0, []), (.invokevirtual 28, 3, 49, 0, 843, []), (.ixor, 1, 0, 0, 0, []), (.ireturn, 1, 0, 0, 0, [])]
theorem ck_X8_says_181 : mChk 49 181 bk_X8_says_181 = true := by decide +kernel
def bk_X8_says_207 : List mI := [(.aload_n 0, 1, 0, 0, 0, []), (.iload 6, 2, 0, 0, 0, []), (.iconst 1, 1, 0, 0, 0, [(1, 0)]), (.iload_n 3, 1, 0, 0, 0, []), (.iload 8, 2, 0, 0, 0, []), (.invokevirtual 28, 3, 49, 0, 843, []), (.aload_n 0, 1, 0, 0, 0, []), (.aload_n 0, 1, 0, 0, 0, []), (.getfield 15, 3, 8, 2, 327, []), (.iconst 2, 1, 0, 0, 0, [(2, 0)]), (.iconst 1, 1, 0, 0, 0, [(1, 0)]), (.iload 8, 2, 0, 0, 0, []), (.invokevirtual 28, 3, 49, 0, 843, []), (.isub, 1, 0, 0, 0, []), (.ireturn, 1, 0, 0, 0, [])]
theorem ck_X8_says_207 : mChk 49 207 bk_X8_says_207 = true := by decide +kernel
def bk_X8_says_231 : List mI := [(.aload_n 0, 1, 0, 0, 0, []), (.iload 6, 2, 0, 0, 0, []), (.iconst 0, 1, 0, 0, 0, [(0, 0)]), (.iload_n 3, 1, 0, 0, 0, []), (.iload 8, 2, 0, 0, 0, []), (.invokevirtual 28, 3, 49, 0, 843, []), (.iconst 3, 1, 0, 0, 0, [(3, 0)]), (.imul, 1, 0, 0, 0, []), (.ireturn, 1, 0, 0, 0, [])]
theorem ck_X8_says_231 : mChk 49 231 bk_X8_says_231 = true := by decide +kernel
def bk_X8_says_244 : List mI := [(.aload_n 0, 1, 0, 0, 0, []), (.iload 6, 2, 0, 0, 0, []), (.iconst 2, 1, 0, 0, 0, [(2, 0)]), (.iload_n 3, 1, 0, 0, 0, []), (.iload 8, 2, 0, 0, 0, []), (.invokevirtual 28, 3, 49, 0, 843, []), (.ineg, 1, 0, 0, 0, []), (.ireturn, 1, 0, 0, 0, [])]
theorem ck_X8_says_244 : mChk 49 244 bk_X8_says_244 = true := by decide +kernel
def bk_X8_says_256 : List mI := [(.aload_n 0, 1, 0, 0, 0, []), (.iload 6, 2, 0, 0, 0, []), (.iconst 1, 1, 0, 0, 0, [(1, 0)]), (.iload_n 3, 1, 0, 0, 0, []), (.iconst 1, 1, 0, 0, 0, [(1, 0)]), (.iadd, 1, 0, 0, 0, []), (.iload 8, 2, 0, 0, 0, []), (.invokevirtual 28, 3, 49, 0, 843, []), (.ireturn, 1, 0, 0, 0, [])]
theorem ck_X8_says_256 : mChk 49 256 bk_X8_says_256 = true := by decide +kernel
def bk_X8_says_269 : List mI := [(.aload_n 0, 1, 0, 0, 0, []), (.iload 6, 2, 0, 0, 0, []), (.iconst 3, 1, 0, 0, 0, [(3, 0)]), (.iload_n 3, 1, 0, 0, 0, []), (.iload 8, 2, 0, 0, 0, []), (.invokevirtual 28, 3, 49, 0, 843, []), (.aload_n 0, 1, 0, 0, 0, []), (.aload_n 0, 1, 0, 0, 0, []), (.getfield 15, 3, 8, 2, 327, []), (.iconst 0, 1, 0, 0, 0, [(0, 0)]), (.iconst 2, 1, 0, 0, 0, [(2, 0)]), (.iload 8, 2, 0, 0, 0, []), (.invokevirtual 28, 3, 49, 0, 843, []), (.isub, 1, 0, 0, 0, []), (.ireturn, 1, 0, 0, 0, [])]
theorem ck_X8_says_269 : mChk 49 269 bk_X8_says_269 = true := by decide +kernel
def bk_X8_says_293 : List mI := [(.aload_n 0, 1, 0, 0, 0, []), (.iload 6, 2, 0, 0, 0, []), (.iconst 0, 1, 0, 0, 0, [(0, 0)]), (.iload_n 3, 1, 0, 0, 0, []), (.iload 8, 2, 0, 0, 0, []), (.invokevirtual 28, 3, 49, 0, 843, []), (.aload_n 0, 1, 0, 0, 0, []), (.getfield 19, 3, 8, 3, 328, []), (.ixor, 1, 0, 0, 0, []), (.ireturn, 1, 0, 0, 0, [])]
theorem ck_X8_says_293 : mChk 49 293 bk_X8_says_293 = true := by decide +kernel
def bk_X8_says_309 : List mI := [(.aload_n 0, 1, 0, 0, 0, []), (.aload_n 0, 1, 0, 0, 0, []), (.getfield 15, 3, 8, 2, 327, []), (.iconst 1, 1, 0, 0, 0, [(1, 0)]), (.iload_n 3, 1, 0, 0, 0, []), (.iload 8, 2, 0, 0, 0, []), (.invokevirtual 28, 3, 49, 0, 843, []), (.aload_n 0, 1, 0, 0, 0, []), (.iload 6, 2, 0, 0, 0, []), (.iconst 3, 1, 0, 0, 0, [(3, 0)]), (.iload_n 3, 1, 0, 0, 0, []), (.iload 8, 2, 0, 0, 0, []), (.invokevirtual 28, 3, 49, 0, 843, []), (.isub, 1, 0, 0, 0, []), (.ireturn, 1, 0, 0, 0, [])]
theorem ck_X8_says_309 : mChk 49 309 bk_X8_says_309 = true := by decide +kernel
def bk_X8_says_333 : List mI := [(.iconst 0, 1, 0, 0, 0, [(0, 0)]), (.ireturn, 1, 0, 0, 0, [])]
theorem ck_X8_says_333 : mChk 49 333 bk_X8_says_333 = true := by decide +kernel
def b_X8_says (g_X8_says : Int32 → Int32 → Int32 → Int32 → Sg → Option (Int32 × Sg)) (p0 : Int32) (p1 : Int32) (p2 : Int32) (p3 : Int32) (σ : Sg) : Option (Int32 × Sg) := (if p3 ≤ (40 : Int32) then ((f_X8_holderOf p0 p1 σ).bind fun q2 => ((f_X11_pick (1000000 + 1) 7 q2 σ).bind fun q3 => ((f_X11_pick (1000000 + 2) 28 ((q2 * (4 : Int32)) + p1) σ).bind fun q4 => ((f_X8_note q4 σ).bind fun q5 => (if q4 = (10 : Int32) then (some ((p2 + (q5 81 3)), q5)) else (if q4 = (11 : Int32) then ((g_X8_says (q5 81 2) (0 : Int32) p2 (p3 + (1 : Int32)) q5).bind fun q6 => (some ((q6.1 * (2 : Int32)), q6.2))) else (if q4 = (12 : Int32) then (some ((p2 - (q5 81 4)), q5)) else (if q4 = (13 : Int32) then ((g_X8_says (q5 81 2) (1 : Int32) p2 (p3 + (1 : Int32)) q5).bind fun q7 => ((g_X8_says (q7.2 81 2) (2 : Int32) p2 (p3 + (1 : Int32)) q7.2).bind fun q8 => (some ((q7.1 ^^^ q8.1), q8.2)))) else (if q4 = (20 : Int32) then ((g_X8_says q3 (1 : Int32) p2 (p3 + (1 : Int32)) q5).bind fun q9 => ((g_X8_says (q9.2 81 2) (2 : Int32) (1 : Int32) (p3 + (1 : Int32)) q9.2).bind fun q10 => (some ((q9.1 - q10.1), q10.2)))) else (if q4 = (30 : Int32) then ((g_X8_says q3 (0 : Int32) p2 (p3 + (1 : Int32)) q5).bind fun q11 => (some ((q11.1 * (3 : Int32)), q11.2))) else (if q4 = (40 : Int32) then ((g_X8_says q3 (2 : Int32) p2 (p3 + (1 : Int32)) q5).bind fun q12 => (some ((-q12.1), q12.2))) else (if q4 = (50 : Int32) then ((g_X8_says q3 (1 : Int32) (p2 + (1 : Int32)) (p3 + (1 : Int32)) q5).bind fun q13 => (some (q13.1, q13.2))) else (if q4 = (60 : Int32) then ((g_X8_says q3 (3 : Int32) p2 (p3 + (1 : Int32)) q5).bind fun q14 => ((g_X8_says (q14.2 81 2) (0 : Int32) (2 : Int32) (p3 + (1 : Int32)) q14.2).bind fun q15 => (some ((q14.1 - q15.1), q15.2)))) else (if q4 = (70 : Int32) then ((g_X8_says q3 (0 : Int32) p2 (p3 + (1 : Int32)) q5).bind fun q16 => (some ((q16.1 ^^^ (q16.2 81 3)), q16.2))) else (if q4 = (71 : Int32) then ((g_X8_says (q5 81 2) (1 : Int32) p2 (p3 + (1 : Int32)) q5).bind fun q17 => ((g_X8_says q3 (3 : Int32) p2 (p3 + (1 : Int32)) q17.2).bind fun q18 => (some ((q17.1 - q18.1), q18.2)))) else (some ((0 : Int32), q5))))))))))))))))) else (some ((0 : Int32), σ)))
set_option maxHeartbeats 4000000 in
theorem okb_X8_says {L : Nat} {g_X8_says : Int32 → Int32 → Int32 → Int32 → Sg → Option (Int32 × Sg)} {dd : Nat} {p0 : Int32} {p1 : Int32} {p2 : Int32} {p3 : Int32} {σ : Sg} {R : Int32 × Sg} (G_X8_says : ∀ (p0 : Int32) (p1 : Int32) (p2 : Int32) (p3 : Int32) (σ : Sg) (R : Int32 × Sg), g_X8_says p0 p1 p2 p3 σ = some R → mEv dd 49 [.ref 81, .int p0, .int p1, .int p2, .int p3] (mSh, L, σ) (some (.int R.1)) (mSh, L, R.2)) (hdd : 2 ≤ dd) (h : b_X8_says g_X8_says p0 p1 p2 p3 σ = some R) : mEv (dd + 1) 49 [.ref 81, .int p0, .int p1, .int p2, .int p3] (mSh, L, σ) (some (.int R.1)) (mSh, L, R.2) := by
  refine mEv.of (by decide) rfl rfl ?_
  unfold b_X8_says at h
  refine mAt.blk bk_X8_says_0 ck_X8_says_0 ?_
  refine q_iload rfl ?_
  refine q_bipush ?_
  refine q_ic_le (fun c1 => ?_) (fun c1 => ?_)
  · rw [if_pos c1] at h
    refine mAt.blk bk_X8_says_9 ck_X8_says_9 ?_
    refine q_iload_n rfl ?_
    refine q_iload_n rfl ?_
    obtain ⟨q2, e2, h⟩ := mbind h
    refine q_sI2 mcap_0 rfl rfl rfl rfl (by omega) (ok_X8_holderOf  e2) ?_
    refine q_istore rfl rfl ?_
    refine q_getstatic ?_
    refine q_iload rfl ?_
    obtain ⟨q3, e3, h⟩ := mbind h
    refine q_sI2 mcap_0 rfl rfl rfl rfl (by omega) (ok_X11_pick mrd_1 e3) ?_
    refine q_istore rfl rfl ?_
    refine q_getstatic ?_
    refine q_iload rfl ?_
    refine q_iconst ?_
    refine q_imul ?_
    refine q_iload_n rfl ?_
    refine q_iadd ?_
    obtain ⟨q4, e4, h⟩ := mbind h
    refine q_sI2 mcap_0 rfl rfl rfl rfl (by omega) (ok_X11_pick mrd_2 e4) ?_
    refine q_istore rfl rfl ?_
    refine q_iload rfl ?_
    refine q_iconst ?_
    refine q_iadd ?_
    refine q_istore rfl rfl ?_
    refine q_aload_n rfl ?_
    refine q_iload rfl ?_
    obtain ⟨q5, e5, h⟩ := mbind h
    refine q_vV1 mcap_0 rfl rfl ob_81 rfl (by omega) (ok_X8_note  e5) ?_
    refine q_iload rfl ?_
    refine q_lsw ?_
    refine ⟨fun c29 => ?_, fun c29 => ?_⟩
    · rw [if_pos c29] at h
      refine mAt.blk bk_X8_says_152 ck_X8_says_152 ?_
      refine q_iload_n rfl ?_
      refine q_aload_n rfl ?_
      refine q_getI ob_81 rfl ?_
      refine q_iadd ?_
      have h := Option.some.inj h
      subst h
      exact q_iretI mcap_0 rfl rfl
    · rw [if_neg c29] at h
      refine ⟨fun c28 => ?_, fun c28 => ?_⟩
      · rw [if_pos c28] at h
        refine mAt.blk bk_X8_says_159 ck_X8_says_159 ?_
        refine q_aload_n rfl ?_
        refine q_aload_n rfl ?_
        refine q_getI ob_81 rfl ?_
        refine q_iconst ?_
        refine q_iload_n rfl ?_
        refine q_iload rfl ?_
        obtain ⟨q6, e6, h⟩ := mbind h
        refine q_vI4 mcap_0 rfl rfl ob_81 rfl (by omega) (G_X8_says _ _ _ _ _ _ e6) ?_
        refine q_iconst ?_
        refine q_imul ?_
        have h := Option.some.inj h
        subst h
        exact q_iretI mcap_0 rfl rfl
      · rw [if_neg c28] at h
        refine ⟨fun c27 => ?_, fun c27 => ?_⟩
        · rw [if_pos c27] at h
          refine mAt.blk bk_X8_says_174 ck_X8_says_174 ?_
          refine q_iload_n rfl ?_
          refine q_aload_n rfl ?_
          refine q_getI ob_81 rfl ?_
          refine q_isub ?_
          have h := Option.some.inj h
          subst h
          exact q_iretI mcap_0 rfl rfl
        · rw [if_neg c27] at h
          refine ⟨fun c26 => ?_, fun c26 => ?_⟩
          · rw [if_pos c26] at h
            refine mAt.blk bk_X8_says_181 ck_X8_says_181 ?_
            refine q_aload_n rfl ?_
            refine q_aload_n rfl ?_
            refine q_getI ob_81 rfl ?_
            refine q_iconst ?_
            refine q_iload_n rfl ?_
            refine q_iload rfl ?_
            obtain ⟨q7, e7, h⟩ := mbind h
            refine q_vI4 mcap_0 rfl rfl ob_81 rfl (by omega) (G_X8_says _ _ _ _ _ _ e7) ?_
            refine q_aload_n rfl ?_
            refine q_aload_n rfl ?_
            refine q_getI ob_81 rfl ?_
            refine q_iconst ?_
            refine q_iload_n rfl ?_
            refine q_iload rfl ?_
            obtain ⟨q8, e8, h⟩ := mbind h
            refine q_vI4 mcap_0 rfl rfl ob_81 rfl (by omega) (G_X8_says _ _ _ _ _ _ e8) ?_
            refine q_ixor ?_
            have h := Option.some.inj h
            subst h
            exact q_iretI mcap_0 rfl rfl
          · rw [if_neg c26] at h
            refine ⟨fun c25 => ?_, fun c25 => ?_⟩
            · rw [if_pos c25] at h
              refine mAt.blk bk_X8_says_207 ck_X8_says_207 ?_
              refine q_aload_n rfl ?_
              refine q_iload rfl ?_
              refine q_iconst ?_
              refine q_iload_n rfl ?_
              refine q_iload rfl ?_
              obtain ⟨q9, e9, h⟩ := mbind h
              refine q_vI4 mcap_0 rfl rfl ob_81 rfl (by omega) (G_X8_says _ _ _ _ _ _ e9) ?_
              refine q_aload_n rfl ?_
              refine q_aload_n rfl ?_
              refine q_getI ob_81 rfl ?_
              refine q_iconst ?_
              refine q_iconst ?_
              refine q_iload rfl ?_
              obtain ⟨q10, e10, h⟩ := mbind h
              refine q_vI4 mcap_0 rfl rfl ob_81 rfl (by omega) (G_X8_says _ _ _ _ _ _ e10) ?_
              refine q_isub ?_
              have h := Option.some.inj h
              subst h
              exact q_iretI mcap_0 rfl rfl
            · rw [if_neg c25] at h
              refine ⟨fun c24 => ?_, fun c24 => ?_⟩
              · rw [if_pos c24] at h
                refine mAt.blk bk_X8_says_231 ck_X8_says_231 ?_
                refine q_aload_n rfl ?_
                refine q_iload rfl ?_
                refine q_iconst ?_
                refine q_iload_n rfl ?_
                refine q_iload rfl ?_
                obtain ⟨q11, e11, h⟩ := mbind h
                refine q_vI4 mcap_0 rfl rfl ob_81 rfl (by omega) (G_X8_says _ _ _ _ _ _ e11) ?_
                refine q_iconst ?_
                refine q_imul ?_
                have h := Option.some.inj h
                subst h
                exact q_iretI mcap_0 rfl rfl
              · rw [if_neg c24] at h
                refine ⟨fun c23 => ?_, fun c23 => ?_⟩
                · rw [if_pos c23] at h
                  refine mAt.blk bk_X8_says_244 ck_X8_says_244 ?_
                  refine q_aload_n rfl ?_
                  refine q_iload rfl ?_
                  refine q_iconst ?_
                  refine q_iload_n rfl ?_
                  refine q_iload rfl ?_
                  obtain ⟨q12, e12, h⟩ := mbind h
                  refine q_vI4 mcap_0 rfl rfl ob_81 rfl (by omega) (G_X8_says _ _ _ _ _ _ e12) ?_
                  refine q_ineg ?_
                  have h := Option.some.inj h
                  subst h
                  exact q_iretI mcap_0 rfl rfl
                · rw [if_neg c23] at h
                  refine ⟨fun c22 => ?_, fun c22 => ?_⟩
                  · rw [if_pos c22] at h
                    refine mAt.blk bk_X8_says_256 ck_X8_says_256 ?_
                    refine q_aload_n rfl ?_
                    refine q_iload rfl ?_
                    refine q_iconst ?_
                    refine q_iload_n rfl ?_
                    refine q_iconst ?_
                    refine q_iadd ?_
                    refine q_iload rfl ?_
                    obtain ⟨q13, e13, h⟩ := mbind h
                    refine q_vI4 mcap_0 rfl rfl ob_81 rfl (by omega) (G_X8_says _ _ _ _ _ _ e13) ?_
                    have h := Option.some.inj h
                    subst h
                    exact q_iretI mcap_0 rfl rfl
                  · rw [if_neg c22] at h
                    refine ⟨fun c21 => ?_, fun c21 => ?_⟩
                    · rw [if_pos c21] at h
                      refine mAt.blk bk_X8_says_269 ck_X8_says_269 ?_
                      refine q_aload_n rfl ?_
                      refine q_iload rfl ?_
                      refine q_iconst ?_
                      refine q_iload_n rfl ?_
                      refine q_iload rfl ?_
                      obtain ⟨q14, e14, h⟩ := mbind h
                      refine q_vI4 mcap_0 rfl rfl ob_81 rfl (by omega) (G_X8_says _ _ _ _ _ _ e14) ?_
                      refine q_aload_n rfl ?_
                      refine q_aload_n rfl ?_
                      refine q_getI ob_81 rfl ?_
                      refine q_iconst ?_
                      refine q_iconst ?_
                      refine q_iload rfl ?_
                      obtain ⟨q15, e15, h⟩ := mbind h
                      refine q_vI4 mcap_0 rfl rfl ob_81 rfl (by omega) (G_X8_says _ _ _ _ _ _ e15) ?_
                      refine q_isub ?_
                      have h := Option.some.inj h
                      subst h
                      exact q_iretI mcap_0 rfl rfl
                    · rw [if_neg c21] at h
                      refine ⟨fun c20 => ?_, fun c20 => ?_⟩
                      · rw [if_pos c20] at h
                        refine mAt.blk bk_X8_says_293 ck_X8_says_293 ?_
                        refine q_aload_n rfl ?_
                        refine q_iload rfl ?_
                        refine q_iconst ?_
                        refine q_iload_n rfl ?_
                        refine q_iload rfl ?_
                        obtain ⟨q16, e16, h⟩ := mbind h
                        refine q_vI4 mcap_0 rfl rfl ob_81 rfl (by omega) (G_X8_says _ _ _ _ _ _ e16) ?_
                        refine q_aload_n rfl ?_
                        refine q_getI ob_81 rfl ?_
                        refine q_ixor ?_
                        have h := Option.some.inj h
                        subst h
                        exact q_iretI mcap_0 rfl rfl
                      · rw [if_neg c20] at h
                        refine ⟨fun c19 => ?_, fun c19 => ?_⟩
                        · rw [if_pos c19] at h
                          refine mAt.blk bk_X8_says_309 ck_X8_says_309 ?_
                          refine q_aload_n rfl ?_
                          refine q_aload_n rfl ?_
                          refine q_getI ob_81 rfl ?_
                          refine q_iconst ?_
                          refine q_iload_n rfl ?_
                          refine q_iload rfl ?_
                          obtain ⟨q17, e17, h⟩ := mbind h
                          refine q_vI4 mcap_0 rfl rfl ob_81 rfl (by omega) (G_X8_says _ _ _ _ _ _ e17) ?_
                          refine q_aload_n rfl ?_
                          refine q_iload rfl ?_
                          refine q_iconst ?_
                          refine q_iload_n rfl ?_
                          refine q_iload rfl ?_
                          obtain ⟨q18, e18, h⟩ := mbind h
                          refine q_vI4 mcap_0 rfl rfl ob_81 rfl (by omega) (G_X8_says _ _ _ _ _ _ e18) ?_
                          refine q_isub ?_
                          have h := Option.some.inj h
                          subst h
                          exact q_iretI mcap_0 rfl rfl
                        · rw [if_neg c19] at h
                          refine mAt.blk bk_X8_says_333 ck_X8_says_333 ?_
                          refine q_iconst ?_
                          have h := Option.some.inj h
                          subst h
                          exact q_iretI mcap_0 rfl rfl
  · rw [if_neg c1] at h
    refine q_iconst ?_
    have h := Option.some.inj h
    subst h
    exact q_iretI mcap_0 rfl rfl
def F_X8_says : Nat → (Int32 → Int32 → Int32 → Int32 → Sg → Option (Int32 × Sg))
  | 0 => ((fun _ _ _ _ _ => none))
  | n + 1 => ((fun p0 p1 p2 p3 σ => b_X8_says ((F_X8_says n)) p0 p1 p2 p3 σ))
def f_X8_says (n : Nat) (p0 : Int32) (p1 : Int32) (p2 : Int32) (p3 : Int32) (σ : Sg) : Option (Int32 × Sg) := ((F_X8_says n)) p0 p1 p2 p3 σ
theorem f_X8_says_0 (p0 : Int32) (p1 : Int32) (p2 : Int32) (p3 : Int32) (σ : Sg) : f_X8_says 0 p0 p1 p2 p3 σ = none := rfl
theorem f_X8_says_s (n : Nat) (p0 : Int32) (p1 : Int32) (p2 : Int32) (p3 : Int32) (σ : Sg) : f_X8_says (n + 1) p0 p1 p2 p3 σ = b_X8_says (f_X8_says n) p0 p1 p2 p3 σ := rfl
set_option maxHeartbeats 4000000 in
theorem okg_X8_says {L : Nat} : ∀ n : Nat, (∀ (p0 : Int32) (p1 : Int32) (p2 : Int32) (p3 : Int32) (σ : Sg) (R : Int32 × Sg), f_X8_says n p0 p1 p2 p3 σ = some R → mEv (n + 2) 49 [.ref 81, .int p0, .int p1, .int p2, .int p3] (mSh, L, σ) (some (.int R.1)) (mSh, L, R.2))
  | 0 => (fun _ _ _ _ _ _ h => by rw [f_X8_says_0] at h; cases h)
  | n + 1 => by
    have ih := okg_X8_says (L := L) n
    exact (fun _ _ _ _ _ _ h => by rw [f_X8_says_s] at h; exact (by have := okb_X8_says (L := L) (dd := n + 2) (ih) (by omega) h; rw [show n + 1 + 2 = n + 2 + 1 by omega]; exact this))
theorem ok_X8_says {L : Nat} {p0 : Int32} {p1 : Int32} {p2 : Int32} {p3 : Int32} {σ : Sg} {R : Int32 × Sg} (h : f_X8_says 64 p0 p1 p2 p3 σ = some R) : mEv 66 49 [.ref 81, .int p0, .int p1, .int p2, .int p3] (mSh, L, σ) (some (.int R.1)) (mSh, L, R.2) := (okg_X8_says (L := L) 64) _ _ _ _ _ _ h
def bk_X8_begin_0 : List mI := [(.aload_n 0, 1, 0, 0, 0, []), (.iload_n 1, 1, 0, 0, 0, []), (.putfield 15, 3, 8, 2, 327, []), (.aload_n 0, 1, 0, 0, 0, []), (.iload_n 2, 1, 0, 0, 0, []), (.putfield 19, 3, 8, 3, 328, []), (.aload_n 0, 1, 0, 0, 0, []), (.iload_n 3, 1, 0, 0, 0, []), (.putfield 22, 3, 8, 4, 329, []), (.aload_n 0, 1, 0, 0, 0, []), (.iconst 0, 1, 0, 0, 0, [(0, 0)]), (.putfield 25, 3, 8, 1, 325, []), (.aload_n 0, 1, 0, 0, 0, []), (.aload_n 0, 1, 0, 0, 0, []), (.getfield 15, 3, 8, 2, 327, []), (.iload 4, 2, 0, 0, 0, []), (.iload 5, 2, 0, 0, 0, []), (.iconst 0, 1, 0, 0, 0, [(0, 0)]), (.invokevirtual 28, 3, 49, 0, 843, []), (.ireturn, 1, 0, 0, 0, [])]
theorem ck_X8_begin_0 : mChk 48 0 bk_X8_begin_0 = true := by decide +kernel
def f_X8_begin (p0 : Int32) (p1 : Int32) (p2 : Int32) (p3 : Int32) (p4 : Int32) (σ : Sg) : Option (Int32 × Sg) := ((f_X8_says 64 ((mup (mup (mup (mup σ 81 2 p0) 81 3 p1) 81 4 p2) 81 1 (0 : Int32)) 81 2) p3 p4 (0 : Int32) (mup (mup (mup (mup σ 81 2 p0) 81 3 p1) 81 4 p2) 81 1 (0 : Int32))).bind fun q1 => (some (q1.1, q1.2)))
set_option maxHeartbeats 4000000 in
theorem ok_X8_begin {L : Nat} {p0 : Int32} {p1 : Int32} {p2 : Int32} {p3 : Int32} {p4 : Int32} {σ : Sg} {R : Int32 × Sg} (h : f_X8_begin p0 p1 p2 p3 p4 σ = some R) : mEv 67 48 [.ref 81, .int p0, .int p1, .int p2, .int p3, .int p4] (mSh, L, σ) (some (.int R.1)) (mSh, L, R.2) := by
  refine mEv.of (by decide) rfl rfl ?_
  unfold f_X8_begin at h
  refine mAt.blk bk_X8_begin_0 ck_X8_begin_0 ?_
  refine q_aload_n rfl ?_
  refine q_iload_n rfl ?_
  refine q_putI ob_81 rfl ?_
  refine q_aload_n rfl ?_
  refine q_iload_n rfl ?_
  refine q_putI ob_81 rfl ?_
  refine q_aload_n rfl ?_
  refine q_iload_n rfl ?_
  refine q_putI ob_81 rfl ?_
  refine q_aload_n rfl ?_
  refine q_iconst ?_
  refine q_putI ob_81 rfl ?_
  refine q_aload_n rfl ?_
  refine q_aload_n rfl ?_
  refine q_getI ob_81 rfl ?_
  refine q_iload rfl ?_
  refine q_iload rfl ?_
  refine q_iconst ?_
  obtain ⟨q1, e1, h⟩ := mbind h
  refine q_vI4 mcap_0 rfl rfl ob_81 rfl (by decide) (ok_X8_says  e1) ?_
  have h := Option.some.inj h
  subst h
  exact q_iretI mcap_0 rfl rfl
def bk_X9_dig_0 : List mI := [(.aload_n 0, 1, 0, 0, 0, []), (.getfield 28, 3, 9, 4, 195, []), (.istore_n 1, 1, 0, 0, 0, []), (.aload_n 0, 1, 0, 0, 0, []), (.dup, 1, 0, 0, 0, []), (.getfield 28, 3, 9, 4, 195, []), (.iconst 1, 1, 0, 0, 0, [(1, 0)]), (.iadd, 1, 0, 0, 0, []), (.putfield 28, 3, 9, 4, 195, []), (.aload_n 0, 1, 0, 0, 0, []), (.iload_n 1, 1, 0, 0, 0, []), (.iconst (-1), 1, 0, 0, 0, [((-1), 0)]), (.iconst 1, 1, 0, 0, 0, [(1, 0)]), (.invokevirtual 32, 3, 57, 0, 414, []), (.aload_n 0, 1, 0, 0, 0, []), (.getfield 18, 3, 9, 2, 188, []), (.iload_n 1, 1, 0, 0, 0, []), (.iconst 0, 1, 0, 0, 0, [(0, 0)]), (.invokestatic 36, 3, 131, 0, 418, []), (.aload_n 0, 1, 0, 0, 0, []), (.getfield 21, 3, 9, 3, 191, []), (.iload_n 1, 1, 0, 0, 0, []), (.iconst 0, 1, 0, 0, 0, [(0, 0)]), (.invokestatic 36, 3, 131, 0, 418, []), (.iload_n 1, 1, 0, 0, 0, []), (.ireturn, 1, 0, 0, 0, [])]
theorem ck_X9_dig_0 : mChk 55 0 bk_X9_dig_0 = true := by decide +kernel
def f_X9_dig (a : Nat) (σ : Sg) : Option (Int32 × Sg) := ((f_X9_lead a (σ a 4) (-1 : Int32) (1 : Int32) (mup σ a 4 ((σ a 4) + (1 : Int32)))).bind fun q1 => ((f_X11_lay (a + 3) 9 (σ a 4) (0 : Int32) q1).bind fun q2 => ((f_X11_lay (a + 4) 9 (σ a 4) (0 : Int32) q2).bind fun q3 => (some ((σ a 4), q3)))))
set_option maxHeartbeats 4000000 in
theorem ok_X9_dig {L : Nat} {a : Nat} {σ : Sg} {R : Int32 × Sg} (ha : P9 a) (h : f_X9_dig a σ = some R) : mEv 2 55 [.ref a] (mSh, L, σ) (some (.int R.1)) (mSh, L, R.2) := by
  refine mEv.of (by decide) rfl rfl ?_
  unfold f_X9_dig at h
  refine mAt.blk bk_X9_dig_0 ck_X9_dig_0 ?_
  refine q_aload_n rfl ?_
  refine q_getI (ha).1 rfl ?_
  refine q_istore_n rfl rfl ?_
  refine q_aload_n rfl ?_
  refine q_dupR ?_
  refine q_getI (ha).1 rfl ?_
  refine q_iconst ?_
  refine q_iadd ?_
  refine q_putI (ha).1 rfl ?_
  refine q_aload_n rfl ?_
  refine q_iload_n rfl ?_
  refine q_iconst ?_
  refine q_iconst ?_
  obtain ⟨q1, e1, h⟩ := mbind h
  refine q_vV3 mcap_0 rfl rfl (ha).1 rfl (by decide) (ok_X9_lead ha e1) ?_
  refine q_aload_n rfl ?_
  refine q_getR (ha).1 rfl rfl ?_
  refine q_iload_n rfl ?_
  refine q_iconst ?_
  obtain ⟨q2, e2, h⟩ := mbind h
  refine q_sV3 mcap_0 rfl rfl rfl rfl (by decide) (ok_X11_lay (ha).2.2.2.1 e2) ?_
  refine q_aload_n rfl ?_
  refine q_getR (ha).1 rfl rfl ?_
  refine q_iload_n rfl ?_
  refine q_iconst ?_
  obtain ⟨q3, e3, h⟩ := mbind h
  refine q_sV3 mcap_0 rfl rfl rfl rfl (by decide) (ok_X11_lay (ha).2.2.2.2 e3) ?_
  refine q_iload_n rfl ?_
  have h := Option.some.inj h
  subst h
  exact q_iretI mcap_0 rfl rfl
def bk_X11_within_0 : List mI := [(.iload_n 0, 1, 0, 0, 0, []), (.iload_n 1, 1, 0, 0, 0, []), (.if_icmp .lt 12, 3, 14, 0, 0, []), (.iload_n 0, 1, 0, 0, 0, []), (.iload_n 2, 1, 0, 0, 0, []), (.if_icmp .gt 7, 3, 14, 0, 0, []), (.iconst 1, 1, 0, 0, 0, [(1, 0)]), (.goto 4, 3, 15, 0, 0, [])]
theorem ck_X11_within_0 : mChk 125 0 bk_X11_within_0 = true := by decide +kernel
def bk_X11_within_14 : List mI := [(.iconst 0, 1, 0, 0, 0, [(0, 0)])]
theorem ck_X11_within_14 : mChk 125 14 bk_X11_within_14 = true := by decide +kernel
def bk_X11_within_15 : List mI := [(.ireturn, 1, 0, 0, 0, [])]
theorem ck_X11_within_15 : mChk 125 15 bk_X11_within_15 = true := by decide +kernel
def f_X11_within (p0 : Int32) (p1 : Int32) (p2 : Int32) (σ : Sg) : Option (Int32) := (if p0 < p1 then (some (0 : Int32)) else (if p2 < p0 then (some (0 : Int32)) else (some (1 : Int32))))
set_option maxHeartbeats 4000000 in
theorem ok_X11_within {L : Nat} {p0 : Int32} {p1 : Int32} {p2 : Int32} {σ : Sg} {R : Int32} (h : f_X11_within p0 p1 p2 σ = some R) : mEv 0 125 [.int p0, .int p1, .int p2] (mSh, L, σ) (some (.int R)) (mSh, L, σ) := by
  refine mEv.of (by decide) rfl rfl ?_
  unfold f_X11_within at h
  refine mAt.blk bk_X11_within_0 ck_X11_within_0 ?_
  refine q_iload_n rfl ?_
  refine q_iload_n rfl ?_
  refine q_ic_lt (fun c1 => ?_) (fun c1 => ?_)
  · rw [if_pos c1] at h
    refine mAt.blk bk_X11_within_14 ck_X11_within_14 ?_
    refine q_iconst ?_
    refine mAt.blk bk_X11_within_15 ck_X11_within_15 ?_
    have h := Option.some.inj h
    subst h
    exact q_iretZ mcap_0 rfl (by decide) rfl
  · rw [if_neg c1] at h
    refine q_iload_n rfl ?_
    refine q_iload_n rfl ?_
    refine q_ic_gt (fun c2 => ?_) (fun c2 => ?_)
    · rw [if_pos c2] at h
      refine mAt.blk bk_X11_within_14 ck_X11_within_14 ?_
      refine q_iconst ?_
      refine mAt.blk bk_X11_within_15 ck_X11_within_15 ?_
      have h := Option.some.inj h
      subst h
      exact q_iretZ mcap_0 rfl (by decide) rfl
    · rw [if_neg c2] at h
      refine q_iconst ?_
      refine q_goto ?_
      refine mAt.blk bk_X11_within_15 ck_X11_within_15 ?_
      have h := Option.some.inj h
      subst h
      exact q_iretZ mcap_0 rfl (by decide) rfl
def bk_X9_allows_0 : List mI := [(.iload_n 1, 1, 0, 0, 0, []), (.iconst (-1), 1, 0, 0, 0, [((-1), 0)]), (.if_icmp .eq 11, 3, 13, 0, 0, []), (.aload_n 0, 1, 0, 0, 0, []), (.iload_n 1, 1, 0, 0, 0, []), (.invokevirtual 40, 3, 54, 0, 431, []), (.ifCond .eq 17, 3, 27, 0, 0, [])]
theorem ck_X9_allows_0 : mChk 56 0 bk_X9_allows_0 = true := by decide +kernel
def bk_X9_allows_13 : List mI := [(.iload_n 2, 1, 0, 0, 0, []), (.iconst 1, 1, 0, 0, 0, [(1, 0)]), (.bipush 30, 2, 0, 0, 0, [(30, 0)]), (.invokestatic 44, 3, 125, 0, 432, []), (.ifCond .eq 7, 3, 27, 0, 0, []), (.iconst 1, 1, 0, 0, 0, [(1, 0)]), (.goto 4, 3, 28, 0, 0, [])]
theorem ck_X9_allows_13 : mChk 56 13 bk_X9_allows_13 = true := by decide +kernel
def bk_X9_allows_27 : List mI := [(.iconst 0, 1, 0, 0, 0, [(0, 0)])]
theorem ck_X9_allows_27 : mChk 56 27 bk_X9_allows_27 = true := by decide +kernel
def bk_X9_allows_28 : List mI := [(.ireturn, 1, 0, 0, 0, [])]
theorem ck_X9_allows_28 : mChk 56 28 bk_X9_allows_28 = true := by decide +kernel
def c_X9_allows_13 (a : Nat) (σ : Sg) (x2 : Int32) : Option (Int32) := ((f_X11_within x2 (1 : Int32) (30 : Int32) σ).bind fun q1 => (if q1 = 0 then (some (0 : Int32)) else (some (1 : Int32))))
set_option maxHeartbeats 4000000 in
theorem okc_X9_allows_13 {L : Nat} {a : Nat} {σ : Sg} {R : Int32} (ha : P9 a) {x2 : Int32} {pl : mLoc} (h : c_X9_allows_13 a σ x2 = some R) (hl : mlf [none, none, some (.int x2)] pl) : mAt 1 56 (some (.int R), (mSh, L, σ)) 13 pl [] (mSh, L, σ) 0 0 := by
  refine mAt.less hl ?_
  unfold c_X9_allows_13 at h
  refine mAt.blk bk_X9_allows_13 ck_X9_allows_13 ?_
  refine q_iload_n rfl ?_
  refine q_iconst ?_
  refine q_bipush ?_
  obtain ⟨q1, e1, h⟩ := mbind h
  refine q_sI3 mcap_0 rfl rfl rfl rfl (by decide) (ok_X11_within  e1) ?_
  refine q_if_eq (fun c2 => ?_) (fun c2 => ?_)
  · rw [if_pos c2] at h
    refine mAt.blk bk_X9_allows_27 ck_X9_allows_27 ?_
    refine q_iconst ?_
    refine mAt.blk bk_X9_allows_28 ck_X9_allows_28 ?_
    have h := Option.some.inj h
    subst h
    exact q_iretZ mcap_0 rfl (by decide) rfl
  · rw [if_neg c2] at h
    refine q_iconst ?_
    refine q_goto ?_
    refine mAt.blk bk_X9_allows_28 ck_X9_allows_28 ?_
    have h := Option.some.inj h
    subst h
    exact q_iretZ mcap_0 rfl (by decide) rfl
def f_X9_allows (a : Nat) (p0 : Int32) (p1 : Int32) (σ : Sg) : Option (Int32) := (if p0 = (-1 : Int32) then (c_X9_allows_13  a σ p1) else ((f_X9_has a p0 σ).bind fun q4 => (if q4 = 0 then (some (0 : Int32)) else (c_X9_allows_13  a σ p1))))
set_option maxHeartbeats 4000000 in
theorem ok_X9_allows {L : Nat} {a : Nat} {p0 : Int32} {p1 : Int32} {σ : Sg} {R : Int32} (ha : P9 a) (h : f_X9_allows a p0 p1 σ = some R) : mEv 1 56 [.ref a, .int p0, .int p1] (mSh, L, σ) (some (.int R)) (mSh, L, σ) := by
  refine mEv.of (by decide) rfl rfl ?_
  unfold f_X9_allows at h
  refine mAt.blk bk_X9_allows_0 ck_X9_allows_0 ?_
  refine q_iload_n rfl ?_
  refine q_iconst ?_
  refine q_ic_eq (fun c3 => ?_) (fun c3 => ?_)
  · rw [if_pos c3] at h
    exact okc_X9_allows_13 ha h ⟨rfl, trivial⟩
  · rw [if_neg c3] at h
    refine q_aload_n rfl ?_
    refine q_iload_n rfl ?_
    obtain ⟨q4, e4, h⟩ := mbind h
    refine q_vI1 mcap_0 rfl rfl (ha).1 rfl (by decide) (ok_X9_has ha e4) ?_
    refine q_if_eq (fun c5 => ?_) (fun c5 => ?_)
    · rw [if_pos c5] at h
      refine mAt.blk bk_X9_allows_27 ck_X9_allows_27 ?_
      refine q_iconst ?_
      refine mAt.blk bk_X9_allows_28 ck_X9_allows_28 ?_
      have h := Option.some.inj h
      subst h
      exact q_iretZ mcap_0 rfl (by decide) rfl
    · rw [if_neg c5] at h
      exact okc_X9_allows_13 ha h ⟨rfl, trivial⟩
def bk_X9_leastSum_0 : List mI := [(.iload_n 1, 1, 0, 0, 0, []), (.iload_n 2, 1, 0, 0, 0, []), (.if_icmp .ne 5, 3, 7, 0, 0, []), (.iconst 0, 1, 0, 0, 0, [(0, 0)]), (.ireturn, 1, 0, 0, 0, [])]
theorem ck_X9_leastSum_0 : mChk 61 0 bk_X9_leastSum_0 = true := by decide +kernel
def bk_X9_leastSum_7 : List mI := [(.iload_n 1, 1, 0, 0, 0, []), (.istore 5, 2, 0, 0, 0, []), (.iconst 0, 1, 0, 0, 0, [(0, 0)]), (.istore 6, 2, 0, 0, 0, []), (.iconst 0, 1, 0, 0, 0, [(0, 0)]), (.istore 7, 2, 0, 0, 0, [])]
theorem ck_X9_leastSum_7 : mChk 61 7 bk_X9_leastSum_7 = true := by decide +kernel
def bk_X9_leastSum_16 : List mI := [(.iload 7, 2, 0, 0, 0, []), (.aload_n 0, 1, 0, 0, 0, []), (.getfield 28, 3, 9, 4, 195, []), (.if_icmp .ge 60, 3, 82, 0, 0, []), (.iload 5, 2, 0, 0, 0, []), (.iload_n 2, 1, 0, 0, 0, []), (.if_icmp .eq 54, 3, 82, 0, 0, []), (.iload 5, 2, 0, 0, 0, []), (.ifCond .lt 49, 3, 82, 0, 0, []), (.aload_n 0, 1, 0, 0, 0, []), (.iload 5, 2, 0, 0, 0, []), (.invokevirtual 56, 3, 58, 0, 728, []), (.istore 8, 2, 0, 0, 0, []), (.iload 6, 2, 0, 0, 0, []), (.iload 4, 2, 0, 0, 0, []), (.ifCond .eq 15, 3, 63, 0, 0, []), (.aload_n 0, 1, 0, 0, 0, []), (.getfield 18, 3, 9, 2, 188, []), (.iload 8, 2, 0, 0, 0, []), (.invokestatic 48, 3, 130, 0, 439, []), (.goto 9, 3, 69, 0, 0, [])]
theorem ck_X9_leastSum_16 : mChk 61 16 bk_X9_leastSum_16 = true := by decide +kernel
def bk_X9_leastSum_63 : List mI := [(.aload_n 0, 1, 0, 0, 0, []), (.iload 5, 2, 0, 0, 0, []), (.invokevirtual 52, 3, 59, 0, 729, [])]
theorem ck_X9_leastSum_63 : mChk 61 63 bk_X9_leastSum_63 = true := by decide +kernel
def bk_X9_leastSum_69 : List mI := [(.iadd, 1, 0, 0, 0, []), (.istore 6, 2, 0, 0, 0, []), (.iload 8, 2, 0, 0, 0, []), (.istore 5, 2, 0, 0, 0, []), (.iinc 7 1, 3, 0, 0, 0, [(1, 0)]), (.goto (-63), 3, 16, 0, 0, [])]
theorem ck_X9_leastSum_69 : mChk 61 69 bk_X9_leastSum_69 = true := by decide +kernel
def bk_X9_leastSum_82 : List mI := [(.iload 5, 2, 0, 0, 0, []), (.iload_n 2, 1, 0, 0, 0, []), (.if_icmp .ne 12, 3, 97, 0, 0, []), (.iload 6, 2, 0, 0, 0, []), (.iload_n 3, 1, 0, 0, 0, []), (.invokestatic 59, 3, 997, 0, 730, []), (.goto 4, 3, 98, 0, 0, [])]
theorem ck_X9_leastSum_82 : mChk 61 82 bk_X9_leastSum_82 = true := by decide +kernel
def bk_X9_leastSum_97 : List mI := [(.iload_n 3, 1, 0, 0, 0, [])]
theorem ck_X9_leastSum_97 : mChk 61 97 bk_X9_leastSum_97 = true := by decide +kernel
def bk_X9_leastSum_98 : List mI := [(.ireturn, 1, 0, 0, 0, [])]
theorem ck_X9_leastSum_98 : mChk 61 98 bk_X9_leastSum_98 = true := by decide +kernel
def c_X9_leastSum_69 (k16 : Int32 → Int32 → Int32 → Int32 → Int32 → Int32 → Option (Int32)) (a : Nat) (σ : Sg) (x2 : Int32) (x3 : Int32) (x4 : Int32) (x7 : Int32) (x8 : Int32) (s0 : Int32) (s1 : Int32) : Option (Int32) := (k16 x2 x3 x4 x8 (s0 + s1) (x7 + (1 : Int32)))
set_option maxHeartbeats 4000000 in
theorem okc_X9_leastSum_69 {L : Nat} {k16 : Int32 → Int32 → Int32 → Int32 → Int32 → Int32 → Option (Int32)} {a : Nat} {σ : Sg} {R : Int32} (ha : P9 a) (Hk16 : ∀ (x2 : Int32) (x3 : Int32) (x4 : Int32) (x5 : Int32) (x6 : Int32) (x7 : Int32) (pl : mLoc), k16 x2 x3 x4 x5 x6 x7 = some R → mlf [some (.ref a), none, some (.int x2), some (.int x3), some (.int x4), some (.int x5), some (.int x6), some (.int x7), none] pl → mAt 2 61 (some (.int R), (mSh, L, σ)) 16 pl [] (mSh, L, σ) 0 0) {x2 : Int32} {x3 : Int32} {x4 : Int32} {x7 : Int32} {x8 : Int32} {s0 : Int32} {s1 : Int32} {pl : mLoc} (h : c_X9_leastSum_69 k16 a σ x2 x3 x4 x7 x8 s0 s1 = some R) (hl : mlf [some (.ref a), none, some (.int x2), some (.int x3), some (.int x4), none, none, some (.int x7), some (.int x8)] pl) : mAt 2 61 (some (.int R), (mSh, L, σ)) 69 pl [.int s1, .int s0] (mSh, L, σ) 0 0 := by
  refine mAt.less hl ?_
  unfold c_X9_leastSum_69 at h
  refine mAt.blk bk_X9_leastSum_69 ck_X9_leastSum_69 ?_
  refine q_iadd ?_
  refine q_istore rfl rfl ?_
  refine q_iload rfl ?_
  refine q_istore rfl rfl ?_
  refine q_iinc rfl rfl ?_
  refine q_goto ?_
  exact Hk16 _ _ _ _ _ _ _  h ⟨rfl, rfl, rfl, rfl, rfl, rfl, rfl, trivial⟩
def c_X9_leastSum_82 (a : Nat) (σ : Sg) (x2 : Int32) (x3 : Int32) (x5 : Int32) (x6 : Int32) : Option (Int32) := (if x5 = x2 then (some (if x3 < x6 then x3 else x6)) else (some x3))
set_option maxHeartbeats 4000000 in
theorem okc_X9_leastSum_82 {L : Nat} {a : Nat} {σ : Sg} {R : Int32} (ha : P9 a) {x2 : Int32} {x3 : Int32} {x5 : Int32} {x6 : Int32} {pl : mLoc} (h : c_X9_leastSum_82 a σ x2 x3 x5 x6 = some R) (hl : mlf [none, none, some (.int x2), some (.int x3), none, some (.int x5), some (.int x6), none, none] pl) : mAt 2 61 (some (.int R), (mSh, L, σ)) 82 pl [] (mSh, L, σ) 0 0 := by
  refine mAt.less hl ?_
  unfold c_X9_leastSum_82 at h
  refine mAt.blk bk_X9_leastSum_82 ck_X9_leastSum_82 ?_
  refine q_iload rfl ?_
  refine q_iload_n rfl ?_
  refine q_ic_ne (fun c8 => ?_) (fun c8 => ?_)
  · rw [if_pos c8] at h
    refine q_iload rfl ?_
    refine q_iload_n rfl ?_
    refine q_min rfl (by decide) mcap_0 ?_
    refine q_goto ?_
    refine mAt.blk bk_X9_leastSum_98 ck_X9_leastSum_98 ?_
    have h := Option.some.inj h
    subst h
    exact q_iretI mcap_0 rfl rfl
  · rw [if_neg c8] at h
    refine mAt.blk bk_X9_leastSum_97 ck_X9_leastSum_97 ?_
    refine q_iload_n rfl ?_
    refine mAt.blk bk_X9_leastSum_98 ck_X9_leastSum_98 ?_
    have h := Option.some.inj h
    subst h
    exact q_iretI mcap_0 rfl rfl
def c_X9_leastSum_16 (a : Nat) (σ : Sg) : Nat → Int32 → Int32 → Int32 → Int32 → Int32 → Int32 → Option (Int32)
  | 0, _, _, _, _, _, _ => none
  | n + 1, x2, x3, x4, x5, x6, x7 => (if (σ a 4) ≤ x7 then (c_X9_leastSum_82  a σ x2 x3 x5 x6) else (if x5 = x2 then (c_X9_leastSum_82  a σ x2 x3 x5 x6) else (if x5 < 0 then (c_X9_leastSum_82  a σ x2 x3 x5 x6) else ((f_X9_leadsTo a x5 σ).bind fun q4 => (if x4 = 0 then ((f_X9_daysOf a x5 σ).bind fun q6 => (c_X9_leastSum_69 (c_X9_leastSum_16 a σ n) a σ x2 x3 x4 x7 q4 x6 q6)) else ((f_X11_pick (a + 3) 9 q4 σ).bind fun q7 => (c_X9_leastSum_69 (c_X9_leastSum_16 a σ n) a σ x2 x3 x4 x7 q4 x6 q7)))))))
set_option maxHeartbeats 4000000 in
theorem okc_X9_leastSum_16 {L : Nat} {a : Nat} {σ : Sg} {R : Int32} (ha : P9 a) {n : Nat} {x2 : Int32} {x3 : Int32} {x4 : Int32} {x5 : Int32} {x6 : Int32} {x7 : Int32} {pl : mLoc} (h : c_X9_leastSum_16 a σ n x2 x3 x4 x5 x6 x7 = some R) (hl : mlf [some (.ref a), none, some (.int x2), some (.int x3), some (.int x4), some (.int x5), some (.int x6), some (.int x7), none] pl) : mAt 2 61 (some (.int R), (mSh, L, σ)) 16 pl [] (mSh, L, σ) 0 0 := by
  induction n generalizing x2 x3 x4 x5 x6 x7 pl with
  | zero =>
    rw [c_X9_leastSum_16.eq_1] at h
    cases h
  | succ n ih =>
    refine mAt.less hl ?_
    rw [c_X9_leastSum_16.eq_2] at h
    refine mAt.blk bk_X9_leastSum_16 ck_X9_leastSum_16 ?_
    refine q_iload rfl ?_
    refine q_aload_n rfl ?_
    refine q_getI (ha).1 rfl ?_
    refine q_ic_ge (fun c1 => ?_) (fun c1 => ?_)
    · rw [if_pos c1] at h
      exact okc_X9_leastSum_82 ha h ⟨rfl, rfl, rfl, rfl, trivial⟩
    · rw [if_neg c1] at h
      refine q_iload rfl ?_
      refine q_iload_n rfl ?_
      refine q_ic_eq (fun c2 => ?_) (fun c2 => ?_)
      · rw [if_pos c2] at h
        exact okc_X9_leastSum_82 ha h ⟨rfl, rfl, rfl, rfl, trivial⟩
      · rw [if_neg c2] at h
        refine q_iload rfl ?_
        refine q_if_lt (fun c3 => ?_) (fun c3 => ?_)
        · rw [if_pos c3] at h
          exact okc_X9_leastSum_82 ha h ⟨rfl, rfl, rfl, rfl, trivial⟩
        · rw [if_neg c3] at h
          refine q_aload_n rfl ?_
          refine q_iload rfl ?_
          obtain ⟨q4, e4, h⟩ := mbind h
          refine q_vI1 mcap_0 rfl rfl (ha).1 rfl (by decide) (ok_X9_leadsTo ha e4) ?_
          refine q_istore rfl rfl ?_
          refine q_iload rfl ?_
          refine q_iload rfl ?_
          refine q_if_eq (fun c5 => ?_) (fun c5 => ?_)
          · rw [if_pos c5] at h
            refine mAt.blk bk_X9_leastSum_63 ck_X9_leastSum_63 ?_
            refine q_aload_n rfl ?_
            refine q_iload rfl ?_
            obtain ⟨q6, e6, h⟩ := mbind h
            refine q_vI1 mcap_0 rfl rfl (ha).1 rfl (by decide) (ok_X9_daysOf ha e6) ?_
            exact okc_X9_leastSum_69 ha (fun _ _ _ _ _ _ _ e hl => ih  e hl) h ⟨rfl, rfl, rfl, rfl, rfl, rfl, trivial⟩
          · rw [if_neg c5] at h
            refine q_aload_n rfl ?_
            refine q_getR (ha).1 rfl rfl ?_
            refine q_iload rfl ?_
            obtain ⟨q7, e7, h⟩ := mbind h
            refine q_sI2 mcap_0 rfl rfl rfl rfl (by decide) (ok_X11_pick (mrd (ha).2.2.2.1) e7) ?_
            refine q_goto ?_
            exact okc_X9_leastSum_69 ha (fun _ _ _ _ _ _ _ e hl => ih  e hl) h ⟨rfl, rfl, rfl, rfl, rfl, rfl, trivial⟩
def f_X9_leastSum (a : Nat) (p0 : Int32) (p1 : Int32) (p2 : Int32) (p3 : Int32) (σ : Sg) : Option (Int32) := (if p0 = p1 then (some (0 : Int32)) else (c_X9_leastSum_16  a σ 1000 p1 p2 p3 p0 (0 : Int32) (0 : Int32)))
set_option maxHeartbeats 4000000 in
theorem ok_X9_leastSum {L : Nat} {a : Nat} {p0 : Int32} {p1 : Int32} {p2 : Int32} {p3 : Int32} {σ : Sg} {R : Int32} (ha : P9 a) (h : f_X9_leastSum a p0 p1 p2 p3 σ = some R) : mEv 2 61 [.ref a, .int p0, .int p1, .int p2, .int p3] (mSh, L, σ) (some (.int R)) (mSh, L, σ) := by
  refine mEv.of (by decide) rfl rfl ?_
  unfold f_X9_leastSum at h
  refine mAt.blk bk_X9_leastSum_0 ck_X9_leastSum_0 ?_
  refine q_iload_n rfl ?_
  refine q_iload_n rfl ?_
  refine q_ic_ne (fun c9 => ?_) (fun c9 => ?_)
  · rw [if_pos c9] at h
    refine q_iconst ?_
    have h := Option.some.inj h
    subst h
    exact q_iretI mcap_0 rfl rfl
  · rw [if_neg c9] at h
    refine mAt.blk bk_X9_leastSum_7 ck_X9_leastSum_7 ?_
    refine q_iload_n rfl ?_
    refine q_istore rfl rfl ?_
    refine q_iconst ?_
    refine q_istore rfl rfl ?_
    refine q_iconst ?_
    refine q_istore rfl rfl ?_
    exact okc_X9_leastSum_16 ha h ⟨rfl, rfl, rfl, rfl, rfl, rfl, rfl, trivial⟩
