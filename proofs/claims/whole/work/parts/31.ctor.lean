theorem mz_le {σ : Sg} {n m : Nat} (h : ∀ k, n ≤ k → k < 1000 → σ k = fun _ => 0) (hm : n ≤ m) : ∀ k, m ≤ k → k < 1000 → σ k = fun _ => 0 := fun k h1 h2 => h k (Nat.le_trans hm h1) h2
theorem mz_put {σ : Sg} {n a j : Nat} {v : Int32} (h : ∀ k, n ≤ k → k < 1000 → σ k = fun _ => 0) (ha : a < n) : ∀ k, n ≤ k → k < 1000 → mup σ a j v k = fun _ => 0 := by
  intro k h1 h2
  have e : k ≠ a := by omega
  simp only [mup, mrow, if_neg e]
  exact h k h1 h2
def bk_L_law_0 : List mI := [(.new 7, 3, 11, 0, 76, []), (.dup, 1, 0, 0, 0, []), (.invokespecial 9, 3, 80, 0, 78, []), (.astore_n 1, 1, 0, 0, 0, []), (.new 10, 3, 12, 0, 931, []), (.dup, 1, 0, 0, 0, []), (.invokespecial 12, 3, 133, 0, 933, []), (.astore_n 2, 1, 0, 0, 0, []), (.iconst 0, 1, 0, 0, 0, [(0, 0)]), (.istore_n 3, 1, 0, 0, 0, [])]
theorem ck_L_law_0 : mChk 231 0 bk_L_law_0 = true := by decide +kernel
def bk_X11_init_0 : List mI := [(.aload_n 0, 1, 0, 0, 0, []), (.invokespecial 1, 3, 999, 0, 81, []), (.aload_n 0, 1, 0, 0, 0, []), (.new 7, 3, 1, 0, 84, []), (.dup, 1, 0, 0, 0, []), (.invokespecial 9, 3, 5, 0, 86, []), (.putfield 10, 3, 11, 3, 364, []), (.aload_n 0, 1, 0, 0, 0, []), (.new 7, 3, 1, 0, 84, []), (.dup, 1, 0, 0, 0, []), (.invokespecial 9, 3, 5, 0, 86, []), (.putfield 16, 3, 11, 4, 365, []), (.aload_n 0, 1, 0, 0, 0, []), (.new 19, 3, 10, 0, 174, []), (.dup, 1, 0, 0, 0, []), (.aload_n 0, 1, 0, 0, 0, []), (.getfield 10, 3, 11, 3, 364, []), (.getfield 21, 3, 1, 1, 152, []), (.aload_n 0, 1, 0, 0, 0, []), (.getfield 10, 3, 11, 3, 364, []), (.getfield 25, 3, 1, 2, 154, []), (.invokespecial 28, 3, 67, 0, 176, []), (.putfield 31, 3, 11, 0, 361, []), (.aload_n 0, 1, 0, 0, 0, []), (.new 19, 3, 10, 0, 174, []), (.dup, 1, 0, 0, 0, []), (.aload_n 0, 1, 0, 0, 0, []), (.getfield 10, 3, 11, 3, 364, []), (.getfield 21, 3, 1, 1, 152, []), (.aload_n 0, 1, 0, 0, 0, []), (.getfield 10, 3, 11, 3, 364, []), (.getfield 25, 3, 1, 2, 154, []), (.invokespecial 28, 3, 67, 0, 176, []), (.putfield 35, 3, 11, 1, 362, []), (.aload_n 0, 1, 0, 0, 0, []), (.new 19, 3, 10, 0, 174, []), (.dup, 1, 0, 0, 0, []), (.aload_n 0, 1, 0, 0, 0, []), (.getfield 16, 3, 11, 4, 365, []), (.getfield 21, 3, 1, 1, 152, []), (.aload_n 0, 1, 0, 0, 0, []), (.getfield 16, 3, 11, 4, 365, []), (.getfield 25, 3, 1, 2, 154, []), (.invokespecial 28, 3, 67, 0, 176, []), (.putfield 38, 3, 11, 2, 363, []), (.aload_n 0, 1, 0, 0, 0, []), (.new 41, 3, 3, 0, 268, []), (.dup, 1, 0, 0, 0, []), (.aload_n 0, 1, 0, 0, 0, []), (.getfield 10, 3, 11, 3, 364, []), (.getfield 43, 3, 1, 3, 156, []), (.invokespecial 47, 3, 13, 0, 270, []), (.putfield 50, 3, 11, 5, 366, []), (.aload_n 0, 1, 0, 0, 0, []), (.new 54, 3, 0, 0, 290, []), (.dup, 1, 0, 0, 0, []), (.invokespecial 56, 3, 0, 0, 292, []), (.putfield 57, 3, 11, 6, 367, []), (.aload_n 0, 1, 0, 0, 0, []), (.new 61, 3, 8, 0, 317, []), (.dup, 1, 0, 0, 0, []), (.invokespecial 63, 3, 47, 0, 319, []), (.putfield 64, 3, 11, 7, 368, []), (.aload_n 0, 1, 0, 0, 0, []), (.iconst 4, 1, 0, 0, 0, [(4, 0)]), (.anewarray 68, 3, 0, 0, 341, []), (.putfield 70, 3, 11, 8, 369, []), (.iconst 0, 1, 0, 0, 0, [(0, 0)]), (.istore_n 1, 1, 0, 0, 0, [])]
theorem ck_X11_init_0 : mChk 80 0 bk_X11_init_0 = true := by decide +kernel
def bk_X1_init_0 : List mI := [(.aload_n 0, 1, 0, 0, 0, []), (.invokespecial 3, 3, 999, 0, 89, []), (.aload_n 0, 1, 0, 0, 0, []), (.new 9, 3, 2, 0, 90, []), (.dup, 1, 0, 0, 0, []), (.invokespecial 11, 3, 8, 0, 92, []), (.putfield 12, 3, 1, 0, 149, []), (.aload_n 0, 1, 0, 0, 0, []), (.new 18, 3, 6, 0, 111, []), (.dup, 1, 0, 0, 0, []), (.invokespecial 20, 3, 31, 0, 113, []), (.putfield 21, 3, 1, 1, 151, []), (.aload_n 0, 1, 0, 0, 0, []), (.new 18, 3, 6, 0, 111, []), (.dup, 1, 0, 0, 0, []), (.invokespecial 20, 3, 31, 0, 113, []), (.putfield 25, 3, 1, 2, 153, []), (.aload_n 0, 1, 0, 0, 0, []), (.new 28, 3, 4, 0, 129, []), (.dup, 1, 0, 0, 0, []), (.bipush 50, 2, 0, 0, 0, [(50, 0)]), (.invokespecial 30, 3, 24, 0, 131, []), (.putfield 33, 3, 1, 3, 155, []), (.aload_n 0, 1, 0, 0, 0, []), (.new 28, 3, 4, 0, 129, []), (.dup, 1, 0, 0, 0, []), (.bipush 20, 2, 0, 0, 0, [(20, 0)]), (.invokespecial 30, 3, 24, 0, 131, []), (.putfield 37, 3, 1, 4, 157, []), (.aload_n 0, 1, 0, 0, 0, []), (.iconst 1, 1, 0, 0, 0, [(1, 0)]), (.putfield 40, 3, 1, 5, 159, []), (.return_, 1, 0, 0, 0, [])]
theorem ck_X1_init_0 : mChk 5 0 bk_X1_init_0 = true := by decide +kernel
def bk_X2_init_0 : List mI := [(.aload_n 0, 1, 0, 0, 0, []), (.invokespecial 3, 3, 999, 0, 95, []), (.aload_n 0, 1, 0, 0, 0, []), (.bipush 12, 2, 0, 0, 0, [(12, 0)]), (.newarray .int, 2, 0, 0, 0, []), (.putfield 9, 3, 2, 0, 96, []), (.aload_n 0, 1, 0, 0, 0, []), (.bipush 12, 2, 0, 0, 0, [(12, 0)]), (.newarray .int, 2, 0, 0, 0, []), (.putfield 15, 3, 2, 1, 97, []), (.aload_n 0, 1, 0, 0, 0, []), (.bipush 12, 2, 0, 0, 0, [(12, 0)]), (.newarray .int, 2, 0, 0, 0, []), (.putfield 18, 3, 2, 2, 98, []), (.return_, 1, 0, 0, 0, [])]
theorem ck_X2_init_0 : mChk 8 0 bk_X2_init_0 = true := by decide +kernel
set_option maxHeartbeats 4000000 in
set_option maxRecDepth 100000 in
theorem kn_4 {L : Nat} {σ : Sg} (hz : ∀ k, 3 ≤ k → k < 1000 → σ k = fun _ => 0) : mEv 1 8 [.ref 2] ([(0, 11, [none, none, none, none, none, none, none, none, none, none, none]), (0, 1, [none, none, none, none, none, none]), (0, 2, [none, none, none, none])], L, σ) none ([(0, 11, [none, none, none, none, none, none, none, none, none, none, none]), (0, 1, [none, none, none, none, none, none]), (0, 2, [some 3, some 4, some 5, none]), (1, 12, []), (1, 12, []), (1, 12, [])], L, σ) := by
  refine mEv.of (by decide) rfl rfl ?_
  refine mAt.blk bk_X2_init_0 ck_X2_init_0 ?_
  refine q_aload_n rfl ?_
  refine q_oinit rfl (by decide) ?_
  refine q_aload_n rfl ?_
  refine q_bipush ?_
  refine q_newa (N := 12) (by decide) (by decide) (by decide) (by decide) (by decide) (z := 3) rfl ((mz_le hz (by decide : 3 ≤ 3)) 3 (by decide) (by decide)) ?_
  refine q_putR rfl rfl rfl ?_
  refine q_aload_n rfl ?_
  refine q_bipush ?_
  refine q_newa (N := 12) (by decide) (by decide) (by decide) (by decide) (by decide) (z := 4) rfl ((mz_le hz (by decide : 3 ≤ 4)) 4 (by decide) (by decide)) ?_
  refine q_putR rfl rfl rfl ?_
  refine q_aload_n rfl ?_
  refine q_bipush ?_
  refine q_newa (N := 12) (by decide) (by decide) (by decide) (by decide) (by decide) (z := 5) rfl ((mz_le hz (by decide : 3 ≤ 5)) 5 (by decide) (by decide)) ?_
  refine q_putR rfl rfl rfl ?_
  exact q_vret (by decide) rfl rfl
def bk_X6_init_0 : List mI := [(.aload_n 0, 1, 0, 0, 0, []), (.invokespecial 3, 3, 999, 0, 116, []), (.aload_n 0, 1, 0, 0, 0, []), (.bipush 50, 2, 0, 0, 0, [(50, 0)]), (.newarray .int, 2, 0, 0, 0, []), (.putfield 9, 3, 6, 0, 117, []), (.aload_n 0, 1, 0, 0, 0, []), (.bipush 50, 2, 0, 0, 0, [(50, 0)]), (.newarray .int, 2, 0, 0, 0, []), (.putfield 15, 3, 6, 1, 118, []), (.return_, 1, 0, 0, 0, [])]
theorem ck_X6_init_0 : mChk 31 0 bk_X6_init_0 = true := by decide +kernel
set_option maxHeartbeats 4000000 in
set_option maxRecDepth 100000 in
theorem kn_5 {L : Nat} {σ : Sg} (hz : ∀ k, 7 ≤ k → k < 1000 → σ k = fun _ => 0) : mEv 1 31 [.ref 6] ([(0, 11, [none, none, none, none, none, none, none, none, none, none, none]), (0, 1, [some 2, none, none, none, none, none]), (0, 2, [some 3, some 4, some 5, none]), (1, 12, []), (1, 12, []), (1, 12, []), (0, 6, [none, none, none])], L, σ) none ([(0, 11, [none, none, none, none, none, none, none, none, none, none, none]), (0, 1, [some 2, none, none, none, none, none]), (0, 2, [some 3, some 4, some 5, none]), (1, 12, []), (1, 12, []), (1, 12, []), (0, 6, [some 7, some 8, none]), (1, 50, []), (1, 50, [])], L, σ) := by
  refine mEv.of (by decide) rfl rfl ?_
  refine mAt.blk bk_X6_init_0 ck_X6_init_0 ?_
  refine q_aload_n rfl ?_
  refine q_oinit rfl (by decide) ?_
  refine q_aload_n rfl ?_
  refine q_bipush ?_
  refine q_newa (N := 50) (by decide) (by decide) (by decide) (by decide) (by decide) (z := 7) rfl ((mz_le hz (by decide : 7 ≤ 7)) 7 (by decide) (by decide)) ?_
  refine q_putR rfl rfl rfl ?_
  refine q_aload_n rfl ?_
  refine q_bipush ?_
  refine q_newa (N := 50) (by decide) (by decide) (by decide) (by decide) (by decide) (z := 8) rfl ((mz_le hz (by decide : 7 ≤ 8)) 8 (by decide) (by decide)) ?_
  refine q_putR rfl rfl rfl ?_
  exact q_vret (by decide) rfl rfl
set_option maxHeartbeats 4000000 in
set_option maxRecDepth 100000 in
theorem kn_6 {L : Nat} {σ : Sg} (hz : ∀ k, 10 ≤ k → k < 1000 → σ k = fun _ => 0) : mEv 1 31 [.ref 9] ([(0, 11, [none, none, none, none, none, none, none, none, none, none, none]), (0, 1, [some 2, some 6, none, none, none, none]), (0, 2, [some 3, some 4, some 5, none]), (1, 12, []), (1, 12, []), (1, 12, []), (0, 6, [some 7, some 8, none]), (1, 50, []), (1, 50, []), (0, 6, [none, none, none])], L, σ) none ([(0, 11, [none, none, none, none, none, none, none, none, none, none, none]), (0, 1, [some 2, some 6, none, none, none, none]), (0, 2, [some 3, some 4, some 5, none]), (1, 12, []), (1, 12, []), (1, 12, []), (0, 6, [some 7, some 8, none]), (1, 50, []), (1, 50, []), (0, 6, [some 10, some 11, none]), (1, 50, []), (1, 50, [])], L, σ) := by
  refine mEv.of (by decide) rfl rfl ?_
  refine mAt.blk bk_X6_init_0 ck_X6_init_0 ?_
  refine q_aload_n rfl ?_
  refine q_oinit rfl (by decide) ?_
  refine q_aload_n rfl ?_
  refine q_bipush ?_
  refine q_newa (N := 50) (by decide) (by decide) (by decide) (by decide) (by decide) (z := 10) rfl ((mz_le hz (by decide : 10 ≤ 10)) 10 (by decide) (by decide)) ?_
  refine q_putR rfl rfl rfl ?_
  refine q_aload_n rfl ?_
  refine q_bipush ?_
  refine q_newa (N := 50) (by decide) (by decide) (by decide) (by decide) (by decide) (z := 11) rfl ((mz_le hz (by decide : 10 ≤ 11)) 11 (by decide) (by decide)) ?_
  refine q_putR rfl rfl rfl ?_
  exact q_vret (by decide) rfl rfl
def bk_X4_init_0 : List mI := [(.aload_n 0, 1, 0, 0, 0, []), (.invokespecial 1, 3, 999, 0, 134, []), (.aload_n 0, 1, 0, 0, 0, []), (.iconst 0, 1, 0, 0, 0, [(0, 0)]), (.iload_n 1, 1, 0, 0, 0, []), (.invokestatic 7, 3, 996, 0, 135, []), (.newarray .int, 2, 0, 0, 0, []), (.putfield 13, 3, 4, 0, 138, []), (.return_, 1, 0, 0, 0, [])]
theorem ck_X4_init_0 : mChk 24 0 bk_X4_init_0 = true := by decide +kernel
set_option maxHeartbeats 4000000 in
set_option maxRecDepth 100000 in
theorem kn_7 {L : Nat} {σ : Sg} (hz : ∀ k, 13 ≤ k → k < 1000 → σ k = fun _ => 0) : mEv 1 24 [.ref 12, .int (50 : Int32)] ([(0, 11, [none, none, none, none, none, none, none, none, none, none, none]), (0, 1, [some 2, some 6, some 9, none, none, none]), (0, 2, [some 3, some 4, some 5, none]), (1, 12, []), (1, 12, []), (1, 12, []), (0, 6, [some 7, some 8, none]), (1, 50, []), (1, 50, []), (0, 6, [some 10, some 11, none]), (1, 50, []), (1, 50, []), (0, 4, [none, none])], L, σ) none ([(0, 11, [none, none, none, none, none, none, none, none, none, none, none]), (0, 1, [some 2, some 6, some 9, none, none, none]), (0, 2, [some 3, some 4, some 5, none]), (1, 12, []), (1, 12, []), (1, 12, []), (0, 6, [some 7, some 8, none]), (1, 50, []), (1, 50, []), (0, 6, [some 10, some 11, none]), (1, 50, []), (1, 50, []), (0, 4, [some 13, none]), (1, 50, [])], L, σ) := by
  refine mEv.of (by decide) rfl rfl ?_
  refine mAt.blk bk_X4_init_0 ck_X4_init_0 ?_
  refine q_aload_n rfl ?_
  refine q_oinit rfl (by decide) ?_
  refine q_aload_n rfl ?_
  refine q_iconst ?_
  refine q_iload_n rfl ?_
  refine q_max rfl (by decide) (by decide) ?_
  rw [show (if (0 : Int32) < (50 : Int32) then (50 : Int32) else (0 : Int32)) = (50 : Int32) by decide]
  refine q_newa (N := 50) (by decide) (by decide) (by decide) (by decide) (by decide) (z := 13) rfl ((mz_le hz (by decide : 13 ≤ 13)) 13 (by decide) (by decide)) ?_
  refine q_putR rfl rfl rfl ?_
  exact q_vret (by decide) rfl rfl
set_option maxHeartbeats 4000000 in
set_option maxRecDepth 100000 in
theorem kn_8 {L : Nat} {σ : Sg} (hz : ∀ k, 15 ≤ k → k < 1000 → σ k = fun _ => 0) : mEv 1 24 [.ref 14, .int (20 : Int32)] ([(0, 11, [none, none, none, none, none, none, none, none, none, none, none]), (0, 1, [some 2, some 6, some 9, some 12, none, none]), (0, 2, [some 3, some 4, some 5, none]), (1, 12, []), (1, 12, []), (1, 12, []), (0, 6, [some 7, some 8, none]), (1, 50, []), (1, 50, []), (0, 6, [some 10, some 11, none]), (1, 50, []), (1, 50, []), (0, 4, [some 13, none]), (1, 50, []), (0, 4, [none, none])], L, σ) none ([(0, 11, [none, none, none, none, none, none, none, none, none, none, none]), (0, 1, [some 2, some 6, some 9, some 12, none, none]), (0, 2, [some 3, some 4, some 5, none]), (1, 12, []), (1, 12, []), (1, 12, []), (0, 6, [some 7, some 8, none]), (1, 50, []), (1, 50, []), (0, 6, [some 10, some 11, none]), (1, 50, []), (1, 50, []), (0, 4, [some 13, none]), (1, 50, []), (0, 4, [some 15, none]), (1, 20, [])], L, σ) := by
  refine mEv.of (by decide) rfl rfl ?_
  refine mAt.blk bk_X4_init_0 ck_X4_init_0 ?_
  refine q_aload_n rfl ?_
  refine q_oinit rfl (by decide) ?_
  refine q_aload_n rfl ?_
  refine q_iconst ?_
  refine q_iload_n rfl ?_
  refine q_max rfl (by decide) (by decide) ?_
  rw [show (if (0 : Int32) < (20 : Int32) then (20 : Int32) else (0 : Int32)) = (20 : Int32) by decide]
  refine q_newa (N := 20) (by decide) (by decide) (by decide) (by decide) (by decide) (z := 15) rfl ((mz_le hz (by decide : 15 ≤ 15)) 15 (by decide) (by decide)) ?_
  refine q_putR rfl rfl rfl ?_
  exact q_vret (by decide) rfl rfl
set_option maxHeartbeats 4000000 in
set_option maxRecDepth 100000 in
theorem kn_3 {L : Nat} {σ : Sg} (hz : ∀ k, 2 ≤ k → k < 1000 → σ k = fun _ => 0) : mEv 2 5 [.ref 1] ([(0, 11, [none, none, none, none, none, none, none, none, none, none, none]), (0, 1, [none, none, none, none, none, none])], L, σ) none ([(0, 11, [none, none, none, none, none, none, none, none, none, none, none]), (0, 1, [some 2, some 6, some 9, some 12, some 14, none]), (0, 2, [some 3, some 4, some 5, none]), (1, 12, []), (1, 12, []), (1, 12, []), (0, 6, [some 7, some 8, none]), (1, 50, []), (1, 50, []), (0, 6, [some 10, some 11, none]), (1, 50, []), (1, 50, []), (0, 4, [some 13, none]), (1, 50, []), (0, 4, [some 15, none]), (1, 20, [])], L, (mup σ 1 5 (1 : Int32))) := by
  refine mEv.of (by decide) rfl rfl ?_
  refine mAt.blk bk_X1_init_0 ck_X1_init_0 ?_
  refine q_aload_n rfl ?_
  refine q_oinit rfl (by decide) ?_
  refine q_aload_n rfl ?_
  refine q_new (by decide) (by decide) (z := 2) rfl ((mz_le hz (by decide : 2 ≤ 2)) 2 (by decide) (by decide)) (k0 := 4) rfl ?_
  refine q_dupR ?_
  refine q_init0 rfl rfl (cu' := 4) (su' := 40) rfl rfl (by decide) rfl (by decide) (kn_4 (mz_le hz (by decide : 2 ≤ 3))) ?_
  refine q_putR rfl rfl rfl ?_
  refine q_aload_n rfl ?_
  refine q_new (by decide) (by decide) (z := 6) rfl ((mz_le hz (by decide : 2 ≤ 6)) 6 (by decide) (by decide)) (k0 := 3) rfl ?_
  refine q_dupR ?_
  refine q_init0 rfl rfl (cu' := 7) (su' := 143) rfl rfl (by decide) rfl (by decide) (kn_5 (mz_le hz (by decide : 2 ≤ 7))) ?_
  refine q_putR rfl rfl rfl ?_
  refine q_aload_n rfl ?_
  refine q_new (by decide) (by decide) (z := 9) rfl ((mz_le hz (by decide : 2 ≤ 9)) 9 (by decide) (by decide)) (k0 := 3) rfl ?_
  refine q_dupR ?_
  refine q_init0 rfl rfl (cu' := 10) (su' := 246) rfl rfl (by decide) rfl (by decide) (kn_6 (mz_le hz (by decide : 2 ≤ 10))) ?_
  refine q_putR rfl rfl rfl ?_
  refine q_aload_n rfl ?_
  refine q_new (by decide) (by decide) (z := 12) rfl ((mz_le hz (by decide : 2 ≤ 12)) 12 (by decide) (by decide)) (k0 := 2) rfl ?_
  refine q_dupR ?_
  refine q_bipush ?_
  refine q_init1 rfl rfl (cu' := 12) (su' := 298) rfl rfl (by decide) rfl (by decide) (kn_7 (mz_le hz (by decide : 2 ≤ 13))) ?_
  refine q_putR rfl rfl rfl ?_
  refine q_aload_n rfl ?_
  refine q_new (by decide) (by decide) (z := 14) rfl ((mz_le hz (by decide : 2 ≤ 14)) 14 (by decide) (by decide)) (k0 := 2) rfl ?_
  refine q_dupR ?_
  refine q_bipush ?_
  refine q_init1 rfl rfl (cu' := 14) (su' := 350) rfl rfl (by decide) rfl (by decide) (kn_8 (mz_le hz (by decide : 2 ≤ 15))) ?_
  refine q_putR rfl rfl rfl ?_
  refine q_aload_n rfl ?_
  refine q_iconst ?_
  refine q_putI rfl rfl ?_
  exact q_vret (by decide) rfl rfl
set_option maxHeartbeats 4000000 in
set_option maxRecDepth 100000 in
theorem kn_10 {L : Nat} {σ : Sg} (hz : ∀ k, 18 ≤ k → k < 1000 → σ k = fun _ => 0) : mEv 1 8 [.ref 17] ([(0, 11, [none, none, none, some 1, none, none, none, none, none, none, none]), (0, 1, [some 2, some 6, some 9, some 12, some 14, none]), (0, 2, [some 3, some 4, some 5, none]), (1, 12, []), (1, 12, []), (1, 12, []), (0, 6, [some 7, some 8, none]), (1, 50, []), (1, 50, []), (0, 6, [some 10, some 11, none]), (1, 50, []), (1, 50, []), (0, 4, [some 13, none]), (1, 50, []), (0, 4, [some 15, none]), (1, 20, []), (0, 1, [none, none, none, none, none, none]), (0, 2, [none, none, none, none])], L, σ) none ([(0, 11, [none, none, none, some 1, none, none, none, none, none, none, none]), (0, 1, [some 2, some 6, some 9, some 12, some 14, none]), (0, 2, [some 3, some 4, some 5, none]), (1, 12, []), (1, 12, []), (1, 12, []), (0, 6, [some 7, some 8, none]), (1, 50, []), (1, 50, []), (0, 6, [some 10, some 11, none]), (1, 50, []), (1, 50, []), (0, 4, [some 13, none]), (1, 50, []), (0, 4, [some 15, none]), (1, 20, []), (0, 1, [none, none, none, none, none, none]), (0, 2, [some 18, some 19, some 20, none]), (1, 12, []), (1, 12, []), (1, 12, [])], L, σ) := by
  refine mEv.of (by decide) rfl rfl ?_
  refine mAt.blk bk_X2_init_0 ck_X2_init_0 ?_
  refine q_aload_n rfl ?_
  refine q_oinit rfl (by decide) ?_
  refine q_aload_n rfl ?_
  refine q_bipush ?_
  refine q_newa (N := 12) (by decide) (by decide) (by decide) (by decide) (by decide) (z := 18) rfl ((mz_le hz (by decide : 18 ≤ 18)) 18 (by decide) (by decide)) ?_
  refine q_putR rfl rfl rfl ?_
  refine q_aload_n rfl ?_
  refine q_bipush ?_
  refine q_newa (N := 12) (by decide) (by decide) (by decide) (by decide) (by decide) (z := 19) rfl ((mz_le hz (by decide : 18 ≤ 19)) 19 (by decide) (by decide)) ?_
  refine q_putR rfl rfl rfl ?_
  refine q_aload_n rfl ?_
  refine q_bipush ?_
  refine q_newa (N := 12) (by decide) (by decide) (by decide) (by decide) (by decide) (z := 20) rfl ((mz_le hz (by decide : 18 ≤ 20)) 20 (by decide) (by decide)) ?_
  refine q_putR rfl rfl rfl ?_
  exact q_vret (by decide) rfl rfl
set_option maxHeartbeats 4000000 in
set_option maxRecDepth 100000 in
theorem kn_11 {L : Nat} {σ : Sg} (hz : ∀ k, 22 ≤ k → k < 1000 → σ k = fun _ => 0) : mEv 1 31 [.ref 21] ([(0, 11, [none, none, none, some 1, none, none, none, none, none, none, none]), (0, 1, [some 2, some 6, some 9, some 12, some 14, none]), (0, 2, [some 3, some 4, some 5, none]), (1, 12, []), (1, 12, []), (1, 12, []), (0, 6, [some 7, some 8, none]), (1, 50, []), (1, 50, []), (0, 6, [some 10, some 11, none]), (1, 50, []), (1, 50, []), (0, 4, [some 13, none]), (1, 50, []), (0, 4, [some 15, none]), (1, 20, []), (0, 1, [some 17, none, none, none, none, none]), (0, 2, [some 18, some 19, some 20, none]), (1, 12, []), (1, 12, []), (1, 12, []), (0, 6, [none, none, none])], L, σ) none ([(0, 11, [none, none, none, some 1, none, none, none, none, none, none, none]), (0, 1, [some 2, some 6, some 9, some 12, some 14, none]), (0, 2, [some 3, some 4, some 5, none]), (1, 12, []), (1, 12, []), (1, 12, []), (0, 6, [some 7, some 8, none]), (1, 50, []), (1, 50, []), (0, 6, [some 10, some 11, none]), (1, 50, []), (1, 50, []), (0, 4, [some 13, none]), (1, 50, []), (0, 4, [some 15, none]), (1, 20, []), (0, 1, [some 17, none, none, none, none, none]), (0, 2, [some 18, some 19, some 20, none]), (1, 12, []), (1, 12, []), (1, 12, []), (0, 6, [some 22, some 23, none]), (1, 50, []), (1, 50, [])], L, σ) := by
  refine mEv.of (by decide) rfl rfl ?_
  refine mAt.blk bk_X6_init_0 ck_X6_init_0 ?_
  refine q_aload_n rfl ?_
  refine q_oinit rfl (by decide) ?_
  refine q_aload_n rfl ?_
  refine q_bipush ?_
  refine q_newa (N := 50) (by decide) (by decide) (by decide) (by decide) (by decide) (z := 22) rfl ((mz_le hz (by decide : 22 ≤ 22)) 22 (by decide) (by decide)) ?_
  refine q_putR rfl rfl rfl ?_
  refine q_aload_n rfl ?_
  refine q_bipush ?_
  refine q_newa (N := 50) (by decide) (by decide) (by decide) (by decide) (by decide) (z := 23) rfl ((mz_le hz (by decide : 22 ≤ 23)) 23 (by decide) (by decide)) ?_
  refine q_putR rfl rfl rfl ?_
  exact q_vret (by decide) rfl rfl
set_option maxHeartbeats 4000000 in
set_option maxRecDepth 100000 in
theorem kn_12 {L : Nat} {σ : Sg} (hz : ∀ k, 25 ≤ k → k < 1000 → σ k = fun _ => 0) : mEv 1 31 [.ref 24] ([(0, 11, [none, none, none, some 1, none, none, none, none, none, none, none]), (0, 1, [some 2, some 6, some 9, some 12, some 14, none]), (0, 2, [some 3, some 4, some 5, none]), (1, 12, []), (1, 12, []), (1, 12, []), (0, 6, [some 7, some 8, none]), (1, 50, []), (1, 50, []), (0, 6, [some 10, some 11, none]), (1, 50, []), (1, 50, []), (0, 4, [some 13, none]), (1, 50, []), (0, 4, [some 15, none]), (1, 20, []), (0, 1, [some 17, some 21, none, none, none, none]), (0, 2, [some 18, some 19, some 20, none]), (1, 12, []), (1, 12, []), (1, 12, []), (0, 6, [some 22, some 23, none]), (1, 50, []), (1, 50, []), (0, 6, [none, none, none])], L, σ) none ([(0, 11, [none, none, none, some 1, none, none, none, none, none, none, none]), (0, 1, [some 2, some 6, some 9, some 12, some 14, none]), (0, 2, [some 3, some 4, some 5, none]), (1, 12, []), (1, 12, []), (1, 12, []), (0, 6, [some 7, some 8, none]), (1, 50, []), (1, 50, []), (0, 6, [some 10, some 11, none]), (1, 50, []), (1, 50, []), (0, 4, [some 13, none]), (1, 50, []), (0, 4, [some 15, none]), (1, 20, []), (0, 1, [some 17, some 21, none, none, none, none]), (0, 2, [some 18, some 19, some 20, none]), (1, 12, []), (1, 12, []), (1, 12, []), (0, 6, [some 22, some 23, none]), (1, 50, []), (1, 50, []), (0, 6, [some 25, some 26, none]), (1, 50, []), (1, 50, [])], L, σ) := by
  refine mEv.of (by decide) rfl rfl ?_
  refine mAt.blk bk_X6_init_0 ck_X6_init_0 ?_
  refine q_aload_n rfl ?_
  refine q_oinit rfl (by decide) ?_
  refine q_aload_n rfl ?_
  refine q_bipush ?_
  refine q_newa (N := 50) (by decide) (by decide) (by decide) (by decide) (by decide) (z := 25) rfl ((mz_le hz (by decide : 25 ≤ 25)) 25 (by decide) (by decide)) ?_
  refine q_putR rfl rfl rfl ?_
  refine q_aload_n rfl ?_
  refine q_bipush ?_
  refine q_newa (N := 50) (by decide) (by decide) (by decide) (by decide) (by decide) (z := 26) rfl ((mz_le hz (by decide : 25 ≤ 26)) 26 (by decide) (by decide)) ?_
  refine q_putR rfl rfl rfl ?_
  exact q_vret (by decide) rfl rfl
set_option maxHeartbeats 4000000 in
set_option maxRecDepth 100000 in
theorem kn_13 {L : Nat} {σ : Sg} (hz : ∀ k, 28 ≤ k → k < 1000 → σ k = fun _ => 0) : mEv 1 24 [.ref 27, .int (50 : Int32)] ([(0, 11, [none, none, none, some 1, none, none, none, none, none, none, none]), (0, 1, [some 2, some 6, some 9, some 12, some 14, none]), (0, 2, [some 3, some 4, some 5, none]), (1, 12, []), (1, 12, []), (1, 12, []), (0, 6, [some 7, some 8, none]), (1, 50, []), (1, 50, []), (0, 6, [some 10, some 11, none]), (1, 50, []), (1, 50, []), (0, 4, [some 13, none]), (1, 50, []), (0, 4, [some 15, none]), (1, 20, []), (0, 1, [some 17, some 21, some 24, none, none, none]), (0, 2, [some 18, some 19, some 20, none]), (1, 12, []), (1, 12, []), (1, 12, []), (0, 6, [some 22, some 23, none]), (1, 50, []), (1, 50, []), (0, 6, [some 25, some 26, none]), (1, 50, []), (1, 50, []), (0, 4, [none, none])], L, σ) none ([(0, 11, [none, none, none, some 1, none, none, none, none, none, none, none]), (0, 1, [some 2, some 6, some 9, some 12, some 14, none]), (0, 2, [some 3, some 4, some 5, none]), (1, 12, []), (1, 12, []), (1, 12, []), (0, 6, [some 7, some 8, none]), (1, 50, []), (1, 50, []), (0, 6, [some 10, some 11, none]), (1, 50, []), (1, 50, []), (0, 4, [some 13, none]), (1, 50, []), (0, 4, [some 15, none]), (1, 20, []), (0, 1, [some 17, some 21, some 24, none, none, none]), (0, 2, [some 18, some 19, some 20, none]), (1, 12, []), (1, 12, []), (1, 12, []), (0, 6, [some 22, some 23, none]), (1, 50, []), (1, 50, []), (0, 6, [some 25, some 26, none]), (1, 50, []), (1, 50, []), (0, 4, [some 28, none]), (1, 50, [])], L, σ) := by
  refine mEv.of (by decide) rfl rfl ?_
  refine mAt.blk bk_X4_init_0 ck_X4_init_0 ?_
  refine q_aload_n rfl ?_
  refine q_oinit rfl (by decide) ?_
  refine q_aload_n rfl ?_
  refine q_iconst ?_
  refine q_iload_n rfl ?_
  refine q_max rfl (by decide) (by decide) ?_
  rw [show (if (0 : Int32) < (50 : Int32) then (50 : Int32) else (0 : Int32)) = (50 : Int32) by decide]
  refine q_newa (N := 50) (by decide) (by decide) (by decide) (by decide) (by decide) (z := 28) rfl ((mz_le hz (by decide : 28 ≤ 28)) 28 (by decide) (by decide)) ?_
  refine q_putR rfl rfl rfl ?_
  exact q_vret (by decide) rfl rfl
set_option maxHeartbeats 4000000 in
set_option maxRecDepth 100000 in
theorem kn_14 {L : Nat} {σ : Sg} (hz : ∀ k, 30 ≤ k → k < 1000 → σ k = fun _ => 0) : mEv 1 24 [.ref 29, .int (20 : Int32)] ([(0, 11, [none, none, none, some 1, none, none, none, none, none, none, none]), (0, 1, [some 2, some 6, some 9, some 12, some 14, none]), (0, 2, [some 3, some 4, some 5, none]), (1, 12, []), (1, 12, []), (1, 12, []), (0, 6, [some 7, some 8, none]), (1, 50, []), (1, 50, []), (0, 6, [some 10, some 11, none]), (1, 50, []), (1, 50, []), (0, 4, [some 13, none]), (1, 50, []), (0, 4, [some 15, none]), (1, 20, []), (0, 1, [some 17, some 21, some 24, some 27, none, none]), (0, 2, [some 18, some 19, some 20, none]), (1, 12, []), (1, 12, []), (1, 12, []), (0, 6, [some 22, some 23, none]), (1, 50, []), (1, 50, []), (0, 6, [some 25, some 26, none]), (1, 50, []), (1, 50, []), (0, 4, [some 28, none]), (1, 50, []), (0, 4, [none, none])], L, σ) none ([(0, 11, [none, none, none, some 1, none, none, none, none, none, none, none]), (0, 1, [some 2, some 6, some 9, some 12, some 14, none]), (0, 2, [some 3, some 4, some 5, none]), (1, 12, []), (1, 12, []), (1, 12, []), (0, 6, [some 7, some 8, none]), (1, 50, []), (1, 50, []), (0, 6, [some 10, some 11, none]), (1, 50, []), (1, 50, []), (0, 4, [some 13, none]), (1, 50, []), (0, 4, [some 15, none]), (1, 20, []), (0, 1, [some 17, some 21, some 24, some 27, none, none]), (0, 2, [some 18, some 19, some 20, none]), (1, 12, []), (1, 12, []), (1, 12, []), (0, 6, [some 22, some 23, none]), (1, 50, []), (1, 50, []), (0, 6, [some 25, some 26, none]), (1, 50, []), (1, 50, []), (0, 4, [some 28, none]), (1, 50, []), (0, 4, [some 30, none]), (1, 20, [])], L, σ) := by
  refine mEv.of (by decide) rfl rfl ?_
  refine mAt.blk bk_X4_init_0 ck_X4_init_0 ?_
  refine q_aload_n rfl ?_
  refine q_oinit rfl (by decide) ?_
  refine q_aload_n rfl ?_
  refine q_iconst ?_
  refine q_iload_n rfl ?_
  refine q_max rfl (by decide) (by decide) ?_
  rw [show (if (0 : Int32) < (20 : Int32) then (20 : Int32) else (0 : Int32)) = (20 : Int32) by decide]
  refine q_newa (N := 20) (by decide) (by decide) (by decide) (by decide) (by decide) (z := 30) rfl ((mz_le hz (by decide : 30 ≤ 30)) 30 (by decide) (by decide)) ?_
  refine q_putR rfl rfl rfl ?_
  exact q_vret (by decide) rfl rfl
set_option maxHeartbeats 4000000 in
set_option maxRecDepth 100000 in
theorem kn_9 {L : Nat} {σ : Sg} (hz : ∀ k, 17 ≤ k → k < 1000 → σ k = fun _ => 0) : mEv 2 5 [.ref 16] ([(0, 11, [none, none, none, some 1, none, none, none, none, none, none, none]), (0, 1, [some 2, some 6, some 9, some 12, some 14, none]), (0, 2, [some 3, some 4, some 5, none]), (1, 12, []), (1, 12, []), (1, 12, []), (0, 6, [some 7, some 8, none]), (1, 50, []), (1, 50, []), (0, 6, [some 10, some 11, none]), (1, 50, []), (1, 50, []), (0, 4, [some 13, none]), (1, 50, []), (0, 4, [some 15, none]), (1, 20, []), (0, 1, [none, none, none, none, none, none])], L, σ) none ([(0, 11, [none, none, none, some 1, none, none, none, none, none, none, none]), (0, 1, [some 2, some 6, some 9, some 12, some 14, none]), (0, 2, [some 3, some 4, some 5, none]), (1, 12, []), (1, 12, []), (1, 12, []), (0, 6, [some 7, some 8, none]), (1, 50, []), (1, 50, []), (0, 6, [some 10, some 11, none]), (1, 50, []), (1, 50, []), (0, 4, [some 13, none]), (1, 50, []), (0, 4, [some 15, none]), (1, 20, []), (0, 1, [some 17, some 21, some 24, some 27, some 29, none]), (0, 2, [some 18, some 19, some 20, none]), (1, 12, []), (1, 12, []), (1, 12, []), (0, 6, [some 22, some 23, none]), (1, 50, []), (1, 50, []), (0, 6, [some 25, some 26, none]), (1, 50, []), (1, 50, []), (0, 4, [some 28, none]), (1, 50, []), (0, 4, [some 30, none]), (1, 20, [])], L, (mup σ 16 5 (1 : Int32))) := by
  refine mEv.of (by decide) rfl rfl ?_
  refine mAt.blk bk_X1_init_0 ck_X1_init_0 ?_
  refine q_aload_n rfl ?_
  refine q_oinit rfl (by decide) ?_
  refine q_aload_n rfl ?_
  refine q_new (by decide) (by decide) (z := 17) rfl ((mz_le hz (by decide : 17 ≤ 17)) 17 (by decide) (by decide)) (k0 := 4) rfl ?_
  refine q_dupR ?_
  refine q_init0 rfl rfl (cu' := 4) (su' := 40) rfl rfl (by decide) rfl (by decide) (kn_10 (mz_le hz (by decide : 17 ≤ 18))) ?_
  refine q_putR rfl rfl rfl ?_
  refine q_aload_n rfl ?_
  refine q_new (by decide) (by decide) (z := 21) rfl ((mz_le hz (by decide : 17 ≤ 21)) 21 (by decide) (by decide)) (k0 := 3) rfl ?_
  refine q_dupR ?_
  refine q_init0 rfl rfl (cu' := 7) (su' := 143) rfl rfl (by decide) rfl (by decide) (kn_11 (mz_le hz (by decide : 17 ≤ 22))) ?_
  refine q_putR rfl rfl rfl ?_
  refine q_aload_n rfl ?_
  refine q_new (by decide) (by decide) (z := 24) rfl ((mz_le hz (by decide : 17 ≤ 24)) 24 (by decide) (by decide)) (k0 := 3) rfl ?_
  refine q_dupR ?_
  refine q_init0 rfl rfl (cu' := 10) (su' := 246) rfl rfl (by decide) rfl (by decide) (kn_12 (mz_le hz (by decide : 17 ≤ 25))) ?_
  refine q_putR rfl rfl rfl ?_
  refine q_aload_n rfl ?_
  refine q_new (by decide) (by decide) (z := 27) rfl ((mz_le hz (by decide : 17 ≤ 27)) 27 (by decide) (by decide)) (k0 := 2) rfl ?_
  refine q_dupR ?_
  refine q_bipush ?_
  refine q_init1 rfl rfl (cu' := 12) (su' := 298) rfl rfl (by decide) rfl (by decide) (kn_13 (mz_le hz (by decide : 17 ≤ 28))) ?_
  refine q_putR rfl rfl rfl ?_
  refine q_aload_n rfl ?_
  refine q_new (by decide) (by decide) (z := 29) rfl ((mz_le hz (by decide : 17 ≤ 29)) 29 (by decide) (by decide)) (k0 := 2) rfl ?_
  refine q_dupR ?_
  refine q_bipush ?_
  refine q_init1 rfl rfl (cu' := 14) (su' := 350) rfl rfl (by decide) rfl (by decide) (kn_14 (mz_le hz (by decide : 17 ≤ 30))) ?_
  refine q_putR rfl rfl rfl ?_
  refine q_aload_n rfl ?_
  refine q_iconst ?_
  refine q_putI rfl rfl ?_
  exact q_vret (by decide) rfl rfl
def bk_X10_init_0 : List mI := [(.aload_n 0, 1, 0, 0, 0, []), (.invokespecial 3, 3, 999, 0, 179, []), (.aload_n 0, 1, 0, 0, 0, []), (.new 9, 3, 9, 0, 180, []), (.dup, 1, 0, 0, 0, []), (.invokespecial 11, 3, 52, 0, 182, []), (.putfield 12, 3, 10, 0, 249, []), (.aload_n 0, 1, 0, 0, 0, []), (.new 18, 3, 7, 0, 209, []), (.dup, 1, 0, 0, 0, []), (.invokespecial 20, 3, 37, 0, 211, []), (.putfield 21, 3, 10, 1, 251, []), (.aload_n 0, 1, 0, 0, 0, []), (.aload_n 1, 1, 0, 0, 0, []), (.putfield 25, 3, 10, 2, 253, []), (.aload_n 0, 1, 0, 0, 0, []), (.aload_n 2, 1, 0, 0, 0, []), (.putfield 29, 3, 10, 3, 254, []), (.return_, 1, 0, 0, 0, [])]
theorem ck_X10_init_0 : mChk 67 0 bk_X10_init_0 = true := by decide +kernel
def bk_X9_init_0 : List mI := [(.aload_n 0, 1, 0, 0, 0, []), (.invokespecial 3, 3, 999, 0, 185, []), (.aload_n 0, 1, 0, 0, 0, []), (.bipush 9, 2, 0, 0, 0, [(9, 0)]), (.newarray .int, 2, 0, 0, 0, []), (.putfield 9, 3, 9, 0, 186, []), (.aload_n 0, 1, 0, 0, 0, []), (.bipush 9, 2, 0, 0, 0, [(9, 0)]), (.newarray .int, 2, 0, 0, 0, []), (.putfield 15, 3, 9, 1, 187, []), (.aload_n 0, 1, 0, 0, 0, []), (.bipush 9, 2, 0, 0, 0, [(9, 0)]), (.newarray .int, 2, 0, 0, 0, []), (.putfield 18, 3, 9, 2, 188, []), (.aload_n 0, 1, 0, 0, 0, []), (.bipush 9, 2, 0, 0, 0, [(9, 0)]), (.newarray .int, 2, 0, 0, 0, []), (.putfield 21, 3, 9, 3, 191, []), (.return_, 1, 0, 0, 0, [])]
theorem ck_X9_init_0 : mChk 52 0 bk_X9_init_0 = true := by decide +kernel
set_option maxHeartbeats 4000000 in
set_option maxRecDepth 100000 in
theorem kn_16 {L : Nat} {σ : Sg} (hz : ∀ k, 33 ≤ k → k < 1000 → σ k = fun _ => 0) : mEv 1 52 [.ref 32] ([(0, 11, [none, none, none, some 1, some 16, none, none, none, none, none, none]), (0, 1, [some 2, some 6, some 9, some 12, some 14, none]), (0, 2, [some 3, some 4, some 5, none]), (1, 12, []), (1, 12, []), (1, 12, []), (0, 6, [some 7, some 8, none]), (1, 50, []), (1, 50, []), (0, 6, [some 10, some 11, none]), (1, 50, []), (1, 50, []), (0, 4, [some 13, none]), (1, 50, []), (0, 4, [some 15, none]), (1, 20, []), (0, 1, [some 17, some 21, some 24, some 27, some 29, none]), (0, 2, [some 18, some 19, some 20, none]), (1, 12, []), (1, 12, []), (1, 12, []), (0, 6, [some 22, some 23, none]), (1, 50, []), (1, 50, []), (0, 6, [some 25, some 26, none]), (1, 50, []), (1, 50, []), (0, 4, [some 28, none]), (1, 50, []), (0, 4, [some 30, none]), (1, 20, []), (0, 10, [none, none, none, none, none]), (0, 9, [none, none, none, none, none])], L, σ) none ([(0, 11, [none, none, none, some 1, some 16, none, none, none, none, none, none]), (0, 1, [some 2, some 6, some 9, some 12, some 14, none]), (0, 2, [some 3, some 4, some 5, none]), (1, 12, []), (1, 12, []), (1, 12, []), (0, 6, [some 7, some 8, none]), (1, 50, []), (1, 50, []), (0, 6, [some 10, some 11, none]), (1, 50, []), (1, 50, []), (0, 4, [some 13, none]), (1, 50, []), (0, 4, [some 15, none]), (1, 20, []), (0, 1, [some 17, some 21, some 24, some 27, some 29, none]), (0, 2, [some 18, some 19, some 20, none]), (1, 12, []), (1, 12, []), (1, 12, []), (0, 6, [some 22, some 23, none]), (1, 50, []), (1, 50, []), (0, 6, [some 25, some 26, none]), (1, 50, []), (1, 50, []), (0, 4, [some 28, none]), (1, 50, []), (0, 4, [some 30, none]), (1, 20, []), (0, 10, [none, none, none, none, none]), (0, 9, [some 33, some 34, some 35, some 36, none]), (1, 9, []), (1, 9, []), (1, 9, []), (1, 9, [])], L, σ) := by
  refine mEv.of (by decide) rfl rfl ?_
  refine mAt.blk bk_X9_init_0 ck_X9_init_0 ?_
  refine q_aload_n rfl ?_
  refine q_oinit rfl (by decide) ?_
  refine q_aload_n rfl ?_
  refine q_bipush ?_
  refine q_newa (N := 9) (by decide) (by decide) (by decide) (by decide) (by decide) (z := 33) rfl ((mz_le hz (by decide : 33 ≤ 33)) 33 (by decide) (by decide)) ?_
  refine q_putR rfl rfl rfl ?_
  refine q_aload_n rfl ?_
  refine q_bipush ?_
  refine q_newa (N := 9) (by decide) (by decide) (by decide) (by decide) (by decide) (z := 34) rfl ((mz_le hz (by decide : 33 ≤ 34)) 34 (by decide) (by decide)) ?_
  refine q_putR rfl rfl rfl ?_
  refine q_aload_n rfl ?_
  refine q_bipush ?_
  refine q_newa (N := 9) (by decide) (by decide) (by decide) (by decide) (by decide) (z := 35) rfl ((mz_le hz (by decide : 33 ≤ 35)) 35 (by decide) (by decide)) ?_
  refine q_putR rfl rfl rfl ?_
  refine q_aload_n rfl ?_
  refine q_bipush ?_
  refine q_newa (N := 9) (by decide) (by decide) (by decide) (by decide) (by decide) (z := 36) rfl ((mz_le hz (by decide : 33 ≤ 36)) 36 (by decide) (by decide)) ?_
  refine q_putR rfl rfl rfl ?_
  exact q_vret (by decide) rfl rfl
def bk_X7_init_0 : List mI := [(.aload_n 0, 1, 0, 0, 0, []), (.invokespecial 3, 3, 999, 0, 214, []), (.aload_n 0, 1, 0, 0, 0, []), (.bipush 10, 2, 0, 0, 0, [(10, 0)]), (.newarray .int, 2, 0, 0, 0, []), (.putfield 9, 3, 7, 0, 215, []), (.aload_n 0, 1, 0, 0, 0, []), (.bipush 10, 2, 0, 0, 0, [(10, 0)]), (.newarray .int, 2, 0, 0, 0, []), (.putfield 15, 3, 7, 1, 218, []), (.aload_n 0, 1, 0, 0, 0, []), (.bipush 10, 2, 0, 0, 0, [(10, 0)]), (.newarray .int, 2, 0, 0, 0, []), (.putfield 18, 3, 7, 2, 221, []), (.aload_n 0, 1, 0, 0, 0, []), (.bipush 10, 2, 0, 0, 0, [(10, 0)]), (.newarray .int, 2, 0, 0, 0, []), (.putfield 21, 3, 7, 3, 224, []), (.aload_n 0, 1, 0, 0, 0, []), (.bipush 10, 2, 0, 0, 0, [(10, 0)]), (.newarray .int, 2, 0, 0, 0, []), (.putfield 24, 3, 7, 4, 227, []), (.aload_n 0, 1, 0, 0, 0, []), (.bipush 10, 2, 0, 0, 0, [(10, 0)]), (.newarray .int, 2, 0, 0, 0, []), (.putfield 27, 3, 7, 5, 229, []), (.return_, 1, 0, 0, 0, [])]
theorem ck_X7_init_0 : mChk 37 0 bk_X7_init_0 = true := by decide +kernel
set_option maxHeartbeats 4000000 in
set_option maxRecDepth 100000 in
theorem kn_17 {L : Nat} {σ : Sg} (hz : ∀ k, 38 ≤ k → k < 1000 → σ k = fun _ => 0) : mEv 1 37 [.ref 37] ([(0, 11, [none, none, none, some 1, some 16, none, none, none, none, none, none]), (0, 1, [some 2, some 6, some 9, some 12, some 14, none]), (0, 2, [some 3, some 4, some 5, none]), (1, 12, []), (1, 12, []), (1, 12, []), (0, 6, [some 7, some 8, none]), (1, 50, []), (1, 50, []), (0, 6, [some 10, some 11, none]), (1, 50, []), (1, 50, []), (0, 4, [some 13, none]), (1, 50, []), (0, 4, [some 15, none]), (1, 20, []), (0, 1, [some 17, some 21, some 24, some 27, some 29, none]), (0, 2, [some 18, some 19, some 20, none]), (1, 12, []), (1, 12, []), (1, 12, []), (0, 6, [some 22, some 23, none]), (1, 50, []), (1, 50, []), (0, 6, [some 25, some 26, none]), (1, 50, []), (1, 50, []), (0, 4, [some 28, none]), (1, 50, []), (0, 4, [some 30, none]), (1, 20, []), (0, 10, [some 32, none, none, none, none]), (0, 9, [some 33, some 34, some 35, some 36, none]), (1, 9, []), (1, 9, []), (1, 9, []), (1, 9, []), (0, 7, [none, none, none, none, none, none, none])], L, σ) none ([(0, 11, [none, none, none, some 1, some 16, none, none, none, none, none, none]), (0, 1, [some 2, some 6, some 9, some 12, some 14, none]), (0, 2, [some 3, some 4, some 5, none]), (1, 12, []), (1, 12, []), (1, 12, []), (0, 6, [some 7, some 8, none]), (1, 50, []), (1, 50, []), (0, 6, [some 10, some 11, none]), (1, 50, []), (1, 50, []), (0, 4, [some 13, none]), (1, 50, []), (0, 4, [some 15, none]), (1, 20, []), (0, 1, [some 17, some 21, some 24, some 27, some 29, none]), (0, 2, [some 18, some 19, some 20, none]), (1, 12, []), (1, 12, []), (1, 12, []), (0, 6, [some 22, some 23, none]), (1, 50, []), (1, 50, []), (0, 6, [some 25, some 26, none]), (1, 50, []), (1, 50, []), (0, 4, [some 28, none]), (1, 50, []), (0, 4, [some 30, none]), (1, 20, []), (0, 10, [some 32, none, none, none, none]), (0, 9, [some 33, some 34, some 35, some 36, none]), (1, 9, []), (1, 9, []), (1, 9, []), (1, 9, []), (0, 7, [some 38, some 39, some 40, some 41, some 42, some 43, none]), (1, 10, []), (1, 10, []), (1, 10, []), (1, 10, []), (1, 10, []), (1, 10, [])], L, σ) := by
  refine mEv.of (by decide) rfl rfl ?_
  refine mAt.blk bk_X7_init_0 ck_X7_init_0 ?_
  refine q_aload_n rfl ?_
  refine q_oinit rfl (by decide) ?_
  refine q_aload_n rfl ?_
  refine q_bipush ?_
  refine q_newa (N := 10) (by decide) (by decide) (by decide) (by decide) (by decide) (z := 38) rfl ((mz_le hz (by decide : 38 ≤ 38)) 38 (by decide) (by decide)) ?_
  refine q_putR rfl rfl rfl ?_
  refine q_aload_n rfl ?_
  refine q_bipush ?_
  refine q_newa (N := 10) (by decide) (by decide) (by decide) (by decide) (by decide) (z := 39) rfl ((mz_le hz (by decide : 38 ≤ 39)) 39 (by decide) (by decide)) ?_
  refine q_putR rfl rfl rfl ?_
  refine q_aload_n rfl ?_
  refine q_bipush ?_
  refine q_newa (N := 10) (by decide) (by decide) (by decide) (by decide) (by decide) (z := 40) rfl ((mz_le hz (by decide : 38 ≤ 40)) 40 (by decide) (by decide)) ?_
  refine q_putR rfl rfl rfl ?_
  refine q_aload_n rfl ?_
  refine q_bipush ?_
  refine q_newa (N := 10) (by decide) (by decide) (by decide) (by decide) (by decide) (z := 41) rfl ((mz_le hz (by decide : 38 ≤ 41)) 41 (by decide) (by decide)) ?_
  refine q_putR rfl rfl rfl ?_
  refine q_aload_n rfl ?_
  refine q_bipush ?_
  refine q_newa (N := 10) (by decide) (by decide) (by decide) (by decide) (by decide) (z := 42) rfl ((mz_le hz (by decide : 38 ≤ 42)) 42 (by decide) (by decide)) ?_
  refine q_putR rfl rfl rfl ?_
  refine q_aload_n rfl ?_
  refine q_bipush ?_
  refine q_newa (N := 10) (by decide) (by decide) (by decide) (by decide) (by decide) (z := 43) rfl ((mz_le hz (by decide : 38 ≤ 43)) 43 (by decide) (by decide)) ?_
  refine q_putR rfl rfl rfl ?_
  exact q_vret (by decide) rfl rfl
set_option maxHeartbeats 4000000 in
set_option maxRecDepth 100000 in
theorem kn_15 {L : Nat} {σ : Sg} (hz : ∀ k, 32 ≤ k → k < 1000 → σ k = fun _ => 0) : mEv 2 67 [.ref 31, .ref 6, .ref 9] ([(0, 11, [none, none, none, some 1, some 16, none, none, none, none, none, none]), (0, 1, [some 2, some 6, some 9, some 12, some 14, none]), (0, 2, [some 3, some 4, some 5, none]), (1, 12, []), (1, 12, []), (1, 12, []), (0, 6, [some 7, some 8, none]), (1, 50, []), (1, 50, []), (0, 6, [some 10, some 11, none]), (1, 50, []), (1, 50, []), (0, 4, [some 13, none]), (1, 50, []), (0, 4, [some 15, none]), (1, 20, []), (0, 1, [some 17, some 21, some 24, some 27, some 29, none]), (0, 2, [some 18, some 19, some 20, none]), (1, 12, []), (1, 12, []), (1, 12, []), (0, 6, [some 22, some 23, none]), (1, 50, []), (1, 50, []), (0, 6, [some 25, some 26, none]), (1, 50, []), (1, 50, []), (0, 4, [some 28, none]), (1, 50, []), (0, 4, [some 30, none]), (1, 20, []), (0, 10, [none, none, none, none, none])], L, σ) none ([(0, 11, [none, none, none, some 1, some 16, none, none, none, none, none, none]), (0, 1, [some 2, some 6, some 9, some 12, some 14, none]), (0, 2, [some 3, some 4, some 5, none]), (1, 12, []), (1, 12, []), (1, 12, []), (0, 6, [some 7, some 8, none]), (1, 50, []), (1, 50, []), (0, 6, [some 10, some 11, none]), (1, 50, []), (1, 50, []), (0, 4, [some 13, none]), (1, 50, []), (0, 4, [some 15, none]), (1, 20, []), (0, 1, [some 17, some 21, some 24, some 27, some 29, none]), (0, 2, [some 18, some 19, some 20, none]), (1, 12, []), (1, 12, []), (1, 12, []), (0, 6, [some 22, some 23, none]), (1, 50, []), (1, 50, []), (0, 6, [some 25, some 26, none]), (1, 50, []), (1, 50, []), (0, 4, [some 28, none]), (1, 50, []), (0, 4, [some 30, none]), (1, 20, []), (0, 10, [some 32, some 37, some 6, some 9, none]), (0, 9, [some 33, some 34, some 35, some 36, none]), (1, 9, []), (1, 9, []), (1, 9, []), (1, 9, []), (0, 7, [some 38, some 39, some 40, some 41, some 42, some 43, none]), (1, 10, []), (1, 10, []), (1, 10, []), (1, 10, []), (1, 10, []), (1, 10, [])], L, σ) := by
  refine mEv.of (by decide) rfl rfl ?_
  refine mAt.blk bk_X10_init_0 ck_X10_init_0 ?_
  refine q_aload_n rfl ?_
  refine q_oinit rfl (by decide) ?_
  refine q_aload_n rfl ?_
  refine q_new (by decide) (by decide) (z := 32) rfl ((mz_le hz (by decide : 32 ≤ 32)) 32 (by decide) (by decide)) (k0 := 5) rfl ?_
  refine q_dupR ?_
  refine q_init0 rfl rfl (cu' := 5) (su' := 41) rfl rfl (by decide) rfl (by decide) (kn_16 (mz_le hz (by decide : 32 ≤ 33))) ?_
  refine q_putR rfl rfl rfl ?_
  refine q_aload_n rfl ?_
  refine q_new (by decide) (by decide) (z := 37) rfl ((mz_le hz (by decide : 32 ≤ 37)) 37 (by decide) (by decide)) (k0 := 7) rfl ?_
  refine q_dupR ?_
  refine q_init0 rfl rfl (cu' := 12) (su' := 108) rfl rfl (by decide) rfl (by decide) (kn_17 (mz_le hz (by decide : 32 ≤ 38))) ?_
  refine q_putR rfl rfl rfl ?_
  refine q_aload_n rfl ?_
  refine q_aload_n rfl ?_
  refine q_putR rfl rfl rfl ?_
  refine q_aload_n rfl ?_
  refine q_aload_n rfl ?_
  refine q_putR rfl rfl rfl ?_
  exact q_vret (by decide) rfl rfl
set_option maxHeartbeats 4000000 in
set_option maxRecDepth 100000 in
theorem kn_19 {L : Nat} {σ : Sg} (hz : ∀ k, 46 ≤ k → k < 1000 → σ k = fun _ => 0) : mEv 1 52 [.ref 45] ([(0, 11, [some 31, none, none, some 1, some 16, none, none, none, none, none, none]), (0, 1, [some 2, some 6, some 9, some 12, some 14, none]), (0, 2, [some 3, some 4, some 5, none]), (1, 12, []), (1, 12, []), (1, 12, []), (0, 6, [some 7, some 8, none]), (1, 50, []), (1, 50, []), (0, 6, [some 10, some 11, none]), (1, 50, []), (1, 50, []), (0, 4, [some 13, none]), (1, 50, []), (0, 4, [some 15, none]), (1, 20, []), (0, 1, [some 17, some 21, some 24, some 27, some 29, none]), (0, 2, [some 18, some 19, some 20, none]), (1, 12, []), (1, 12, []), (1, 12, []), (0, 6, [some 22, some 23, none]), (1, 50, []), (1, 50, []), (0, 6, [some 25, some 26, none]), (1, 50, []), (1, 50, []), (0, 4, [some 28, none]), (1, 50, []), (0, 4, [some 30, none]), (1, 20, []), (0, 10, [some 32, some 37, some 6, some 9, none]), (0, 9, [some 33, some 34, some 35, some 36, none]), (1, 9, []), (1, 9, []), (1, 9, []), (1, 9, []), (0, 7, [some 38, some 39, some 40, some 41, some 42, some 43, none]), (1, 10, []), (1, 10, []), (1, 10, []), (1, 10, []), (1, 10, []), (1, 10, []), (0, 10, [none, none, none, none, none]), (0, 9, [none, none, none, none, none])], L, σ) none ([(0, 11, [some 31, none, none, some 1, some 16, none, none, none, none, none, none]), (0, 1, [some 2, some 6, some 9, some 12, some 14, none]), (0, 2, [some 3, some 4, some 5, none]), (1, 12, []), (1, 12, []), (1, 12, []), (0, 6, [some 7, some 8, none]), (1, 50, []), (1, 50, []), (0, 6, [some 10, some 11, none]), (1, 50, []), (1, 50, []), (0, 4, [some 13, none]), (1, 50, []), (0, 4, [some 15, none]), (1, 20, []), (0, 1, [some 17, some 21, some 24, some 27, some 29, none]), (0, 2, [some 18, some 19, some 20, none]), (1, 12, []), (1, 12, []), (1, 12, []), (0, 6, [some 22, some 23, none]), (1, 50, []), (1, 50, []), (0, 6, [some 25, some 26, none]), (1, 50, []), (1, 50, []), (0, 4, [some 28, none]), (1, 50, []), (0, 4, [some 30, none]), (1, 20, []), (0, 10, [some 32, some 37, some 6, some 9, none]), (0, 9, [some 33, some 34, some 35, some 36, none]), (1, 9, []), (1, 9, []), (1, 9, []), (1, 9, []), (0, 7, [some 38, some 39, some 40, some 41, some 42, some 43, none]), (1, 10, []), (1, 10, []), (1, 10, []), (1, 10, []), (1, 10, []), (1, 10, []), (0, 10, [none, none, none, none, none]), (0, 9, [some 46, some 47, some 48, some 49, none]), (1, 9, []), (1, 9, []), (1, 9, []), (1, 9, [])], L, σ) := by
  refine mEv.of (by decide) rfl rfl ?_
  refine mAt.blk bk_X9_init_0 ck_X9_init_0 ?_
  refine q_aload_n rfl ?_
  refine q_oinit rfl (by decide) ?_
  refine q_aload_n rfl ?_
  refine q_bipush ?_
  refine q_newa (N := 9) (by decide) (by decide) (by decide) (by decide) (by decide) (z := 46) rfl ((mz_le hz (by decide : 46 ≤ 46)) 46 (by decide) (by decide)) ?_
  refine q_putR rfl rfl rfl ?_
  refine q_aload_n rfl ?_
  refine q_bipush ?_
  refine q_newa (N := 9) (by decide) (by decide) (by decide) (by decide) (by decide) (z := 47) rfl ((mz_le hz (by decide : 46 ≤ 47)) 47 (by decide) (by decide)) ?_
  refine q_putR rfl rfl rfl ?_
  refine q_aload_n rfl ?_
  refine q_bipush ?_
  refine q_newa (N := 9) (by decide) (by decide) (by decide) (by decide) (by decide) (z := 48) rfl ((mz_le hz (by decide : 46 ≤ 48)) 48 (by decide) (by decide)) ?_
  refine q_putR rfl rfl rfl ?_
  refine q_aload_n rfl ?_
  refine q_bipush ?_
  refine q_newa (N := 9) (by decide) (by decide) (by decide) (by decide) (by decide) (z := 49) rfl ((mz_le hz (by decide : 46 ≤ 49)) 49 (by decide) (by decide)) ?_
  refine q_putR rfl rfl rfl ?_
  exact q_vret (by decide) rfl rfl
set_option maxHeartbeats 4000000 in
set_option maxRecDepth 100000 in
theorem kn_20 {L : Nat} {σ : Sg} (hz : ∀ k, 51 ≤ k → k < 1000 → σ k = fun _ => 0) : mEv 1 37 [.ref 50] ([(0, 11, [some 31, none, none, some 1, some 16, none, none, none, none, none, none]), (0, 1, [some 2, some 6, some 9, some 12, some 14, none]), (0, 2, [some 3, some 4, some 5, none]), (1, 12, []), (1, 12, []), (1, 12, []), (0, 6, [some 7, some 8, none]), (1, 50, []), (1, 50, []), (0, 6, [some 10, some 11, none]), (1, 50, []), (1, 50, []), (0, 4, [some 13, none]), (1, 50, []), (0, 4, [some 15, none]), (1, 20, []), (0, 1, [some 17, some 21, some 24, some 27, some 29, none]), (0, 2, [some 18, some 19, some 20, none]), (1, 12, []), (1, 12, []), (1, 12, []), (0, 6, [some 22, some 23, none]), (1, 50, []), (1, 50, []), (0, 6, [some 25, some 26, none]), (1, 50, []), (1, 50, []), (0, 4, [some 28, none]), (1, 50, []), (0, 4, [some 30, none]), (1, 20, []), (0, 10, [some 32, some 37, some 6, some 9, none]), (0, 9, [some 33, some 34, some 35, some 36, none]), (1, 9, []), (1, 9, []), (1, 9, []), (1, 9, []), (0, 7, [some 38, some 39, some 40, some 41, some 42, some 43, none]), (1, 10, []), (1, 10, []), (1, 10, []), (1, 10, []), (1, 10, []), (1, 10, []), (0, 10, [some 45, none, none, none, none]), (0, 9, [some 46, some 47, some 48, some 49, none]), (1, 9, []), (1, 9, []), (1, 9, []), (1, 9, []), (0, 7, [none, none, none, none, none, none, none])], L, σ) none ([(0, 11, [some 31, none, none, some 1, some 16, none, none, none, none, none, none]), (0, 1, [some 2, some 6, some 9, some 12, some 14, none]), (0, 2, [some 3, some 4, some 5, none]), (1, 12, []), (1, 12, []), (1, 12, []), (0, 6, [some 7, some 8, none]), (1, 50, []), (1, 50, []), (0, 6, [some 10, some 11, none]), (1, 50, []), (1, 50, []), (0, 4, [some 13, none]), (1, 50, []), (0, 4, [some 15, none]), (1, 20, []), (0, 1, [some 17, some 21, some 24, some 27, some 29, none]), (0, 2, [some 18, some 19, some 20, none]), (1, 12, []), (1, 12, []), (1, 12, []), (0, 6, [some 22, some 23, none]), (1, 50, []), (1, 50, []), (0, 6, [some 25, some 26, none]), (1, 50, []), (1, 50, []), (0, 4, [some 28, none]), (1, 50, []), (0, 4, [some 30, none]), (1, 20, []), (0, 10, [some 32, some 37, some 6, some 9, none]), (0, 9, [some 33, some 34, some 35, some 36, none]), (1, 9, []), (1, 9, []), (1, 9, []), (1, 9, []), (0, 7, [some 38, some 39, some 40, some 41, some 42, some 43, none]), (1, 10, []), (1, 10, []), (1, 10, []), (1, 10, []), (1, 10, []), (1, 10, []), (0, 10, [some 45, none, none, none, none]), (0, 9, [some 46, some 47, some 48, some 49, none]), (1, 9, []), (1, 9, []), (1, 9, []), (1, 9, []), (0, 7, [some 51, some 52, some 53, some 54, some 55, some 56, none]), (1, 10, []), (1, 10, []), (1, 10, []), (1, 10, []), (1, 10, []), (1, 10, [])], L, σ) := by
  refine mEv.of (by decide) rfl rfl ?_
  refine mAt.blk bk_X7_init_0 ck_X7_init_0 ?_
  refine q_aload_n rfl ?_
  refine q_oinit rfl (by decide) ?_
  refine q_aload_n rfl ?_
  refine q_bipush ?_
  refine q_newa (N := 10) (by decide) (by decide) (by decide) (by decide) (by decide) (z := 51) rfl ((mz_le hz (by decide : 51 ≤ 51)) 51 (by decide) (by decide)) ?_
  refine q_putR rfl rfl rfl ?_
  refine q_aload_n rfl ?_
  refine q_bipush ?_
  refine q_newa (N := 10) (by decide) (by decide) (by decide) (by decide) (by decide) (z := 52) rfl ((mz_le hz (by decide : 51 ≤ 52)) 52 (by decide) (by decide)) ?_
  refine q_putR rfl rfl rfl ?_
  refine q_aload_n rfl ?_
  refine q_bipush ?_
  refine q_newa (N := 10) (by decide) (by decide) (by decide) (by decide) (by decide) (z := 53) rfl ((mz_le hz (by decide : 51 ≤ 53)) 53 (by decide) (by decide)) ?_
  refine q_putR rfl rfl rfl ?_
  refine q_aload_n rfl ?_
  refine q_bipush ?_
  refine q_newa (N := 10) (by decide) (by decide) (by decide) (by decide) (by decide) (z := 54) rfl ((mz_le hz (by decide : 51 ≤ 54)) 54 (by decide) (by decide)) ?_
  refine q_putR rfl rfl rfl ?_
  refine q_aload_n rfl ?_
  refine q_bipush ?_
  refine q_newa (N := 10) (by decide) (by decide) (by decide) (by decide) (by decide) (z := 55) rfl ((mz_le hz (by decide : 51 ≤ 55)) 55 (by decide) (by decide)) ?_
  refine q_putR rfl rfl rfl ?_
  refine q_aload_n rfl ?_
  refine q_bipush ?_
  refine q_newa (N := 10) (by decide) (by decide) (by decide) (by decide) (by decide) (z := 56) rfl ((mz_le hz (by decide : 51 ≤ 56)) 56 (by decide) (by decide)) ?_
  refine q_putR rfl rfl rfl ?_
  exact q_vret (by decide) rfl rfl
set_option maxHeartbeats 4000000 in
set_option maxRecDepth 100000 in
theorem kn_18 {L : Nat} {σ : Sg} (hz : ∀ k, 45 ≤ k → k < 1000 → σ k = fun _ => 0) : mEv 2 67 [.ref 44, .ref 6, .ref 9] ([(0, 11, [some 31, none, none, some 1, some 16, none, none, none, none, none, none]), (0, 1, [some 2, some 6, some 9, some 12, some 14, none]), (0, 2, [some 3, some 4, some 5, none]), (1, 12, []), (1, 12, []), (1, 12, []), (0, 6, [some 7, some 8, none]), (1, 50, []), (1, 50, []), (0, 6, [some 10, some 11, none]), (1, 50, []), (1, 50, []), (0, 4, [some 13, none]), (1, 50, []), (0, 4, [some 15, none]), (1, 20, []), (0, 1, [some 17, some 21, some 24, some 27, some 29, none]), (0, 2, [some 18, some 19, some 20, none]), (1, 12, []), (1, 12, []), (1, 12, []), (0, 6, [some 22, some 23, none]), (1, 50, []), (1, 50, []), (0, 6, [some 25, some 26, none]), (1, 50, []), (1, 50, []), (0, 4, [some 28, none]), (1, 50, []), (0, 4, [some 30, none]), (1, 20, []), (0, 10, [some 32, some 37, some 6, some 9, none]), (0, 9, [some 33, some 34, some 35, some 36, none]), (1, 9, []), (1, 9, []), (1, 9, []), (1, 9, []), (0, 7, [some 38, some 39, some 40, some 41, some 42, some 43, none]), (1, 10, []), (1, 10, []), (1, 10, []), (1, 10, []), (1, 10, []), (1, 10, []), (0, 10, [none, none, none, none, none])], L, σ) none ([(0, 11, [some 31, none, none, some 1, some 16, none, none, none, none, none, none]), (0, 1, [some 2, some 6, some 9, some 12, some 14, none]), (0, 2, [some 3, some 4, some 5, none]), (1, 12, []), (1, 12, []), (1, 12, []), (0, 6, [some 7, some 8, none]), (1, 50, []), (1, 50, []), (0, 6, [some 10, some 11, none]), (1, 50, []), (1, 50, []), (0, 4, [some 13, none]), (1, 50, []), (0, 4, [some 15, none]), (1, 20, []), (0, 1, [some 17, some 21, some 24, some 27, some 29, none]), (0, 2, [some 18, some 19, some 20, none]), (1, 12, []), (1, 12, []), (1, 12, []), (0, 6, [some 22, some 23, none]), (1, 50, []), (1, 50, []), (0, 6, [some 25, some 26, none]), (1, 50, []), (1, 50, []), (0, 4, [some 28, none]), (1, 50, []), (0, 4, [some 30, none]), (1, 20, []), (0, 10, [some 32, some 37, some 6, some 9, none]), (0, 9, [some 33, some 34, some 35, some 36, none]), (1, 9, []), (1, 9, []), (1, 9, []), (1, 9, []), (0, 7, [some 38, some 39, some 40, some 41, some 42, some 43, none]), (1, 10, []), (1, 10, []), (1, 10, []), (1, 10, []), (1, 10, []), (1, 10, []), (0, 10, [some 45, some 50, some 6, some 9, none]), (0, 9, [some 46, some 47, some 48, some 49, none]), (1, 9, []), (1, 9, []), (1, 9, []), (1, 9, []), (0, 7, [some 51, some 52, some 53, some 54, some 55, some 56, none]), (1, 10, []), (1, 10, []), (1, 10, []), (1, 10, []), (1, 10, []), (1, 10, [])], L, σ) := by
  refine mEv.of (by decide) rfl rfl ?_
  refine mAt.blk bk_X10_init_0 ck_X10_init_0 ?_
  refine q_aload_n rfl ?_
  refine q_oinit rfl (by decide) ?_
  refine q_aload_n rfl ?_
  refine q_new (by decide) (by decide) (z := 45) rfl ((mz_le hz (by decide : 45 ≤ 45)) 45 (by decide) (by decide)) (k0 := 5) rfl ?_
  refine q_dupR ?_
  refine q_init0 rfl rfl (cu' := 5) (su' := 41) rfl rfl (by decide) rfl (by decide) (kn_19 (mz_le hz (by decide : 45 ≤ 46))) ?_
  refine q_putR rfl rfl rfl ?_
  refine q_aload_n rfl ?_
  refine q_new (by decide) (by decide) (z := 50) rfl ((mz_le hz (by decide : 45 ≤ 50)) 50 (by decide) (by decide)) (k0 := 7) rfl ?_
  refine q_dupR ?_
  refine q_init0 rfl rfl (cu' := 12) (su' := 108) rfl rfl (by decide) rfl (by decide) (kn_20 (mz_le hz (by decide : 45 ≤ 51))) ?_
  refine q_putR rfl rfl rfl ?_
  refine q_aload_n rfl ?_
  refine q_aload_n rfl ?_
  refine q_putR rfl rfl rfl ?_
  refine q_aload_n rfl ?_
  refine q_aload_n rfl ?_
  refine q_putR rfl rfl rfl ?_
  exact q_vret (by decide) rfl rfl
set_option maxHeartbeats 4000000 in
set_option maxRecDepth 100000 in
theorem kn_22 {L : Nat} {σ : Sg} (hz : ∀ k, 59 ≤ k → k < 1000 → σ k = fun _ => 0) : mEv 1 52 [.ref 58] ([(0, 11, [some 31, some 44, none, some 1, some 16, none, none, none, none, none, none]), (0, 1, [some 2, some 6, some 9, some 12, some 14, none]), (0, 2, [some 3, some 4, some 5, none]), (1, 12, []), (1, 12, []), (1, 12, []), (0, 6, [some 7, some 8, none]), (1, 50, []), (1, 50, []), (0, 6, [some 10, some 11, none]), (1, 50, []), (1, 50, []), (0, 4, [some 13, none]), (1, 50, []), (0, 4, [some 15, none]), (1, 20, []), (0, 1, [some 17, some 21, some 24, some 27, some 29, none]), (0, 2, [some 18, some 19, some 20, none]), (1, 12, []), (1, 12, []), (1, 12, []), (0, 6, [some 22, some 23, none]), (1, 50, []), (1, 50, []), (0, 6, [some 25, some 26, none]), (1, 50, []), (1, 50, []), (0, 4, [some 28, none]), (1, 50, []), (0, 4, [some 30, none]), (1, 20, []), (0, 10, [some 32, some 37, some 6, some 9, none]), (0, 9, [some 33, some 34, some 35, some 36, none]), (1, 9, []), (1, 9, []), (1, 9, []), (1, 9, []), (0, 7, [some 38, some 39, some 40, some 41, some 42, some 43, none]), (1, 10, []), (1, 10, []), (1, 10, []), (1, 10, []), (1, 10, []), (1, 10, []), (0, 10, [some 45, some 50, some 6, some 9, none]), (0, 9, [some 46, some 47, some 48, some 49, none]), (1, 9, []), (1, 9, []), (1, 9, []), (1, 9, []), (0, 7, [some 51, some 52, some 53, some 54, some 55, some 56, none]), (1, 10, []), (1, 10, []), (1, 10, []), (1, 10, []), (1, 10, []), (1, 10, []), (0, 10, [none, none, none, none, none]), (0, 9, [none, none, none, none, none])], L, σ) none ([(0, 11, [some 31, some 44, none, some 1, some 16, none, none, none, none, none, none]), (0, 1, [some 2, some 6, some 9, some 12, some 14, none]), (0, 2, [some 3, some 4, some 5, none]), (1, 12, []), (1, 12, []), (1, 12, []), (0, 6, [some 7, some 8, none]), (1, 50, []), (1, 50, []), (0, 6, [some 10, some 11, none]), (1, 50, []), (1, 50, []), (0, 4, [some 13, none]), (1, 50, []), (0, 4, [some 15, none]), (1, 20, []), (0, 1, [some 17, some 21, some 24, some 27, some 29, none]), (0, 2, [some 18, some 19, some 20, none]), (1, 12, []), (1, 12, []), (1, 12, []), (0, 6, [some 22, some 23, none]), (1, 50, []), (1, 50, []), (0, 6, [some 25, some 26, none]), (1, 50, []), (1, 50, []), (0, 4, [some 28, none]), (1, 50, []), (0, 4, [some 30, none]), (1, 20, []), (0, 10, [some 32, some 37, some 6, some 9, none]), (0, 9, [some 33, some 34, some 35, some 36, none]), (1, 9, []), (1, 9, []), (1, 9, []), (1, 9, []), (0, 7, [some 38, some 39, some 40, some 41, some 42, some 43, none]), (1, 10, []), (1, 10, []), (1, 10, []), (1, 10, []), (1, 10, []), (1, 10, []), (0, 10, [some 45, some 50, some 6, some 9, none]), (0, 9, [some 46, some 47, some 48, some 49, none]), (1, 9, []), (1, 9, []), (1, 9, []), (1, 9, []), (0, 7, [some 51, some 52, some 53, some 54, some 55, some 56, none]), (1, 10, []), (1, 10, []), (1, 10, []), (1, 10, []), (1, 10, []), (1, 10, []), (0, 10, [none, none, none, none, none]), (0, 9, [some 59, some 60, some 61, some 62, none]), (1, 9, []), (1, 9, []), (1, 9, []), (1, 9, [])], L, σ) := by
  refine mEv.of (by decide) rfl rfl ?_
  refine mAt.blk bk_X9_init_0 ck_X9_init_0 ?_
  refine q_aload_n rfl ?_
  refine q_oinit rfl (by decide) ?_
  refine q_aload_n rfl ?_
  refine q_bipush ?_
  refine q_newa (N := 9) (by decide) (by decide) (by decide) (by decide) (by decide) (z := 59) rfl ((mz_le hz (by decide : 59 ≤ 59)) 59 (by decide) (by decide)) ?_
  refine q_putR rfl rfl rfl ?_
  refine q_aload_n rfl ?_
  refine q_bipush ?_
  refine q_newa (N := 9) (by decide) (by decide) (by decide) (by decide) (by decide) (z := 60) rfl ((mz_le hz (by decide : 59 ≤ 60)) 60 (by decide) (by decide)) ?_
  refine q_putR rfl rfl rfl ?_
  refine q_aload_n rfl ?_
  refine q_bipush ?_
  refine q_newa (N := 9) (by decide) (by decide) (by decide) (by decide) (by decide) (z := 61) rfl ((mz_le hz (by decide : 59 ≤ 61)) 61 (by decide) (by decide)) ?_
  refine q_putR rfl rfl rfl ?_
  refine q_aload_n rfl ?_
  refine q_bipush ?_
  refine q_newa (N := 9) (by decide) (by decide) (by decide) (by decide) (by decide) (z := 62) rfl ((mz_le hz (by decide : 59 ≤ 62)) 62 (by decide) (by decide)) ?_
  refine q_putR rfl rfl rfl ?_
  exact q_vret (by decide) rfl rfl
set_option maxHeartbeats 4000000 in
set_option maxRecDepth 100000 in
theorem kn_23 {L : Nat} {σ : Sg} (hz : ∀ k, 64 ≤ k → k < 1000 → σ k = fun _ => 0) : mEv 1 37 [.ref 63] ([(0, 11, [some 31, some 44, none, some 1, some 16, none, none, none, none, none, none]), (0, 1, [some 2, some 6, some 9, some 12, some 14, none]), (0, 2, [some 3, some 4, some 5, none]), (1, 12, []), (1, 12, []), (1, 12, []), (0, 6, [some 7, some 8, none]), (1, 50, []), (1, 50, []), (0, 6, [some 10, some 11, none]), (1, 50, []), (1, 50, []), (0, 4, [some 13, none]), (1, 50, []), (0, 4, [some 15, none]), (1, 20, []), (0, 1, [some 17, some 21, some 24, some 27, some 29, none]), (0, 2, [some 18, some 19, some 20, none]), (1, 12, []), (1, 12, []), (1, 12, []), (0, 6, [some 22, some 23, none]), (1, 50, []), (1, 50, []), (0, 6, [some 25, some 26, none]), (1, 50, []), (1, 50, []), (0, 4, [some 28, none]), (1, 50, []), (0, 4, [some 30, none]), (1, 20, []), (0, 10, [some 32, some 37, some 6, some 9, none]), (0, 9, [some 33, some 34, some 35, some 36, none]), (1, 9, []), (1, 9, []), (1, 9, []), (1, 9, []), (0, 7, [some 38, some 39, some 40, some 41, some 42, some 43, none]), (1, 10, []), (1, 10, []), (1, 10, []), (1, 10, []), (1, 10, []), (1, 10, []), (0, 10, [some 45, some 50, some 6, some 9, none]), (0, 9, [some 46, some 47, some 48, some 49, none]), (1, 9, []), (1, 9, []), (1, 9, []), (1, 9, []), (0, 7, [some 51, some 52, some 53, some 54, some 55, some 56, none]), (1, 10, []), (1, 10, []), (1, 10, []), (1, 10, []), (1, 10, []), (1, 10, []), (0, 10, [some 58, none, none, none, none]), (0, 9, [some 59, some 60, some 61, some 62, none]), (1, 9, []), (1, 9, []), (1, 9, []), (1, 9, []), (0, 7, [none, none, none, none, none, none, none])], L, σ) none ([(0, 11, [some 31, some 44, none, some 1, some 16, none, none, none, none, none, none]), (0, 1, [some 2, some 6, some 9, some 12, some 14, none]), (0, 2, [some 3, some 4, some 5, none]), (1, 12, []), (1, 12, []), (1, 12, []), (0, 6, [some 7, some 8, none]), (1, 50, []), (1, 50, []), (0, 6, [some 10, some 11, none]), (1, 50, []), (1, 50, []), (0, 4, [some 13, none]), (1, 50, []), (0, 4, [some 15, none]), (1, 20, []), (0, 1, [some 17, some 21, some 24, some 27, some 29, none]), (0, 2, [some 18, some 19, some 20, none]), (1, 12, []), (1, 12, []), (1, 12, []), (0, 6, [some 22, some 23, none]), (1, 50, []), (1, 50, []), (0, 6, [some 25, some 26, none]), (1, 50, []), (1, 50, []), (0, 4, [some 28, none]), (1, 50, []), (0, 4, [some 30, none]), (1, 20, []), (0, 10, [some 32, some 37, some 6, some 9, none]), (0, 9, [some 33, some 34, some 35, some 36, none]), (1, 9, []), (1, 9, []), (1, 9, []), (1, 9, []), (0, 7, [some 38, some 39, some 40, some 41, some 42, some 43, none]), (1, 10, []), (1, 10, []), (1, 10, []), (1, 10, []), (1, 10, []), (1, 10, []), (0, 10, [some 45, some 50, some 6, some 9, none]), (0, 9, [some 46, some 47, some 48, some 49, none]), (1, 9, []), (1, 9, []), (1, 9, []), (1, 9, []), (0, 7, [some 51, some 52, some 53, some 54, some 55, some 56, none]), (1, 10, []), (1, 10, []), (1, 10, []), (1, 10, []), (1, 10, []), (1, 10, []), (0, 10, [some 58, none, none, none, none]), (0, 9, [some 59, some 60, some 61, some 62, none]), (1, 9, []), (1, 9, []), (1, 9, []), (1, 9, []), (0, 7, [some 64, some 65, some 66, some 67, some 68, some 69, none]), (1, 10, []), (1, 10, []), (1, 10, []), (1, 10, []), (1, 10, []), (1, 10, [])], L, σ) := by
  refine mEv.of (by decide) rfl rfl ?_
  refine mAt.blk bk_X7_init_0 ck_X7_init_0 ?_
  refine q_aload_n rfl ?_
  refine q_oinit rfl (by decide) ?_
  refine q_aload_n rfl ?_
  refine q_bipush ?_
  refine q_newa (N := 10) (by decide) (by decide) (by decide) (by decide) (by decide) (z := 64) rfl ((mz_le hz (by decide : 64 ≤ 64)) 64 (by decide) (by decide)) ?_
  refine q_putR rfl rfl rfl ?_
  refine q_aload_n rfl ?_
  refine q_bipush ?_
  refine q_newa (N := 10) (by decide) (by decide) (by decide) (by decide) (by decide) (z := 65) rfl ((mz_le hz (by decide : 64 ≤ 65)) 65 (by decide) (by decide)) ?_
  refine q_putR rfl rfl rfl ?_
  refine q_aload_n rfl ?_
  refine q_bipush ?_
  refine q_newa (N := 10) (by decide) (by decide) (by decide) (by decide) (by decide) (z := 66) rfl ((mz_le hz (by decide : 64 ≤ 66)) 66 (by decide) (by decide)) ?_
  refine q_putR rfl rfl rfl ?_
  refine q_aload_n rfl ?_
  refine q_bipush ?_
  refine q_newa (N := 10) (by decide) (by decide) (by decide) (by decide) (by decide) (z := 67) rfl ((mz_le hz (by decide : 64 ≤ 67)) 67 (by decide) (by decide)) ?_
  refine q_putR rfl rfl rfl ?_
  refine q_aload_n rfl ?_
  refine q_bipush ?_
  refine q_newa (N := 10) (by decide) (by decide) (by decide) (by decide) (by decide) (z := 68) rfl ((mz_le hz (by decide : 64 ≤ 68)) 68 (by decide) (by decide)) ?_
  refine q_putR rfl rfl rfl ?_
  refine q_aload_n rfl ?_
  refine q_bipush ?_
  refine q_newa (N := 10) (by decide) (by decide) (by decide) (by decide) (by decide) (z := 69) rfl ((mz_le hz (by decide : 64 ≤ 69)) 69 (by decide) (by decide)) ?_
  refine q_putR rfl rfl rfl ?_
  exact q_vret (by decide) rfl rfl
set_option maxHeartbeats 4000000 in
set_option maxRecDepth 100000 in
theorem kn_21 {L : Nat} {σ : Sg} (hz : ∀ k, 58 ≤ k → k < 1000 → σ k = fun _ => 0) : mEv 2 67 [.ref 57, .ref 21, .ref 24] ([(0, 11, [some 31, some 44, none, some 1, some 16, none, none, none, none, none, none]), (0, 1, [some 2, some 6, some 9, some 12, some 14, none]), (0, 2, [some 3, some 4, some 5, none]), (1, 12, []), (1, 12, []), (1, 12, []), (0, 6, [some 7, some 8, none]), (1, 50, []), (1, 50, []), (0, 6, [some 10, some 11, none]), (1, 50, []), (1, 50, []), (0, 4, [some 13, none]), (1, 50, []), (0, 4, [some 15, none]), (1, 20, []), (0, 1, [some 17, some 21, some 24, some 27, some 29, none]), (0, 2, [some 18, some 19, some 20, none]), (1, 12, []), (1, 12, []), (1, 12, []), (0, 6, [some 22, some 23, none]), (1, 50, []), (1, 50, []), (0, 6, [some 25, some 26, none]), (1, 50, []), (1, 50, []), (0, 4, [some 28, none]), (1, 50, []), (0, 4, [some 30, none]), (1, 20, []), (0, 10, [some 32, some 37, some 6, some 9, none]), (0, 9, [some 33, some 34, some 35, some 36, none]), (1, 9, []), (1, 9, []), (1, 9, []), (1, 9, []), (0, 7, [some 38, some 39, some 40, some 41, some 42, some 43, none]), (1, 10, []), (1, 10, []), (1, 10, []), (1, 10, []), (1, 10, []), (1, 10, []), (0, 10, [some 45, some 50, some 6, some 9, none]), (0, 9, [some 46, some 47, some 48, some 49, none]), (1, 9, []), (1, 9, []), (1, 9, []), (1, 9, []), (0, 7, [some 51, some 52, some 53, some 54, some 55, some 56, none]), (1, 10, []), (1, 10, []), (1, 10, []), (1, 10, []), (1, 10, []), (1, 10, []), (0, 10, [none, none, none, none, none])], L, σ) none ([(0, 11, [some 31, some 44, none, some 1, some 16, none, none, none, none, none, none]), (0, 1, [some 2, some 6, some 9, some 12, some 14, none]), (0, 2, [some 3, some 4, some 5, none]), (1, 12, []), (1, 12, []), (1, 12, []), (0, 6, [some 7, some 8, none]), (1, 50, []), (1, 50, []), (0, 6, [some 10, some 11, none]), (1, 50, []), (1, 50, []), (0, 4, [some 13, none]), (1, 50, []), (0, 4, [some 15, none]), (1, 20, []), (0, 1, [some 17, some 21, some 24, some 27, some 29, none]), (0, 2, [some 18, some 19, some 20, none]), (1, 12, []), (1, 12, []), (1, 12, []), (0, 6, [some 22, some 23, none]), (1, 50, []), (1, 50, []), (0, 6, [some 25, some 26, none]), (1, 50, []), (1, 50, []), (0, 4, [some 28, none]), (1, 50, []), (0, 4, [some 30, none]), (1, 20, []), (0, 10, [some 32, some 37, some 6, some 9, none]), (0, 9, [some 33, some 34, some 35, some 36, none]), (1, 9, []), (1, 9, []), (1, 9, []), (1, 9, []), (0, 7, [some 38, some 39, some 40, some 41, some 42, some 43, none]), (1, 10, []), (1, 10, []), (1, 10, []), (1, 10, []), (1, 10, []), (1, 10, []), (0, 10, [some 45, some 50, some 6, some 9, none]), (0, 9, [some 46, some 47, some 48, some 49, none]), (1, 9, []), (1, 9, []), (1, 9, []), (1, 9, []), (0, 7, [some 51, some 52, some 53, some 54, some 55, some 56, none]), (1, 10, []), (1, 10, []), (1, 10, []), (1, 10, []), (1, 10, []), (1, 10, []), (0, 10, [some 58, some 63, some 21, some 24, none]), (0, 9, [some 59, some 60, some 61, some 62, none]), (1, 9, []), (1, 9, []), (1, 9, []), (1, 9, []), (0, 7, [some 64, some 65, some 66, some 67, some 68, some 69, none]), (1, 10, []), (1, 10, []), (1, 10, []), (1, 10, []), (1, 10, []), (1, 10, [])], L, σ) := by
  refine mEv.of (by decide) rfl rfl ?_
  refine mAt.blk bk_X10_init_0 ck_X10_init_0 ?_
  refine q_aload_n rfl ?_
  refine q_oinit rfl (by decide) ?_
  refine q_aload_n rfl ?_
  refine q_new (by decide) (by decide) (z := 58) rfl ((mz_le hz (by decide : 58 ≤ 58)) 58 (by decide) (by decide)) (k0 := 5) rfl ?_
  refine q_dupR ?_
  refine q_init0 rfl rfl (cu' := 5) (su' := 41) rfl rfl (by decide) rfl (by decide) (kn_22 (mz_le hz (by decide : 58 ≤ 59))) ?_
  refine q_putR rfl rfl rfl ?_
  refine q_aload_n rfl ?_
  refine q_new (by decide) (by decide) (z := 63) rfl ((mz_le hz (by decide : 58 ≤ 63)) 63 (by decide) (by decide)) (k0 := 7) rfl ?_
  refine q_dupR ?_
  refine q_init0 rfl rfl (cu' := 12) (su' := 108) rfl rfl (by decide) rfl (by decide) (kn_23 (mz_le hz (by decide : 58 ≤ 64))) ?_
  refine q_putR rfl rfl rfl ?_
  refine q_aload_n rfl ?_
  refine q_aload_n rfl ?_
  refine q_putR rfl rfl rfl ?_
  refine q_aload_n rfl ?_
  refine q_aload_n rfl ?_
  refine q_putR rfl rfl rfl ?_
  exact q_vret (by decide) rfl rfl
def bk_X3_init_0 : List mI := [(.aload_n 0, 1, 0, 0, 0, []), (.invokespecial 3, 3, 999, 0, 273, []), (.aload_n 0, 1, 0, 0, 0, []), (.new 9, 3, 6, 0, 274, []), (.dup, 1, 0, 0, 0, []), (.invokespecial 11, 3, 31, 0, 275, []), (.putfield 12, 3, 3, 0, 276, []), (.aload_n 0, 1, 0, 0, 0, []), (.aload_n 1, 1, 0, 0, 0, []), (.putfield 18, 3, 3, 1, 278, []), (.return_, 1, 0, 0, 0, [])]
theorem ck_X3_init_0 : mChk 13 0 bk_X3_init_0 = true := by decide +kernel
set_option maxHeartbeats 4000000 in
set_option maxRecDepth 100000 in
theorem kn_25 {L : Nat} {σ : Sg} (hz : ∀ k, 72 ≤ k → k < 1000 → σ k = fun _ => 0) : mEv 1 31 [.ref 71] ([(0, 11, [some 31, some 44, some 57, some 1, some 16, none, none, none, none, none, none]), (0, 1, [some 2, some 6, some 9, some 12, some 14, none]), (0, 2, [some 3, some 4, some 5, none]), (1, 12, []), (1, 12, []), (1, 12, []), (0, 6, [some 7, some 8, none]), (1, 50, []), (1, 50, []), (0, 6, [some 10, some 11, none]), (1, 50, []), (1, 50, []), (0, 4, [some 13, none]), (1, 50, []), (0, 4, [some 15, none]), (1, 20, []), (0, 1, [some 17, some 21, some 24, some 27, some 29, none]), (0, 2, [some 18, some 19, some 20, none]), (1, 12, []), (1, 12, []), (1, 12, []), (0, 6, [some 22, some 23, none]), (1, 50, []), (1, 50, []), (0, 6, [some 25, some 26, none]), (1, 50, []), (1, 50, []), (0, 4, [some 28, none]), (1, 50, []), (0, 4, [some 30, none]), (1, 20, []), (0, 10, [some 32, some 37, some 6, some 9, none]), (0, 9, [some 33, some 34, some 35, some 36, none]), (1, 9, []), (1, 9, []), (1, 9, []), (1, 9, []), (0, 7, [some 38, some 39, some 40, some 41, some 42, some 43, none]), (1, 10, []), (1, 10, []), (1, 10, []), (1, 10, []), (1, 10, []), (1, 10, []), (0, 10, [some 45, some 50, some 6, some 9, none]), (0, 9, [some 46, some 47, some 48, some 49, none]), (1, 9, []), (1, 9, []), (1, 9, []), (1, 9, []), (0, 7, [some 51, some 52, some 53, some 54, some 55, some 56, none]), (1, 10, []), (1, 10, []), (1, 10, []), (1, 10, []), (1, 10, []), (1, 10, []), (0, 10, [some 58, some 63, some 21, some 24, none]), (0, 9, [some 59, some 60, some 61, some 62, none]), (1, 9, []), (1, 9, []), (1, 9, []), (1, 9, []), (0, 7, [some 64, some 65, some 66, some 67, some 68, some 69, none]), (1, 10, []), (1, 10, []), (1, 10, []), (1, 10, []), (1, 10, []), (1, 10, []), (0, 3, [none, none, none, none]), (0, 6, [none, none, none])], L, σ) none ([(0, 11, [some 31, some 44, some 57, some 1, some 16, none, none, none, none, none, none]), (0, 1, [some 2, some 6, some 9, some 12, some 14, none]), (0, 2, [some 3, some 4, some 5, none]), (1, 12, []), (1, 12, []), (1, 12, []), (0, 6, [some 7, some 8, none]), (1, 50, []), (1, 50, []), (0, 6, [some 10, some 11, none]), (1, 50, []), (1, 50, []), (0, 4, [some 13, none]), (1, 50, []), (0, 4, [some 15, none]), (1, 20, []), (0, 1, [some 17, some 21, some 24, some 27, some 29, none]), (0, 2, [some 18, some 19, some 20, none]), (1, 12, []), (1, 12, []), (1, 12, []), (0, 6, [some 22, some 23, none]), (1, 50, []), (1, 50, []), (0, 6, [some 25, some 26, none]), (1, 50, []), (1, 50, []), (0, 4, [some 28, none]), (1, 50, []), (0, 4, [some 30, none]), (1, 20, []), (0, 10, [some 32, some 37, some 6, some 9, none]), (0, 9, [some 33, some 34, some 35, some 36, none]), (1, 9, []), (1, 9, []), (1, 9, []), (1, 9, []), (0, 7, [some 38, some 39, some 40, some 41, some 42, some 43, none]), (1, 10, []), (1, 10, []), (1, 10, []), (1, 10, []), (1, 10, []), (1, 10, []), (0, 10, [some 45, some 50, some 6, some 9, none]), (0, 9, [some 46, some 47, some 48, some 49, none]), (1, 9, []), (1, 9, []), (1, 9, []), (1, 9, []), (0, 7, [some 51, some 52, some 53, some 54, some 55, some 56, none]), (1, 10, []), (1, 10, []), (1, 10, []), (1, 10, []), (1, 10, []), (1, 10, []), (0, 10, [some 58, some 63, some 21, some 24, none]), (0, 9, [some 59, some 60, some 61, some 62, none]), (1, 9, []), (1, 9, []), (1, 9, []), (1, 9, []), (0, 7, [some 64, some 65, some 66, some 67, some 68, some 69, none]), (1, 10, []), (1, 10, []), (1, 10, []), (1, 10, []), (1, 10, []), (1, 10, []), (0, 3, [none, none, none, none]), (0, 6, [some 72, some 73, none]), (1, 50, []), (1, 50, [])], L, σ) := by
  refine mEv.of (by decide) rfl rfl ?_
  refine mAt.blk bk_X6_init_0 ck_X6_init_0 ?_
  refine q_aload_n rfl ?_
  refine q_oinit rfl (by decide) ?_
  refine q_aload_n rfl ?_
  refine q_bipush ?_
  refine q_newa (N := 50) (by decide) (by decide) (by decide) (by decide) (by decide) (z := 72) rfl ((mz_le hz (by decide : 72 ≤ 72)) 72 (by decide) (by decide)) ?_
  refine q_putR rfl rfl rfl ?_
  refine q_aload_n rfl ?_
  refine q_bipush ?_
  refine q_newa (N := 50) (by decide) (by decide) (by decide) (by decide) (by decide) (z := 73) rfl ((mz_le hz (by decide : 72 ≤ 73)) 73 (by decide) (by decide)) ?_
  refine q_putR rfl rfl rfl ?_
  exact q_vret (by decide) rfl rfl
set_option maxHeartbeats 4000000 in
set_option maxRecDepth 100000 in
theorem kn_24 {L : Nat} {σ : Sg} (hz : ∀ k, 71 ≤ k → k < 1000 → σ k = fun _ => 0) : mEv 2 13 [.ref 70, .ref 12] ([(0, 11, [some 31, some 44, some 57, some 1, some 16, none, none, none, none, none, none]), (0, 1, [some 2, some 6, some 9, some 12, some 14, none]), (0, 2, [some 3, some 4, some 5, none]), (1, 12, []), (1, 12, []), (1, 12, []), (0, 6, [some 7, some 8, none]), (1, 50, []), (1, 50, []), (0, 6, [some 10, some 11, none]), (1, 50, []), (1, 50, []), (0, 4, [some 13, none]), (1, 50, []), (0, 4, [some 15, none]), (1, 20, []), (0, 1, [some 17, some 21, some 24, some 27, some 29, none]), (0, 2, [some 18, some 19, some 20, none]), (1, 12, []), (1, 12, []), (1, 12, []), (0, 6, [some 22, some 23, none]), (1, 50, []), (1, 50, []), (0, 6, [some 25, some 26, none]), (1, 50, []), (1, 50, []), (0, 4, [some 28, none]), (1, 50, []), (0, 4, [some 30, none]), (1, 20, []), (0, 10, [some 32, some 37, some 6, some 9, none]), (0, 9, [some 33, some 34, some 35, some 36, none]), (1, 9, []), (1, 9, []), (1, 9, []), (1, 9, []), (0, 7, [some 38, some 39, some 40, some 41, some 42, some 43, none]), (1, 10, []), (1, 10, []), (1, 10, []), (1, 10, []), (1, 10, []), (1, 10, []), (0, 10, [some 45, some 50, some 6, some 9, none]), (0, 9, [some 46, some 47, some 48, some 49, none]), (1, 9, []), (1, 9, []), (1, 9, []), (1, 9, []), (0, 7, [some 51, some 52, some 53, some 54, some 55, some 56, none]), (1, 10, []), (1, 10, []), (1, 10, []), (1, 10, []), (1, 10, []), (1, 10, []), (0, 10, [some 58, some 63, some 21, some 24, none]), (0, 9, [some 59, some 60, some 61, some 62, none]), (1, 9, []), (1, 9, []), (1, 9, []), (1, 9, []), (0, 7, [some 64, some 65, some 66, some 67, some 68, some 69, none]), (1, 10, []), (1, 10, []), (1, 10, []), (1, 10, []), (1, 10, []), (1, 10, []), (0, 3, [none, none, none, none])], L, σ) none ([(0, 11, [some 31, some 44, some 57, some 1, some 16, none, none, none, none, none, none]), (0, 1, [some 2, some 6, some 9, some 12, some 14, none]), (0, 2, [some 3, some 4, some 5, none]), (1, 12, []), (1, 12, []), (1, 12, []), (0, 6, [some 7, some 8, none]), (1, 50, []), (1, 50, []), (0, 6, [some 10, some 11, none]), (1, 50, []), (1, 50, []), (0, 4, [some 13, none]), (1, 50, []), (0, 4, [some 15, none]), (1, 20, []), (0, 1, [some 17, some 21, some 24, some 27, some 29, none]), (0, 2, [some 18, some 19, some 20, none]), (1, 12, []), (1, 12, []), (1, 12, []), (0, 6, [some 22, some 23, none]), (1, 50, []), (1, 50, []), (0, 6, [some 25, some 26, none]), (1, 50, []), (1, 50, []), (0, 4, [some 28, none]), (1, 50, []), (0, 4, [some 30, none]), (1, 20, []), (0, 10, [some 32, some 37, some 6, some 9, none]), (0, 9, [some 33, some 34, some 35, some 36, none]), (1, 9, []), (1, 9, []), (1, 9, []), (1, 9, []), (0, 7, [some 38, some 39, some 40, some 41, some 42, some 43, none]), (1, 10, []), (1, 10, []), (1, 10, []), (1, 10, []), (1, 10, []), (1, 10, []), (0, 10, [some 45, some 50, some 6, some 9, none]), (0, 9, [some 46, some 47, some 48, some 49, none]), (1, 9, []), (1, 9, []), (1, 9, []), (1, 9, []), (0, 7, [some 51, some 52, some 53, some 54, some 55, some 56, none]), (1, 10, []), (1, 10, []), (1, 10, []), (1, 10, []), (1, 10, []), (1, 10, []), (0, 10, [some 58, some 63, some 21, some 24, none]), (0, 9, [some 59, some 60, some 61, some 62, none]), (1, 9, []), (1, 9, []), (1, 9, []), (1, 9, []), (0, 7, [some 64, some 65, some 66, some 67, some 68, some 69, none]), (1, 10, []), (1, 10, []), (1, 10, []), (1, 10, []), (1, 10, []), (1, 10, []), (0, 3, [some 71, some 12, none, none]), (0, 6, [some 72, some 73, none]), (1, 50, []), (1, 50, [])], L, σ) := by
  refine mEv.of (by decide) rfl rfl ?_
  refine mAt.blk bk_X3_init_0 ck_X3_init_0 ?_
  refine q_aload_n rfl ?_
  refine q_oinit rfl (by decide) ?_
  refine q_aload_n rfl ?_
  refine q_new (by decide) (by decide) (z := 71) rfl ((mz_le hz (by decide : 71 ≤ 71)) 71 (by decide) (by decide)) (k0 := 3) rfl ?_
  refine q_dupR ?_
  refine q_init0 rfl rfl (cu' := 3) (su' := 103) rfl rfl (by decide) rfl (by decide) (kn_25 (mz_le hz (by decide : 71 ≤ 72))) ?_
  refine q_putR rfl rfl rfl ?_
  refine q_aload_n rfl ?_
  refine q_aload_n rfl ?_
  refine q_putR rfl rfl rfl ?_
  exact q_vret (by decide) rfl rfl
def bk_X0_init_0 : List mI := [(.aload_n 0, 1, 0, 0, 0, []), (.invokespecial 3, 3, 999, 0, 295, []), (.aload_n 0, 1, 0, 0, 0, []), (.new 9, 3, 9, 0, 296, []), (.dup, 1, 0, 0, 0, []), (.invokespecial 11, 3, 52, 0, 297, []), (.putfield 12, 3, 0, 0, 298, []), (.aload_n 0, 1, 0, 0, 0, []), (.bipush 9, 2, 0, 0, 0, [(9, 0)]), (.newarray .int, 2, 0, 0, 0, []), (.putfield 18, 3, 0, 1, 299, []), (.return_, 1, 0, 0, 0, [])]
theorem ck_X0_init_0 : mChk 0 0 bk_X0_init_0 = true := by decide +kernel
set_option maxHeartbeats 4000000 in
set_option maxRecDepth 100000 in
theorem kn_27 {L : Nat} {σ : Sg} (hz : ∀ k, 76 ≤ k → k < 1000 → σ k = fun _ => 0) : mEv 1 52 [.ref 75] ([(0, 11, [some 31, some 44, some 57, some 1, some 16, some 70, none, none, none, none, none]), (0, 1, [some 2, some 6, some 9, some 12, some 14, none]), (0, 2, [some 3, some 4, some 5, none]), (1, 12, []), (1, 12, []), (1, 12, []), (0, 6, [some 7, some 8, none]), (1, 50, []), (1, 50, []), (0, 6, [some 10, some 11, none]), (1, 50, []), (1, 50, []), (0, 4, [some 13, none]), (1, 50, []), (0, 4, [some 15, none]), (1, 20, []), (0, 1, [some 17, some 21, some 24, some 27, some 29, none]), (0, 2, [some 18, some 19, some 20, none]), (1, 12, []), (1, 12, []), (1, 12, []), (0, 6, [some 22, some 23, none]), (1, 50, []), (1, 50, []), (0, 6, [some 25, some 26, none]), (1, 50, []), (1, 50, []), (0, 4, [some 28, none]), (1, 50, []), (0, 4, [some 30, none]), (1, 20, []), (0, 10, [some 32, some 37, some 6, some 9, none]), (0, 9, [some 33, some 34, some 35, some 36, none]), (1, 9, []), (1, 9, []), (1, 9, []), (1, 9, []), (0, 7, [some 38, some 39, some 40, some 41, some 42, some 43, none]), (1, 10, []), (1, 10, []), (1, 10, []), (1, 10, []), (1, 10, []), (1, 10, []), (0, 10, [some 45, some 50, some 6, some 9, none]), (0, 9, [some 46, some 47, some 48, some 49, none]), (1, 9, []), (1, 9, []), (1, 9, []), (1, 9, []), (0, 7, [some 51, some 52, some 53, some 54, some 55, some 56, none]), (1, 10, []), (1, 10, []), (1, 10, []), (1, 10, []), (1, 10, []), (1, 10, []), (0, 10, [some 58, some 63, some 21, some 24, none]), (0, 9, [some 59, some 60, some 61, some 62, none]), (1, 9, []), (1, 9, []), (1, 9, []), (1, 9, []), (0, 7, [some 64, some 65, some 66, some 67, some 68, some 69, none]), (1, 10, []), (1, 10, []), (1, 10, []), (1, 10, []), (1, 10, []), (1, 10, []), (0, 3, [some 71, some 12, none, none]), (0, 6, [some 72, some 73, none]), (1, 50, []), (1, 50, []), (0, 0, [none, none, none, none, none]), (0, 9, [none, none, none, none, none])], L, σ) none ([(0, 11, [some 31, some 44, some 57, some 1, some 16, some 70, none, none, none, none, none]), (0, 1, [some 2, some 6, some 9, some 12, some 14, none]), (0, 2, [some 3, some 4, some 5, none]), (1, 12, []), (1, 12, []), (1, 12, []), (0, 6, [some 7, some 8, none]), (1, 50, []), (1, 50, []), (0, 6, [some 10, some 11, none]), (1, 50, []), (1, 50, []), (0, 4, [some 13, none]), (1, 50, []), (0, 4, [some 15, none]), (1, 20, []), (0, 1, [some 17, some 21, some 24, some 27, some 29, none]), (0, 2, [some 18, some 19, some 20, none]), (1, 12, []), (1, 12, []), (1, 12, []), (0, 6, [some 22, some 23, none]), (1, 50, []), (1, 50, []), (0, 6, [some 25, some 26, none]), (1, 50, []), (1, 50, []), (0, 4, [some 28, none]), (1, 50, []), (0, 4, [some 30, none]), (1, 20, []), (0, 10, [some 32, some 37, some 6, some 9, none]), (0, 9, [some 33, some 34, some 35, some 36, none]), (1, 9, []), (1, 9, []), (1, 9, []), (1, 9, []), (0, 7, [some 38, some 39, some 40, some 41, some 42, some 43, none]), (1, 10, []), (1, 10, []), (1, 10, []), (1, 10, []), (1, 10, []), (1, 10, []), (0, 10, [some 45, some 50, some 6, some 9, none]), (0, 9, [some 46, some 47, some 48, some 49, none]), (1, 9, []), (1, 9, []), (1, 9, []), (1, 9, []), (0, 7, [some 51, some 52, some 53, some 54, some 55, some 56, none]), (1, 10, []), (1, 10, []), (1, 10, []), (1, 10, []), (1, 10, []), (1, 10, []), (0, 10, [some 58, some 63, some 21, some 24, none]), (0, 9, [some 59, some 60, some 61, some 62, none]), (1, 9, []), (1, 9, []), (1, 9, []), (1, 9, []), (0, 7, [some 64, some 65, some 66, some 67, some 68, some 69, none]), (1, 10, []), (1, 10, []), (1, 10, []), (1, 10, []), (1, 10, []), (1, 10, []), (0, 3, [some 71, some 12, none, none]), (0, 6, [some 72, some 73, none]), (1, 50, []), (1, 50, []), (0, 0, [none, none, none, none, none]), (0, 9, [some 76, some 77, some 78, some 79, none]), (1, 9, []), (1, 9, []), (1, 9, []), (1, 9, [])], L, σ) := by
  refine mEv.of (by decide) rfl rfl ?_
  refine mAt.blk bk_X9_init_0 ck_X9_init_0 ?_
  refine q_aload_n rfl ?_
  refine q_oinit rfl (by decide) ?_
  refine q_aload_n rfl ?_
  refine q_bipush ?_
  refine q_newa (N := 9) (by decide) (by decide) (by decide) (by decide) (by decide) (z := 76) rfl ((mz_le hz (by decide : 76 ≤ 76)) 76 (by decide) (by decide)) ?_
  refine q_putR rfl rfl rfl ?_
  refine q_aload_n rfl ?_
  refine q_bipush ?_
  refine q_newa (N := 9) (by decide) (by decide) (by decide) (by decide) (by decide) (z := 77) rfl ((mz_le hz (by decide : 76 ≤ 77)) 77 (by decide) (by decide)) ?_
  refine q_putR rfl rfl rfl ?_
  refine q_aload_n rfl ?_
  refine q_bipush ?_
  refine q_newa (N := 9) (by decide) (by decide) (by decide) (by decide) (by decide) (z := 78) rfl ((mz_le hz (by decide : 76 ≤ 78)) 78 (by decide) (by decide)) ?_
  refine q_putR rfl rfl rfl ?_
  refine q_aload_n rfl ?_
  refine q_bipush ?_
  refine q_newa (N := 9) (by decide) (by decide) (by decide) (by decide) (by decide) (z := 79) rfl ((mz_le hz (by decide : 76 ≤ 79)) 79 (by decide) (by decide)) ?_
  refine q_putR rfl rfl rfl ?_
  exact q_vret (by decide) rfl rfl
set_option maxHeartbeats 4000000 in
set_option maxRecDepth 100000 in
theorem kn_26 {L : Nat} {σ : Sg} (hz : ∀ k, 75 ≤ k → k < 1000 → σ k = fun _ => 0) : mEv 2 0 [.ref 74] ([(0, 11, [some 31, some 44, some 57, some 1, some 16, some 70, none, none, none, none, none]), (0, 1, [some 2, some 6, some 9, some 12, some 14, none]), (0, 2, [some 3, some 4, some 5, none]), (1, 12, []), (1, 12, []), (1, 12, []), (0, 6, [some 7, some 8, none]), (1, 50, []), (1, 50, []), (0, 6, [some 10, some 11, none]), (1, 50, []), (1, 50, []), (0, 4, [some 13, none]), (1, 50, []), (0, 4, [some 15, none]), (1, 20, []), (0, 1, [some 17, some 21, some 24, some 27, some 29, none]), (0, 2, [some 18, some 19, some 20, none]), (1, 12, []), (1, 12, []), (1, 12, []), (0, 6, [some 22, some 23, none]), (1, 50, []), (1, 50, []), (0, 6, [some 25, some 26, none]), (1, 50, []), (1, 50, []), (0, 4, [some 28, none]), (1, 50, []), (0, 4, [some 30, none]), (1, 20, []), (0, 10, [some 32, some 37, some 6, some 9, none]), (0, 9, [some 33, some 34, some 35, some 36, none]), (1, 9, []), (1, 9, []), (1, 9, []), (1, 9, []), (0, 7, [some 38, some 39, some 40, some 41, some 42, some 43, none]), (1, 10, []), (1, 10, []), (1, 10, []), (1, 10, []), (1, 10, []), (1, 10, []), (0, 10, [some 45, some 50, some 6, some 9, none]), (0, 9, [some 46, some 47, some 48, some 49, none]), (1, 9, []), (1, 9, []), (1, 9, []), (1, 9, []), (0, 7, [some 51, some 52, some 53, some 54, some 55, some 56, none]), (1, 10, []), (1, 10, []), (1, 10, []), (1, 10, []), (1, 10, []), (1, 10, []), (0, 10, [some 58, some 63, some 21, some 24, none]), (0, 9, [some 59, some 60, some 61, some 62, none]), (1, 9, []), (1, 9, []), (1, 9, []), (1, 9, []), (0, 7, [some 64, some 65, some 66, some 67, some 68, some 69, none]), (1, 10, []), (1, 10, []), (1, 10, []), (1, 10, []), (1, 10, []), (1, 10, []), (0, 3, [some 71, some 12, none, none]), (0, 6, [some 72, some 73, none]), (1, 50, []), (1, 50, []), (0, 0, [none, none, none, none, none])], L, σ) none ([(0, 11, [some 31, some 44, some 57, some 1, some 16, some 70, none, none, none, none, none]), (0, 1, [some 2, some 6, some 9, some 12, some 14, none]), (0, 2, [some 3, some 4, some 5, none]), (1, 12, []), (1, 12, []), (1, 12, []), (0, 6, [some 7, some 8, none]), (1, 50, []), (1, 50, []), (0, 6, [some 10, some 11, none]), (1, 50, []), (1, 50, []), (0, 4, [some 13, none]), (1, 50, []), (0, 4, [some 15, none]), (1, 20, []), (0, 1, [some 17, some 21, some 24, some 27, some 29, none]), (0, 2, [some 18, some 19, some 20, none]), (1, 12, []), (1, 12, []), (1, 12, []), (0, 6, [some 22, some 23, none]), (1, 50, []), (1, 50, []), (0, 6, [some 25, some 26, none]), (1, 50, []), (1, 50, []), (0, 4, [some 28, none]), (1, 50, []), (0, 4, [some 30, none]), (1, 20, []), (0, 10, [some 32, some 37, some 6, some 9, none]), (0, 9, [some 33, some 34, some 35, some 36, none]), (1, 9, []), (1, 9, []), (1, 9, []), (1, 9, []), (0, 7, [some 38, some 39, some 40, some 41, some 42, some 43, none]), (1, 10, []), (1, 10, []), (1, 10, []), (1, 10, []), (1, 10, []), (1, 10, []), (0, 10, [some 45, some 50, some 6, some 9, none]), (0, 9, [some 46, some 47, some 48, some 49, none]), (1, 9, []), (1, 9, []), (1, 9, []), (1, 9, []), (0, 7, [some 51, some 52, some 53, some 54, some 55, some 56, none]), (1, 10, []), (1, 10, []), (1, 10, []), (1, 10, []), (1, 10, []), (1, 10, []), (0, 10, [some 58, some 63, some 21, some 24, none]), (0, 9, [some 59, some 60, some 61, some 62, none]), (1, 9, []), (1, 9, []), (1, 9, []), (1, 9, []), (0, 7, [some 64, some 65, some 66, some 67, some 68, some 69, none]), (1, 10, []), (1, 10, []), (1, 10, []), (1, 10, []), (1, 10, []), (1, 10, []), (0, 3, [some 71, some 12, none, none]), (0, 6, [some 72, some 73, none]), (1, 50, []), (1, 50, []), (0, 0, [some 75, some 80, none, none, none]), (0, 9, [some 76, some 77, some 78, some 79, none]), (1, 9, []), (1, 9, []), (1, 9, []), (1, 9, []), (1, 9, [])], L, σ) := by
  refine mEv.of (by decide) rfl rfl ?_
  refine mAt.blk bk_X0_init_0 ck_X0_init_0 ?_
  refine q_aload_n rfl ?_
  refine q_oinit rfl (by decide) ?_
  refine q_aload_n rfl ?_
  refine q_new (by decide) (by decide) (z := 75) rfl ((mz_le hz (by decide : 75 ≤ 75)) 75 (by decide) (by decide)) (k0 := 5) rfl ?_
  refine q_dupR ?_
  refine q_init0 rfl rfl (cu' := 5) (su' := 41) rfl rfl (by decide) rfl (by decide) (kn_27 (mz_le hz (by decide : 75 ≤ 76))) ?_
  refine q_putR rfl rfl rfl ?_
  refine q_aload_n rfl ?_
  refine q_bipush ?_
  refine q_newa (N := 9) (by decide) (by decide) (by decide) (by decide) (by decide) (z := 80) rfl ((mz_le hz (by decide : 75 ≤ 80)) 80 (by decide) (by decide)) ?_
  refine q_putR rfl rfl rfl ?_
  exact q_vret (by decide) rfl rfl
def bk_X8_init_0 : List mI := [(.aload_n 0, 1, 0, 0, 0, []), (.invokespecial 3, 3, 999, 0, 322, []), (.aload_n 0, 1, 0, 0, 0, []), (.bipush 40, 2, 0, 0, 0, [(40, 0)]), (.newarray .int, 2, 0, 0, 0, []), (.putfield 9, 3, 8, 0, 323, []), (.return_, 1, 0, 0, 0, [])]
theorem ck_X8_init_0 : mChk 47 0 bk_X8_init_0 = true := by decide +kernel
set_option maxHeartbeats 4000000 in
set_option maxRecDepth 100000 in
theorem kn_28 {L : Nat} {σ : Sg} (hz : ∀ k, 82 ≤ k → k < 1000 → σ k = fun _ => 0) : mEv 1 47 [.ref 81] ([(0, 11, [some 31, some 44, some 57, some 1, some 16, some 70, some 74, none, none, none, none]), (0, 1, [some 2, some 6, some 9, some 12, some 14, none]), (0, 2, [some 3, some 4, some 5, none]), (1, 12, []), (1, 12, []), (1, 12, []), (0, 6, [some 7, some 8, none]), (1, 50, []), (1, 50, []), (0, 6, [some 10, some 11, none]), (1, 50, []), (1, 50, []), (0, 4, [some 13, none]), (1, 50, []), (0, 4, [some 15, none]), (1, 20, []), (0, 1, [some 17, some 21, some 24, some 27, some 29, none]), (0, 2, [some 18, some 19, some 20, none]), (1, 12, []), (1, 12, []), (1, 12, []), (0, 6, [some 22, some 23, none]), (1, 50, []), (1, 50, []), (0, 6, [some 25, some 26, none]), (1, 50, []), (1, 50, []), (0, 4, [some 28, none]), (1, 50, []), (0, 4, [some 30, none]), (1, 20, []), (0, 10, [some 32, some 37, some 6, some 9, none]), (0, 9, [some 33, some 34, some 35, some 36, none]), (1, 9, []), (1, 9, []), (1, 9, []), (1, 9, []), (0, 7, [some 38, some 39, some 40, some 41, some 42, some 43, none]), (1, 10, []), (1, 10, []), (1, 10, []), (1, 10, []), (1, 10, []), (1, 10, []), (0, 10, [some 45, some 50, some 6, some 9, none]), (0, 9, [some 46, some 47, some 48, some 49, none]), (1, 9, []), (1, 9, []), (1, 9, []), (1, 9, []), (0, 7, [some 51, some 52, some 53, some 54, some 55, some 56, none]), (1, 10, []), (1, 10, []), (1, 10, []), (1, 10, []), (1, 10, []), (1, 10, []), (0, 10, [some 58, some 63, some 21, some 24, none]), (0, 9, [some 59, some 60, some 61, some 62, none]), (1, 9, []), (1, 9, []), (1, 9, []), (1, 9, []), (0, 7, [some 64, some 65, some 66, some 67, some 68, some 69, none]), (1, 10, []), (1, 10, []), (1, 10, []), (1, 10, []), (1, 10, []), (1, 10, []), (0, 3, [some 71, some 12, none, none]), (0, 6, [some 72, some 73, none]), (1, 50, []), (1, 50, []), (0, 0, [some 75, some 80, none, none, none]), (0, 9, [some 76, some 77, some 78, some 79, none]), (1, 9, []), (1, 9, []), (1, 9, []), (1, 9, []), (1, 9, []), (0, 8, [none, none, none, none, none])], L, σ) none ([(0, 11, [some 31, some 44, some 57, some 1, some 16, some 70, some 74, none, none, none, none]), (0, 1, [some 2, some 6, some 9, some 12, some 14, none]), (0, 2, [some 3, some 4, some 5, none]), (1, 12, []), (1, 12, []), (1, 12, []), (0, 6, [some 7, some 8, none]), (1, 50, []), (1, 50, []), (0, 6, [some 10, some 11, none]), (1, 50, []), (1, 50, []), (0, 4, [some 13, none]), (1, 50, []), (0, 4, [some 15, none]), (1, 20, []), (0, 1, [some 17, some 21, some 24, some 27, some 29, none]), (0, 2, [some 18, some 19, some 20, none]), (1, 12, []), (1, 12, []), (1, 12, []), (0, 6, [some 22, some 23, none]), (1, 50, []), (1, 50, []), (0, 6, [some 25, some 26, none]), (1, 50, []), (1, 50, []), (0, 4, [some 28, none]), (1, 50, []), (0, 4, [some 30, none]), (1, 20, []), (0, 10, [some 32, some 37, some 6, some 9, none]), (0, 9, [some 33, some 34, some 35, some 36, none]), (1, 9, []), (1, 9, []), (1, 9, []), (1, 9, []), (0, 7, [some 38, some 39, some 40, some 41, some 42, some 43, none]), (1, 10, []), (1, 10, []), (1, 10, []), (1, 10, []), (1, 10, []), (1, 10, []), (0, 10, [some 45, some 50, some 6, some 9, none]), (0, 9, [some 46, some 47, some 48, some 49, none]), (1, 9, []), (1, 9, []), (1, 9, []), (1, 9, []), (0, 7, [some 51, some 52, some 53, some 54, some 55, some 56, none]), (1, 10, []), (1, 10, []), (1, 10, []), (1, 10, []), (1, 10, []), (1, 10, []), (0, 10, [some 58, some 63, some 21, some 24, none]), (0, 9, [some 59, some 60, some 61, some 62, none]), (1, 9, []), (1, 9, []), (1, 9, []), (1, 9, []), (0, 7, [some 64, some 65, some 66, some 67, some 68, some 69, none]), (1, 10, []), (1, 10, []), (1, 10, []), (1, 10, []), (1, 10, []), (1, 10, []), (0, 3, [some 71, some 12, none, none]), (0, 6, [some 72, some 73, none]), (1, 50, []), (1, 50, []), (0, 0, [some 75, some 80, none, none, none]), (0, 9, [some 76, some 77, some 78, some 79, none]), (1, 9, []), (1, 9, []), (1, 9, []), (1, 9, []), (1, 9, []), (0, 8, [some 82, none, none, none, none]), (1, 40, [])], L, σ) := by
  refine mEv.of (by decide) rfl rfl ?_
  refine mAt.blk bk_X8_init_0 ck_X8_init_0 ?_
  refine q_aload_n rfl ?_
  refine q_oinit rfl (by decide) ?_
  refine q_aload_n rfl ?_
  refine q_bipush ?_
  refine q_newa (N := 40) (by decide) (by decide) (by decide) (by decide) (by decide) (z := 82) rfl ((mz_le hz (by decide : 82 ≤ 82)) 82 (by decide) (by decide)) ?_
  refine q_putR rfl rfl rfl ?_
  exact q_vret (by decide) rfl rfl
def bk_X11_init_151 : List mI := [(.iload_n 1, 1, 0, 0, 0, []), (.aload_n 0, 1, 0, 0, 0, []), (.getfield 70, 3, 11, 8, 369, []), (.arraylength, 1, 0, 0, 0, []), (.if_icmp .ge 22, 3, 179, 0, 0, []), (.aload_n 0, 1, 0, 0, 0, []), (.getfield 70, 3, 11, 8, 369, []), (.iload_n 1, 1, 0, 0, 0, []), (.new 68, 3, 5, 0, 341, []), (.dup, 1, 0, 0, 0, []), (.invokespecial 74, 3, 27, 0, 344, []), (.aastore, 1, 0, 0, 0, []), (.iinc 1 1, 3, 0, 0, 0, [(1, 0)]), (.goto (-25), 3, 151, 0, 0, [])]
theorem ck_X11_init_151 : mChk 80 151 bk_X11_init_151 = true := by decide +kernel
def bk_X5_init_0 : List mI := [(.aload_n 0, 1, 0, 0, 0, []), (.invokespecial 3, 3, 999, 0, 347, []), (.aload_n 0, 1, 0, 0, 0, []), (.bipush 40, 2, 0, 0, 0, [(40, 0)]), (.newarray .int, 2, 0, 0, 0, []), (.putfield 9, 3, 5, 0, 348, []), (.return_, 1, 0, 0, 0, [])]
theorem ck_X5_init_0 : mChk 27 0 bk_X5_init_0 = true := by decide +kernel
set_option maxHeartbeats 4000000 in
set_option maxRecDepth 100000 in
theorem kn_29 {L : Nat} {σ : Sg} (hz : ∀ k, 85 ≤ k → k < 1000 → σ k = fun _ => 0) : mEv 1 27 [.ref 84] ([(0, 11, [some 31, some 44, some 57, some 1, some 16, some 70, some 74, some 81, some 83, none, none]), (0, 1, [some 2, some 6, some 9, some 12, some 14, none]), (0, 2, [some 3, some 4, some 5, none]), (1, 12, []), (1, 12, []), (1, 12, []), (0, 6, [some 7, some 8, none]), (1, 50, []), (1, 50, []), (0, 6, [some 10, some 11, none]), (1, 50, []), (1, 50, []), (0, 4, [some 13, none]), (1, 50, []), (0, 4, [some 15, none]), (1, 20, []), (0, 1, [some 17, some 21, some 24, some 27, some 29, none]), (0, 2, [some 18, some 19, some 20, none]), (1, 12, []), (1, 12, []), (1, 12, []), (0, 6, [some 22, some 23, none]), (1, 50, []), (1, 50, []), (0, 6, [some 25, some 26, none]), (1, 50, []), (1, 50, []), (0, 4, [some 28, none]), (1, 50, []), (0, 4, [some 30, none]), (1, 20, []), (0, 10, [some 32, some 37, some 6, some 9, none]), (0, 9, [some 33, some 34, some 35, some 36, none]), (1, 9, []), (1, 9, []), (1, 9, []), (1, 9, []), (0, 7, [some 38, some 39, some 40, some 41, some 42, some 43, none]), (1, 10, []), (1, 10, []), (1, 10, []), (1, 10, []), (1, 10, []), (1, 10, []), (0, 10, [some 45, some 50, some 6, some 9, none]), (0, 9, [some 46, some 47, some 48, some 49, none]), (1, 9, []), (1, 9, []), (1, 9, []), (1, 9, []), (0, 7, [some 51, some 52, some 53, some 54, some 55, some 56, none]), (1, 10, []), (1, 10, []), (1, 10, []), (1, 10, []), (1, 10, []), (1, 10, []), (0, 10, [some 58, some 63, some 21, some 24, none]), (0, 9, [some 59, some 60, some 61, some 62, none]), (1, 9, []), (1, 9, []), (1, 9, []), (1, 9, []), (0, 7, [some 64, some 65, some 66, some 67, some 68, some 69, none]), (1, 10, []), (1, 10, []), (1, 10, []), (1, 10, []), (1, 10, []), (1, 10, []), (0, 3, [some 71, some 12, none, none]), (0, 6, [some 72, some 73, none]), (1, 50, []), (1, 50, []), (0, 0, [some 75, some 80, none, none, none]), (0, 9, [some 76, some 77, some 78, some 79, none]), (1, 9, []), (1, 9, []), (1, 9, []), (1, 9, []), (1, 9, []), (0, 8, [some 82, none, none, none, none]), (1, 40, []), (3, 4, [none, none, none, none]), (0, 5, [none, none, none])], L, σ) none ([(0, 11, [some 31, some 44, some 57, some 1, some 16, some 70, some 74, some 81, some 83, none, none]), (0, 1, [some 2, some 6, some 9, some 12, some 14, none]), (0, 2, [some 3, some 4, some 5, none]), (1, 12, []), (1, 12, []), (1, 12, []), (0, 6, [some 7, some 8, none]), (1, 50, []), (1, 50, []), (0, 6, [some 10, some 11, none]), (1, 50, []), (1, 50, []), (0, 4, [some 13, none]), (1, 50, []), (0, 4, [some 15, none]), (1, 20, []), (0, 1, [some 17, some 21, some 24, some 27, some 29, none]), (0, 2, [some 18, some 19, some 20, none]), (1, 12, []), (1, 12, []), (1, 12, []), (0, 6, [some 22, some 23, none]), (1, 50, []), (1, 50, []), (0, 6, [some 25, some 26, none]), (1, 50, []), (1, 50, []), (0, 4, [some 28, none]), (1, 50, []), (0, 4, [some 30, none]), (1, 20, []), (0, 10, [some 32, some 37, some 6, some 9, none]), (0, 9, [some 33, some 34, some 35, some 36, none]), (1, 9, []), (1, 9, []), (1, 9, []), (1, 9, []), (0, 7, [some 38, some 39, some 40, some 41, some 42, some 43, none]), (1, 10, []), (1, 10, []), (1, 10, []), (1, 10, []), (1, 10, []), (1, 10, []), (0, 10, [some 45, some 50, some 6, some 9, none]), (0, 9, [some 46, some 47, some 48, some 49, none]), (1, 9, []), (1, 9, []), (1, 9, []), (1, 9, []), (0, 7, [some 51, some 52, some 53, some 54, some 55, some 56, none]), (1, 10, []), (1, 10, []), (1, 10, []), (1, 10, []), (1, 10, []), (1, 10, []), (0, 10, [some 58, some 63, some 21, some 24, none]), (0, 9, [some 59, some 60, some 61, some 62, none]), (1, 9, []), (1, 9, []), (1, 9, []), (1, 9, []), (0, 7, [some 64, some 65, some 66, some 67, some 68, some 69, none]), (1, 10, []), (1, 10, []), (1, 10, []), (1, 10, []), (1, 10, []), (1, 10, []), (0, 3, [some 71, some 12, none, none]), (0, 6, [some 72, some 73, none]), (1, 50, []), (1, 50, []), (0, 0, [some 75, some 80, none, none, none]), (0, 9, [some 76, some 77, some 78, some 79, none]), (1, 9, []), (1, 9, []), (1, 9, []), (1, 9, []), (1, 9, []), (0, 8, [some 82, none, none, none, none]), (1, 40, []), (3, 4, [none, none, none, none]), (0, 5, [some 85, none, none]), (1, 40, [])], L, σ) := by
  refine mEv.of (by decide) rfl rfl ?_
  refine mAt.blk bk_X5_init_0 ck_X5_init_0 ?_
  refine q_aload_n rfl ?_
  refine q_oinit rfl (by decide) ?_
  refine q_aload_n rfl ?_
  refine q_bipush ?_
  refine q_newa (N := 40) (by decide) (by decide) (by decide) (by decide) (by decide) (z := 85) rfl ((mz_le hz (by decide : 85 ≤ 85)) 85 (by decide) (by decide)) ?_
  refine q_putR rfl rfl rfl ?_
  exact q_vret (by decide) rfl rfl
set_option maxHeartbeats 4000000 in
set_option maxRecDepth 100000 in
theorem kn_30 {L : Nat} {σ : Sg} (hz : ∀ k, 87 ≤ k → k < 1000 → σ k = fun _ => 0) : mEv 1 27 [.ref 86] ([(0, 11, [some 31, some 44, some 57, some 1, some 16, some 70, some 74, some 81, some 83, none, none]), (0, 1, [some 2, some 6, some 9, some 12, some 14, none]), (0, 2, [some 3, some 4, some 5, none]), (1, 12, []), (1, 12, []), (1, 12, []), (0, 6, [some 7, some 8, none]), (1, 50, []), (1, 50, []), (0, 6, [some 10, some 11, none]), (1, 50, []), (1, 50, []), (0, 4, [some 13, none]), (1, 50, []), (0, 4, [some 15, none]), (1, 20, []), (0, 1, [some 17, some 21, some 24, some 27, some 29, none]), (0, 2, [some 18, some 19, some 20, none]), (1, 12, []), (1, 12, []), (1, 12, []), (0, 6, [some 22, some 23, none]), (1, 50, []), (1, 50, []), (0, 6, [some 25, some 26, none]), (1, 50, []), (1, 50, []), (0, 4, [some 28, none]), (1, 50, []), (0, 4, [some 30, none]), (1, 20, []), (0, 10, [some 32, some 37, some 6, some 9, none]), (0, 9, [some 33, some 34, some 35, some 36, none]), (1, 9, []), (1, 9, []), (1, 9, []), (1, 9, []), (0, 7, [some 38, some 39, some 40, some 41, some 42, some 43, none]), (1, 10, []), (1, 10, []), (1, 10, []), (1, 10, []), (1, 10, []), (1, 10, []), (0, 10, [some 45, some 50, some 6, some 9, none]), (0, 9, [some 46, some 47, some 48, some 49, none]), (1, 9, []), (1, 9, []), (1, 9, []), (1, 9, []), (0, 7, [some 51, some 52, some 53, some 54, some 55, some 56, none]), (1, 10, []), (1, 10, []), (1, 10, []), (1, 10, []), (1, 10, []), (1, 10, []), (0, 10, [some 58, some 63, some 21, some 24, none]), (0, 9, [some 59, some 60, some 61, some 62, none]), (1, 9, []), (1, 9, []), (1, 9, []), (1, 9, []), (0, 7, [some 64, some 65, some 66, some 67, some 68, some 69, none]), (1, 10, []), (1, 10, []), (1, 10, []), (1, 10, []), (1, 10, []), (1, 10, []), (0, 3, [some 71, some 12, none, none]), (0, 6, [some 72, some 73, none]), (1, 50, []), (1, 50, []), (0, 0, [some 75, some 80, none, none, none]), (0, 9, [some 76, some 77, some 78, some 79, none]), (1, 9, []), (1, 9, []), (1, 9, []), (1, 9, []), (1, 9, []), (0, 8, [some 82, none, none, none, none]), (1, 40, []), (3, 4, [some 84, none, none, none]), (0, 5, [some 85, none, none]), (1, 40, []), (0, 5, [none, none, none])], L, σ) none ([(0, 11, [some 31, some 44, some 57, some 1, some 16, some 70, some 74, some 81, some 83, none, none]), (0, 1, [some 2, some 6, some 9, some 12, some 14, none]), (0, 2, [some 3, some 4, some 5, none]), (1, 12, []), (1, 12, []), (1, 12, []), (0, 6, [some 7, some 8, none]), (1, 50, []), (1, 50, []), (0, 6, [some 10, some 11, none]), (1, 50, []), (1, 50, []), (0, 4, [some 13, none]), (1, 50, []), (0, 4, [some 15, none]), (1, 20, []), (0, 1, [some 17, some 21, some 24, some 27, some 29, none]), (0, 2, [some 18, some 19, some 20, none]), (1, 12, []), (1, 12, []), (1, 12, []), (0, 6, [some 22, some 23, none]), (1, 50, []), (1, 50, []), (0, 6, [some 25, some 26, none]), (1, 50, []), (1, 50, []), (0, 4, [some 28, none]), (1, 50, []), (0, 4, [some 30, none]), (1, 20, []), (0, 10, [some 32, some 37, some 6, some 9, none]), (0, 9, [some 33, some 34, some 35, some 36, none]), (1, 9, []), (1, 9, []), (1, 9, []), (1, 9, []), (0, 7, [some 38, some 39, some 40, some 41, some 42, some 43, none]), (1, 10, []), (1, 10, []), (1, 10, []), (1, 10, []), (1, 10, []), (1, 10, []), (0, 10, [some 45, some 50, some 6, some 9, none]), (0, 9, [some 46, some 47, some 48, some 49, none]), (1, 9, []), (1, 9, []), (1, 9, []), (1, 9, []), (0, 7, [some 51, some 52, some 53, some 54, some 55, some 56, none]), (1, 10, []), (1, 10, []), (1, 10, []), (1, 10, []), (1, 10, []), (1, 10, []), (0, 10, [some 58, some 63, some 21, some 24, none]), (0, 9, [some 59, some 60, some 61, some 62, none]), (1, 9, []), (1, 9, []), (1, 9, []), (1, 9, []), (0, 7, [some 64, some 65, some 66, some 67, some 68, some 69, none]), (1, 10, []), (1, 10, []), (1, 10, []), (1, 10, []), (1, 10, []), (1, 10, []), (0, 3, [some 71, some 12, none, none]), (0, 6, [some 72, some 73, none]), (1, 50, []), (1, 50, []), (0, 0, [some 75, some 80, none, none, none]), (0, 9, [some 76, some 77, some 78, some 79, none]), (1, 9, []), (1, 9, []), (1, 9, []), (1, 9, []), (1, 9, []), (0, 8, [some 82, none, none, none, none]), (1, 40, []), (3, 4, [some 84, none, none, none]), (0, 5, [some 85, none, none]), (1, 40, []), (0, 5, [some 87, none, none]), (1, 40, [])], L, σ) := by
  refine mEv.of (by decide) rfl rfl ?_
  refine mAt.blk bk_X5_init_0 ck_X5_init_0 ?_
  refine q_aload_n rfl ?_
  refine q_oinit rfl (by decide) ?_
  refine q_aload_n rfl ?_
  refine q_bipush ?_
  refine q_newa (N := 40) (by decide) (by decide) (by decide) (by decide) (by decide) (z := 87) rfl ((mz_le hz (by decide : 87 ≤ 87)) 87 (by decide) (by decide)) ?_
  refine q_putR rfl rfl rfl ?_
  exact q_vret (by decide) rfl rfl
set_option maxHeartbeats 4000000 in
set_option maxRecDepth 100000 in
theorem kn_31 {L : Nat} {σ : Sg} (hz : ∀ k, 89 ≤ k → k < 1000 → σ k = fun _ => 0) : mEv 1 27 [.ref 88] ([(0, 11, [some 31, some 44, some 57, some 1, some 16, some 70, some 74, some 81, some 83, none, none]), (0, 1, [some 2, some 6, some 9, some 12, some 14, none]), (0, 2, [some 3, some 4, some 5, none]), (1, 12, []), (1, 12, []), (1, 12, []), (0, 6, [some 7, some 8, none]), (1, 50, []), (1, 50, []), (0, 6, [some 10, some 11, none]), (1, 50, []), (1, 50, []), (0, 4, [some 13, none]), (1, 50, []), (0, 4, [some 15, none]), (1, 20, []), (0, 1, [some 17, some 21, some 24, some 27, some 29, none]), (0, 2, [some 18, some 19, some 20, none]), (1, 12, []), (1, 12, []), (1, 12, []), (0, 6, [some 22, some 23, none]), (1, 50, []), (1, 50, []), (0, 6, [some 25, some 26, none]), (1, 50, []), (1, 50, []), (0, 4, [some 28, none]), (1, 50, []), (0, 4, [some 30, none]), (1, 20, []), (0, 10, [some 32, some 37, some 6, some 9, none]), (0, 9, [some 33, some 34, some 35, some 36, none]), (1, 9, []), (1, 9, []), (1, 9, []), (1, 9, []), (0, 7, [some 38, some 39, some 40, some 41, some 42, some 43, none]), (1, 10, []), (1, 10, []), (1, 10, []), (1, 10, []), (1, 10, []), (1, 10, []), (0, 10, [some 45, some 50, some 6, some 9, none]), (0, 9, [some 46, some 47, some 48, some 49, none]), (1, 9, []), (1, 9, []), (1, 9, []), (1, 9, []), (0, 7, [some 51, some 52, some 53, some 54, some 55, some 56, none]), (1, 10, []), (1, 10, []), (1, 10, []), (1, 10, []), (1, 10, []), (1, 10, []), (0, 10, [some 58, some 63, some 21, some 24, none]), (0, 9, [some 59, some 60, some 61, some 62, none]), (1, 9, []), (1, 9, []), (1, 9, []), (1, 9, []), (0, 7, [some 64, some 65, some 66, some 67, some 68, some 69, none]), (1, 10, []), (1, 10, []), (1, 10, []), (1, 10, []), (1, 10, []), (1, 10, []), (0, 3, [some 71, some 12, none, none]), (0, 6, [some 72, some 73, none]), (1, 50, []), (1, 50, []), (0, 0, [some 75, some 80, none, none, none]), (0, 9, [some 76, some 77, some 78, some 79, none]), (1, 9, []), (1, 9, []), (1, 9, []), (1, 9, []), (1, 9, []), (0, 8, [some 82, none, none, none, none]), (1, 40, []), (3, 4, [some 84, some 86, none, none]), (0, 5, [some 85, none, none]), (1, 40, []), (0, 5, [some 87, none, none]), (1, 40, []), (0, 5, [none, none, none])], L, σ) none ([(0, 11, [some 31, some 44, some 57, some 1, some 16, some 70, some 74, some 81, some 83, none, none]), (0, 1, [some 2, some 6, some 9, some 12, some 14, none]), (0, 2, [some 3, some 4, some 5, none]), (1, 12, []), (1, 12, []), (1, 12, []), (0, 6, [some 7, some 8, none]), (1, 50, []), (1, 50, []), (0, 6, [some 10, some 11, none]), (1, 50, []), (1, 50, []), (0, 4, [some 13, none]), (1, 50, []), (0, 4, [some 15, none]), (1, 20, []), (0, 1, [some 17, some 21, some 24, some 27, some 29, none]), (0, 2, [some 18, some 19, some 20, none]), (1, 12, []), (1, 12, []), (1, 12, []), (0, 6, [some 22, some 23, none]), (1, 50, []), (1, 50, []), (0, 6, [some 25, some 26, none]), (1, 50, []), (1, 50, []), (0, 4, [some 28, none]), (1, 50, []), (0, 4, [some 30, none]), (1, 20, []), (0, 10, [some 32, some 37, some 6, some 9, none]), (0, 9, [some 33, some 34, some 35, some 36, none]), (1, 9, []), (1, 9, []), (1, 9, []), (1, 9, []), (0, 7, [some 38, some 39, some 40, some 41, some 42, some 43, none]), (1, 10, []), (1, 10, []), (1, 10, []), (1, 10, []), (1, 10, []), (1, 10, []), (0, 10, [some 45, some 50, some 6, some 9, none]), (0, 9, [some 46, some 47, some 48, some 49, none]), (1, 9, []), (1, 9, []), (1, 9, []), (1, 9, []), (0, 7, [some 51, some 52, some 53, some 54, some 55, some 56, none]), (1, 10, []), (1, 10, []), (1, 10, []), (1, 10, []), (1, 10, []), (1, 10, []), (0, 10, [some 58, some 63, some 21, some 24, none]), (0, 9, [some 59, some 60, some 61, some 62, none]), (1, 9, []), (1, 9, []), (1, 9, []), (1, 9, []), (0, 7, [some 64, some 65, some 66, some 67, some 68, some 69, none]), (1, 10, []), (1, 10, []), (1, 10, []), (1, 10, []), (1, 10, []), (1, 10, []), (0, 3, [some 71, some 12, none, none]), (0, 6, [some 72, some 73, none]), (1, 50, []), (1, 50, []), (0, 0, [some 75, some 80, none, none, none]), (0, 9, [some 76, some 77, some 78, some 79, none]), (1, 9, []), (1, 9, []), (1, 9, []), (1, 9, []), (1, 9, []), (0, 8, [some 82, none, none, none, none]), (1, 40, []), (3, 4, [some 84, some 86, none, none]), (0, 5, [some 85, none, none]), (1, 40, []), (0, 5, [some 87, none, none]), (1, 40, []), (0, 5, [some 89, none, none]), (1, 40, [])], L, σ) := by
  refine mEv.of (by decide) rfl rfl ?_
  refine mAt.blk bk_X5_init_0 ck_X5_init_0 ?_
  refine q_aload_n rfl ?_
  refine q_oinit rfl (by decide) ?_
  refine q_aload_n rfl ?_
  refine q_bipush ?_
  refine q_newa (N := 40) (by decide) (by decide) (by decide) (by decide) (by decide) (z := 89) rfl ((mz_le hz (by decide : 89 ≤ 89)) 89 (by decide) (by decide)) ?_
  refine q_putR rfl rfl rfl ?_
  exact q_vret (by decide) rfl rfl
set_option maxHeartbeats 4000000 in
set_option maxRecDepth 100000 in
theorem kn_32 {L : Nat} {σ : Sg} (hz : ∀ k, 91 ≤ k → k < 1000 → σ k = fun _ => 0) : mEv 1 27 [.ref 90] ([(0, 11, [some 31, some 44, some 57, some 1, some 16, some 70, some 74, some 81, some 83, none, none]), (0, 1, [some 2, some 6, some 9, some 12, some 14, none]), (0, 2, [some 3, some 4, some 5, none]), (1, 12, []), (1, 12, []), (1, 12, []), (0, 6, [some 7, some 8, none]), (1, 50, []), (1, 50, []), (0, 6, [some 10, some 11, none]), (1, 50, []), (1, 50, []), (0, 4, [some 13, none]), (1, 50, []), (0, 4, [some 15, none]), (1, 20, []), (0, 1, [some 17, some 21, some 24, some 27, some 29, none]), (0, 2, [some 18, some 19, some 20, none]), (1, 12, []), (1, 12, []), (1, 12, []), (0, 6, [some 22, some 23, none]), (1, 50, []), (1, 50, []), (0, 6, [some 25, some 26, none]), (1, 50, []), (1, 50, []), (0, 4, [some 28, none]), (1, 50, []), (0, 4, [some 30, none]), (1, 20, []), (0, 10, [some 32, some 37, some 6, some 9, none]), (0, 9, [some 33, some 34, some 35, some 36, none]), (1, 9, []), (1, 9, []), (1, 9, []), (1, 9, []), (0, 7, [some 38, some 39, some 40, some 41, some 42, some 43, none]), (1, 10, []), (1, 10, []), (1, 10, []), (1, 10, []), (1, 10, []), (1, 10, []), (0, 10, [some 45, some 50, some 6, some 9, none]), (0, 9, [some 46, some 47, some 48, some 49, none]), (1, 9, []), (1, 9, []), (1, 9, []), (1, 9, []), (0, 7, [some 51, some 52, some 53, some 54, some 55, some 56, none]), (1, 10, []), (1, 10, []), (1, 10, []), (1, 10, []), (1, 10, []), (1, 10, []), (0, 10, [some 58, some 63, some 21, some 24, none]), (0, 9, [some 59, some 60, some 61, some 62, none]), (1, 9, []), (1, 9, []), (1, 9, []), (1, 9, []), (0, 7, [some 64, some 65, some 66, some 67, some 68, some 69, none]), (1, 10, []), (1, 10, []), (1, 10, []), (1, 10, []), (1, 10, []), (1, 10, []), (0, 3, [some 71, some 12, none, none]), (0, 6, [some 72, some 73, none]), (1, 50, []), (1, 50, []), (0, 0, [some 75, some 80, none, none, none]), (0, 9, [some 76, some 77, some 78, some 79, none]), (1, 9, []), (1, 9, []), (1, 9, []), (1, 9, []), (1, 9, []), (0, 8, [some 82, none, none, none, none]), (1, 40, []), (3, 4, [some 84, some 86, some 88, none]), (0, 5, [some 85, none, none]), (1, 40, []), (0, 5, [some 87, none, none]), (1, 40, []), (0, 5, [some 89, none, none]), (1, 40, []), (0, 5, [none, none, none])], L, σ) none ([(0, 11, [some 31, some 44, some 57, some 1, some 16, some 70, some 74, some 81, some 83, none, none]), (0, 1, [some 2, some 6, some 9, some 12, some 14, none]), (0, 2, [some 3, some 4, some 5, none]), (1, 12, []), (1, 12, []), (1, 12, []), (0, 6, [some 7, some 8, none]), (1, 50, []), (1, 50, []), (0, 6, [some 10, some 11, none]), (1, 50, []), (1, 50, []), (0, 4, [some 13, none]), (1, 50, []), (0, 4, [some 15, none]), (1, 20, []), (0, 1, [some 17, some 21, some 24, some 27, some 29, none]), (0, 2, [some 18, some 19, some 20, none]), (1, 12, []), (1, 12, []), (1, 12, []), (0, 6, [some 22, some 23, none]), (1, 50, []), (1, 50, []), (0, 6, [some 25, some 26, none]), (1, 50, []), (1, 50, []), (0, 4, [some 28, none]), (1, 50, []), (0, 4, [some 30, none]), (1, 20, []), (0, 10, [some 32, some 37, some 6, some 9, none]), (0, 9, [some 33, some 34, some 35, some 36, none]), (1, 9, []), (1, 9, []), (1, 9, []), (1, 9, []), (0, 7, [some 38, some 39, some 40, some 41, some 42, some 43, none]), (1, 10, []), (1, 10, []), (1, 10, []), (1, 10, []), (1, 10, []), (1, 10, []), (0, 10, [some 45, some 50, some 6, some 9, none]), (0, 9, [some 46, some 47, some 48, some 49, none]), (1, 9, []), (1, 9, []), (1, 9, []), (1, 9, []), (0, 7, [some 51, some 52, some 53, some 54, some 55, some 56, none]), (1, 10, []), (1, 10, []), (1, 10, []), (1, 10, []), (1, 10, []), (1, 10, []), (0, 10, [some 58, some 63, some 21, some 24, none]), (0, 9, [some 59, some 60, some 61, some 62, none]), (1, 9, []), (1, 9, []), (1, 9, []), (1, 9, []), (0, 7, [some 64, some 65, some 66, some 67, some 68, some 69, none]), (1, 10, []), (1, 10, []), (1, 10, []), (1, 10, []), (1, 10, []), (1, 10, []), (0, 3, [some 71, some 12, none, none]), (0, 6, [some 72, some 73, none]), (1, 50, []), (1, 50, []), (0, 0, [some 75, some 80, none, none, none]), (0, 9, [some 76, some 77, some 78, some 79, none]), (1, 9, []), (1, 9, []), (1, 9, []), (1, 9, []), (1, 9, []), (0, 8, [some 82, none, none, none, none]), (1, 40, []), (3, 4, [some 84, some 86, some 88, none]), (0, 5, [some 85, none, none]), (1, 40, []), (0, 5, [some 87, none, none]), (1, 40, []), (0, 5, [some 89, none, none]), (1, 40, []), (0, 5, [some 91, none, none]), (1, 40, [])], L, σ) := by
  refine mEv.of (by decide) rfl rfl ?_
  refine mAt.blk bk_X5_init_0 ck_X5_init_0 ?_
  refine q_aload_n rfl ?_
  refine q_oinit rfl (by decide) ?_
  refine q_aload_n rfl ?_
  refine q_bipush ?_
  refine q_newa (N := 40) (by decide) (by decide) (by decide) (by decide) (by decide) (z := 91) rfl ((mz_le hz (by decide : 91 ≤ 91)) 91 (by decide) (by decide)) ?_
  refine q_putR rfl rfl rfl ?_
  exact q_vret (by decide) rfl rfl
def bk_X11_init_179 : List mI := [(.aload_n 0, 1, 0, 0, 0, []), (.bipush 6, 2, 0, 0, 0, [(6, 0)]), (.newarray .int, 2, 0, 0, 0, []), (.putfield 75, 3, 11, 9, 370, []), (.return_, 1, 0, 0, 0, [])]
theorem ck_X11_init_179 : mChk 80 179 bk_X11_init_179 = true := by decide +kernel
set_option maxHeartbeats 4000000 in
set_option maxRecDepth 100000 in
theorem kn_2 {L : Nat} {σ : Sg} (hz : ∀ k, 1 ≤ k → k < 1000 → σ k = fun _ => 0) : mEv 3 80 [.ref 0] ([(0, 11, [none, none, none, none, none, none, none, none, none, none, none])], L, σ) none ([(0, 11, [some 31, some 44, some 57, some 1, some 16, some 70, some 74, some 81, some 83, some 92, none]), (0, 1, [some 2, some 6, some 9, some 12, some 14, none]), (0, 2, [some 3, some 4, some 5, none]), (1, 12, []), (1, 12, []), (1, 12, []), (0, 6, [some 7, some 8, none]), (1, 50, []), (1, 50, []), (0, 6, [some 10, some 11, none]), (1, 50, []), (1, 50, []), (0, 4, [some 13, none]), (1, 50, []), (0, 4, [some 15, none]), (1, 20, []), (0, 1, [some 17, some 21, some 24, some 27, some 29, none]), (0, 2, [some 18, some 19, some 20, none]), (1, 12, []), (1, 12, []), (1, 12, []), (0, 6, [some 22, some 23, none]), (1, 50, []), (1, 50, []), (0, 6, [some 25, some 26, none]), (1, 50, []), (1, 50, []), (0, 4, [some 28, none]), (1, 50, []), (0, 4, [some 30, none]), (1, 20, []), (0, 10, [some 32, some 37, some 6, some 9, none]), (0, 9, [some 33, some 34, some 35, some 36, none]), (1, 9, []), (1, 9, []), (1, 9, []), (1, 9, []), (0, 7, [some 38, some 39, some 40, some 41, some 42, some 43, none]), (1, 10, []), (1, 10, []), (1, 10, []), (1, 10, []), (1, 10, []), (1, 10, []), (0, 10, [some 45, some 50, some 6, some 9, none]), (0, 9, [some 46, some 47, some 48, some 49, none]), (1, 9, []), (1, 9, []), (1, 9, []), (1, 9, []), (0, 7, [some 51, some 52, some 53, some 54, some 55, some 56, none]), (1, 10, []), (1, 10, []), (1, 10, []), (1, 10, []), (1, 10, []), (1, 10, []), (0, 10, [some 58, some 63, some 21, some 24, none]), (0, 9, [some 59, some 60, some 61, some 62, none]), (1, 9, []), (1, 9, []), (1, 9, []), (1, 9, []), (0, 7, [some 64, some 65, some 66, some 67, some 68, some 69, none]), (1, 10, []), (1, 10, []), (1, 10, []), (1, 10, []), (1, 10, []), (1, 10, []), (0, 3, [some 71, some 12, none, none]), (0, 6, [some 72, some 73, none]), (1, 50, []), (1, 50, []), (0, 0, [some 75, some 80, none, none, none]), (0, 9, [some 76, some 77, some 78, some 79, none]), (1, 9, []), (1, 9, []), (1, 9, []), (1, 9, []), (1, 9, []), (0, 8, [some 82, none, none, none, none]), (1, 40, []), (3, 4, [some 84, some 86, some 88, some 90]), (0, 5, [some 85, none, none]), (1, 40, []), (0, 5, [some 87, none, none]), (1, 40, []), (0, 5, [some 89, none, none]), (1, 40, []), (0, 5, [some 91, none, none]), (1, 40, []), (1, 6, [])], L, (mup (mup σ 1 5 (1 : Int32)) 16 5 (1 : Int32))) := by
  refine mEv.of (by decide) rfl rfl ?_
  refine mAt.blk bk_X11_init_0 ck_X11_init_0 ?_
  refine q_aload_n rfl ?_
  refine q_oinit rfl (by decide) ?_
  refine q_aload_n rfl ?_
  refine q_new (by decide) (by decide) (z := 1) rfl ((mz_le hz (by decide : 1 ≤ 1)) 1 (by decide) (by decide)) (k0 := 6) rfl ?_
  refine q_dupR ?_
  refine q_init0 rfl rfl (cu' := 15) (su' := 356) rfl rfl (by decide) rfl (by decide) (kn_3 (mz_le hz (by decide : 1 ≤ 2))) ?_
  refine q_putR rfl rfl rfl ?_
  refine q_aload_n rfl ?_
  refine q_new (by decide) (by decide) (z := 16) rfl ((mz_put (mz_le hz (by decide : 1 ≤ 16)) (by decide : 1 < 16)) 16 (by decide) (by decide)) (k0 := 6) rfl ?_
  refine q_dupR ?_
  refine q_init0 rfl rfl (cu' := 30) (su' := 712) rfl rfl (by decide) rfl (by decide) (kn_9 (mz_put (mz_le hz (by decide : 1 ≤ 17)) (by decide : 1 < 17))) ?_
  refine q_putR rfl rfl rfl ?_
  refine q_aload_n rfl ?_
  refine q_new (by decide) (by decide) (z := 31) rfl ((mz_put (mz_put (mz_le hz (by decide : 1 ≤ 31)) (by decide : 1 < 31)) (by decide : 16 < 31)) 31 (by decide) (by decide)) (k0 := 5) rfl ?_
  refine q_dupR ?_
  refine q_aload_n rfl ?_
  refine q_getR rfl rfl rfl ?_
  refine q_getR rfl rfl rfl ?_
  refine q_aload_n rfl ?_
  refine q_getR rfl rfl rfl ?_
  refine q_getR rfl rfl rfl ?_
  refine q_init2 rfl rfl (cu' := 43) (su' := 825) rfl rfl (by decide) rfl (by decide) (kn_15 (mz_put (mz_put (mz_le hz (by decide : 1 ≤ 32)) (by decide : 1 < 32)) (by decide : 16 < 32))) ?_
  refine q_putR rfl rfl rfl ?_
  refine q_aload_n rfl ?_
  refine q_new (by decide) (by decide) (z := 44) rfl ((mz_put (mz_put (mz_le hz (by decide : 1 ≤ 44)) (by decide : 1 < 44)) (by decide : 16 < 44)) 44 (by decide) (by decide)) (k0 := 5) rfl ?_
  refine q_dupR ?_
  refine q_aload_n rfl ?_
  refine q_getR rfl rfl rfl ?_
  refine q_getR rfl rfl rfl ?_
  refine q_aload_n rfl ?_
  refine q_getR rfl rfl rfl ?_
  refine q_getR rfl rfl rfl ?_
  refine q_init2 rfl rfl (cu' := 56) (su' := 938) rfl rfl (by decide) rfl (by decide) (kn_18 (mz_put (mz_put (mz_le hz (by decide : 1 ≤ 45)) (by decide : 1 < 45)) (by decide : 16 < 45))) ?_
  refine q_putR rfl rfl rfl ?_
  refine q_aload_n rfl ?_
  refine q_new (by decide) (by decide) (z := 57) rfl ((mz_put (mz_put (mz_le hz (by decide : 1 ≤ 57)) (by decide : 1 < 57)) (by decide : 16 < 57)) 57 (by decide) (by decide)) (k0 := 5) rfl ?_
  refine q_dupR ?_
  refine q_aload_n rfl ?_
  refine q_getR rfl rfl rfl ?_
  refine q_getR rfl rfl rfl ?_
  refine q_aload_n rfl ?_
  refine q_getR rfl rfl rfl ?_
  refine q_getR rfl rfl rfl ?_
  refine q_init2 rfl rfl (cu' := 69) (su' := 1051) rfl rfl (by decide) rfl (by decide) (kn_21 (mz_put (mz_put (mz_le hz (by decide : 1 ≤ 58)) (by decide : 1 < 58)) (by decide : 16 < 58))) ?_
  refine q_putR rfl rfl rfl ?_
  refine q_aload_n rfl ?_
  refine q_new (by decide) (by decide) (z := 70) rfl ((mz_put (mz_put (mz_le hz (by decide : 1 ≤ 70)) (by decide : 1 < 70)) (by decide : 16 < 70)) 70 (by decide) (by decide)) (k0 := 4) rfl ?_
  refine q_dupR ?_
  refine q_aload_n rfl ?_
  refine q_getR rfl rfl rfl ?_
  refine q_getR rfl rfl rfl ?_
  refine q_init1 rfl rfl (cu' := 73) (su' := 1158) rfl rfl (by decide) rfl (by decide) (kn_24 (mz_put (mz_put (mz_le hz (by decide : 1 ≤ 71)) (by decide : 1 < 71)) (by decide : 16 < 71))) ?_
  refine q_putR rfl rfl rfl ?_
  refine q_aload_n rfl ?_
  refine q_new (by decide) (by decide) (z := 74) rfl ((mz_put (mz_put (mz_le hz (by decide : 1 ≤ 74)) (by decide : 1 < 74)) (by decide : 16 < 74)) 74 (by decide) (by decide)) (k0 := 5) rfl ?_
  refine q_dupR ?_
  refine q_init0 rfl rfl (cu' := 80) (su' := 1213) rfl rfl (by decide) rfl (by decide) (kn_26 (mz_put (mz_put (mz_le hz (by decide : 1 ≤ 75)) (by decide : 1 < 75)) (by decide : 16 < 75))) ?_
  refine q_putR rfl rfl rfl ?_
  refine q_aload_n rfl ?_
  refine q_new (by decide) (by decide) (z := 81) rfl ((mz_put (mz_put (mz_le hz (by decide : 1 ≤ 81)) (by decide : 1 < 81)) (by decide : 16 < 81)) 81 (by decide) (by decide)) (k0 := 5) rfl ?_
  refine q_dupR ?_
  refine q_init0 rfl rfl (cu' := 82) (su' := 1258) rfl rfl (by decide) rfl (by decide) (kn_28 (mz_put (mz_put (mz_le hz (by decide : 1 ≤ 82)) (by decide : 1 < 82)) (by decide : 16 < 82))) ?_
  refine q_putR rfl rfl rfl ?_
  refine q_aload_n rfl ?_
  refine q_iconst ?_
  refine q_anew (N := 4) (by decide) (by decide) (by decide) (by decide) (by decide) (z := 83) rfl ((mz_put (mz_put (mz_le hz (by decide : 1 ≤ 83)) (by decide : 1 < 83)) (by decide : 16 < 83)) 83 (by decide) (by decide)) ?_
  refine q_putR rfl rfl rfl ?_
  refine q_iconst ?_
  refine q_istore_n rfl rfl ?_
  refine mAt.blk bk_X11_init_151 ck_X11_init_151 ?_
  refine q_iload_n rfl ?_
  refine q_aload_n rfl ?_
  refine q_getR rfl rfl rfl ?_
  refine q_alenQ (v := (4 : Int32)) rfl rfl ?_
  refine q_ic_ge (fun c => absurd c (by decide)) (fun _ => ?_)
  refine q_aload_n rfl ?_
  refine q_getR rfl rfl rfl ?_
  refine q_iload_n rfl ?_
  refine q_new (by decide) (by decide) (z := 84) rfl ((mz_put (mz_put (mz_le hz (by decide : 1 ≤ 84)) (by decide : 1 < 84)) (by decide : 16 < 84)) 84 (by decide) (by decide)) (k0 := 3) rfl ?_
  refine q_dupR ?_
  refine q_init0 rfl rfl (cu' := 85) (su' := 1305) rfl rfl (by decide) rfl (by decide) (kn_29 (mz_put (mz_put (mz_le hz (by decide : 1 ≤ 85)) (by decide : 1 < 85)) (by decide : 16 < 85))) ?_
  refine q_aast (j := 0) rfl rfl (by decide) (by decide) rfl ?_
  refine q_iinc rfl rfl ?_
  refine q_goto ?_
  refine mAt.blk bk_X11_init_151 ck_X11_init_151 ?_
  refine q_iload_n rfl ?_
  refine q_aload_n rfl ?_
  refine q_getR rfl rfl rfl ?_
  refine q_alenQ (v := (4 : Int32)) rfl rfl ?_
  refine q_ic_ge (fun c => absurd c (by decide)) (fun _ => ?_)
  refine q_aload_n rfl ?_
  refine q_getR rfl rfl rfl ?_
  refine q_iload_n rfl ?_
  refine q_new (by decide) (by decide) (z := 86) rfl ((mz_put (mz_put (mz_le hz (by decide : 1 ≤ 86)) (by decide : 1 < 86)) (by decide : 16 < 86)) 86 (by decide) (by decide)) (k0 := 3) rfl ?_
  refine q_dupR ?_
  refine q_init0 rfl rfl (cu' := 87) (su' := 1348) rfl rfl (by decide) rfl (by decide) (kn_30 (mz_put (mz_put (mz_le hz (by decide : 1 ≤ 87)) (by decide : 1 < 87)) (by decide : 16 < 87))) ?_
  refine q_aast (j := 1) rfl rfl (by decide) (by decide) rfl ?_
  refine q_iinc rfl rfl ?_
  refine q_goto ?_
  refine mAt.blk bk_X11_init_151 ck_X11_init_151 ?_
  refine q_iload_n rfl ?_
  refine q_aload_n rfl ?_
  refine q_getR rfl rfl rfl ?_
  refine q_alenQ (v := (4 : Int32)) rfl rfl ?_
  refine q_ic_ge (fun c => absurd c (by decide)) (fun _ => ?_)
  refine q_aload_n rfl ?_
  refine q_getR rfl rfl rfl ?_
  refine q_iload_n rfl ?_
  refine q_new (by decide) (by decide) (z := 88) rfl ((mz_put (mz_put (mz_le hz (by decide : 1 ≤ 88)) (by decide : 1 < 88)) (by decide : 16 < 88)) 88 (by decide) (by decide)) (k0 := 3) rfl ?_
  refine q_dupR ?_
  refine q_init0 rfl rfl (cu' := 89) (su' := 1391) rfl rfl (by decide) rfl (by decide) (kn_31 (mz_put (mz_put (mz_le hz (by decide : 1 ≤ 89)) (by decide : 1 < 89)) (by decide : 16 < 89))) ?_
  refine q_aast (j := 2) rfl rfl (by decide) (by decide) rfl ?_
  refine q_iinc rfl rfl ?_
  refine q_goto ?_
  refine mAt.blk bk_X11_init_151 ck_X11_init_151 ?_
  refine q_iload_n rfl ?_
  refine q_aload_n rfl ?_
  refine q_getR rfl rfl rfl ?_
  refine q_alenQ (v := (4 : Int32)) rfl rfl ?_
  refine q_ic_ge (fun c => absurd c (by decide)) (fun _ => ?_)
  refine q_aload_n rfl ?_
  refine q_getR rfl rfl rfl ?_
  refine q_iload_n rfl ?_
  refine q_new (by decide) (by decide) (z := 90) rfl ((mz_put (mz_put (mz_le hz (by decide : 1 ≤ 90)) (by decide : 1 < 90)) (by decide : 16 < 90)) 90 (by decide) (by decide)) (k0 := 3) rfl ?_
  refine q_dupR ?_
  refine q_init0 rfl rfl (cu' := 91) (su' := 1434) rfl rfl (by decide) rfl (by decide) (kn_32 (mz_put (mz_put (mz_le hz (by decide : 1 ≤ 91)) (by decide : 1 < 91)) (by decide : 16 < 91))) ?_
  refine q_aast (j := 3) rfl rfl (by decide) (by decide) rfl ?_
  refine q_iinc rfl rfl ?_
  refine q_goto ?_
  refine mAt.blk bk_X11_init_151 ck_X11_init_151 ?_
  refine q_iload_n rfl ?_
  refine q_aload_n rfl ?_
  refine q_getR rfl rfl rfl ?_
  refine q_alenQ (v := (4 : Int32)) rfl rfl ?_
  refine q_ic_ge (fun _ => ?_) (fun c => absurd (by decide) c)
  refine mAt.blk bk_X11_init_179 ck_X11_init_179 ?_
  refine q_aload_n rfl ?_
  refine q_bipush ?_
  refine q_newa (N := 6) (by decide) (by decide) (by decide) (by decide) (by decide) (z := 92) rfl ((mz_put (mz_put (mz_le hz (by decide : 1 ≤ 92)) (by decide : 1 < 92)) (by decide : 16 < 92)) 92 (by decide) (by decide)) ?_
  refine q_putR rfl rfl rfl ?_
  exact q_vret (by decide) rfl rfl
def bk_X12_init_0 : List mI := [(.aload_n 0, 1, 0, 0, 0, []), (.invokespecial 1, 3, 999, 0, 936, []), (.aload_n 0, 1, 0, 0, 0, []), (.sipush 320, 3, 0, 0, 0, [(320, 0)]), (.newarray .int, 2, 0, 0, 0, []), (.putfield 7, 3, 12, 0, 937, []), (.aload_n 0, 1, 0, 0, 0, []), (.sipush 320, 3, 0, 0, 0, [(320, 0)]), (.newarray .int, 2, 0, 0, 0, []), (.putfield 13, 3, 12, 1, 938, []), (.aload_n 0, 1, 0, 0, 0, []), (.sipush 320, 3, 0, 0, 0, [(320, 0)]), (.newarray .int, 2, 0, 0, 0, []), (.putfield 16, 3, 12, 2, 939, []), (.aload_n 0, 1, 0, 0, 0, []), (.bipush 6, 2, 0, 0, 0, [(6, 0)]), (.newarray .int, 2, 0, 0, 0, []), (.putfield 19, 3, 12, 4, 941, []), (.aload_n 0, 1, 0, 0, 0, []), (.iconst 4, 1, 0, 0, 0, [(4, 0)]), (.newarray .int, 2, 0, 0, 0, []), (.putfield 22, 3, 12, 11, 948, []), (.aload_n 0, 1, 0, 0, 0, []), (.bipush 9, 2, 0, 0, 0, [(9, 0)]), (.newarray .int, 2, 0, 0, 0, []), (.putfield 25, 3, 12, 12, 949, []), (.aload_n 0, 1, 0, 0, 0, []), (.bipush 9, 2, 0, 0, 0, [(9, 0)]), (.newarray .boolean, 2, 0, 0, 0, []), (.putfield 28, 3, 12, 13, 950, []), (.aload_n 0, 1, 0, 0, 0, []), (.bipush 40, 2, 0, 0, 0, [(40, 0)]), (.newarray .int, 2, 0, 0, 0, []), (.putfield 32, 3, 12, 14, 951, []), (.aload_n 0, 1, 0, 0, 0, []), (.iconst 4, 1, 0, 0, 0, [(4, 0)]), (.newarray .int, 2, 0, 0, 0, []), (.putfield 35, 3, 12, 17, 954, []), (.aload_n 0, 1, 0, 0, 0, []), (.iconst 4, 1, 0, 0, 0, [(4, 0)]), (.newarray .int, 2, 0, 0, 0, []), (.putfield 38, 3, 12, 18, 955, []), (.aload_n 0, 1, 0, 0, 0, []), (.sipush 160, 3, 0, 0, 0, [(160, 0)]), (.newarray .int, 2, 0, 0, 0, []), (.putfield 41, 3, 12, 19, 956, []), (.aload_n 0, 1, 0, 0, 0, []), (.bipush 40, 2, 0, 0, 0, [(40, 0)]), (.newarray .int, 2, 0, 0, 0, []), (.putfield 44, 3, 12, 20, 957, []), (.aload_n 0, 1, 0, 0, 0, []), (.getfield 7, 3, 12, 0, 937, []), (.iconst 4, 1, 0, 0, 0, [(4, 0)]), (.iconst 1, 1, 0, 0, 0, [(1, 0)]), (.iastore, 1, 0, 0, 0, []), (.return_, 1, 0, 0, 0, [])]
theorem ck_X12_init_0 : mChk 133 0 bk_X12_init_0 = true := by decide +kernel
set_option maxHeartbeats 4000000 in
set_option maxRecDepth 100000 in
theorem kn_33 {L : Nat} {σ : Sg} (hz : ∀ k, 94 ≤ k → k < 1000 → σ k = fun _ => 0) : mEv 1 133 [.ref 93] ([(0, 11, [some 31, some 44, some 57, some 1, some 16, some 70, some 74, some 81, some 83, some 92, none]), (0, 1, [some 2, some 6, some 9, some 12, some 14, none]), (0, 2, [some 3, some 4, some 5, none]), (1, 12, []), (1, 12, []), (1, 12, []), (0, 6, [some 7, some 8, none]), (1, 50, []), (1, 50, []), (0, 6, [some 10, some 11, none]), (1, 50, []), (1, 50, []), (0, 4, [some 13, none]), (1, 50, []), (0, 4, [some 15, none]), (1, 20, []), (0, 1, [some 17, some 21, some 24, some 27, some 29, none]), (0, 2, [some 18, some 19, some 20, none]), (1, 12, []), (1, 12, []), (1, 12, []), (0, 6, [some 22, some 23, none]), (1, 50, []), (1, 50, []), (0, 6, [some 25, some 26, none]), (1, 50, []), (1, 50, []), (0, 4, [some 28, none]), (1, 50, []), (0, 4, [some 30, none]), (1, 20, []), (0, 10, [some 32, some 37, some 6, some 9, none]), (0, 9, [some 33, some 34, some 35, some 36, none]), (1, 9, []), (1, 9, []), (1, 9, []), (1, 9, []), (0, 7, [some 38, some 39, some 40, some 41, some 42, some 43, none]), (1, 10, []), (1, 10, []), (1, 10, []), (1, 10, []), (1, 10, []), (1, 10, []), (0, 10, [some 45, some 50, some 6, some 9, none]), (0, 9, [some 46, some 47, some 48, some 49, none]), (1, 9, []), (1, 9, []), (1, 9, []), (1, 9, []), (0, 7, [some 51, some 52, some 53, some 54, some 55, some 56, none]), (1, 10, []), (1, 10, []), (1, 10, []), (1, 10, []), (1, 10, []), (1, 10, []), (0, 10, [some 58, some 63, some 21, some 24, none]), (0, 9, [some 59, some 60, some 61, some 62, none]), (1, 9, []), (1, 9, []), (1, 9, []), (1, 9, []), (0, 7, [some 64, some 65, some 66, some 67, some 68, some 69, none]), (1, 10, []), (1, 10, []), (1, 10, []), (1, 10, []), (1, 10, []), (1, 10, []), (0, 3, [some 71, some 12, none, none]), (0, 6, [some 72, some 73, none]), (1, 50, []), (1, 50, []), (0, 0, [some 75, some 80, none, none, none]), (0, 9, [some 76, some 77, some 78, some 79, none]), (1, 9, []), (1, 9, []), (1, 9, []), (1, 9, []), (1, 9, []), (0, 8, [some 82, none, none, none, none]), (1, 40, []), (3, 4, [some 84, some 86, some 88, some 90]), (0, 5, [some 85, none, none]), (1, 40, []), (0, 5, [some 87, none, none]), (1, 40, []), (0, 5, [some 89, none, none]), (1, 40, []), (0, 5, [some 91, none, none]), (1, 40, []), (1, 6, []), (0, 12, [none, none, none, none, none, none, none, none, none, none, none, none, none, none, none, none, none, none, none, none, none])], L, σ) none ([(0, 11, [some 31, some 44, some 57, some 1, some 16, some 70, some 74, some 81, some 83, some 92, none]), (0, 1, [some 2, some 6, some 9, some 12, some 14, none]), (0, 2, [some 3, some 4, some 5, none]), (1, 12, []), (1, 12, []), (1, 12, []), (0, 6, [some 7, some 8, none]), (1, 50, []), (1, 50, []), (0, 6, [some 10, some 11, none]), (1, 50, []), (1, 50, []), (0, 4, [some 13, none]), (1, 50, []), (0, 4, [some 15, none]), (1, 20, []), (0, 1, [some 17, some 21, some 24, some 27, some 29, none]), (0, 2, [some 18, some 19, some 20, none]), (1, 12, []), (1, 12, []), (1, 12, []), (0, 6, [some 22, some 23, none]), (1, 50, []), (1, 50, []), (0, 6, [some 25, some 26, none]), (1, 50, []), (1, 50, []), (0, 4, [some 28, none]), (1, 50, []), (0, 4, [some 30, none]), (1, 20, []), (0, 10, [some 32, some 37, some 6, some 9, none]), (0, 9, [some 33, some 34, some 35, some 36, none]), (1, 9, []), (1, 9, []), (1, 9, []), (1, 9, []), (0, 7, [some 38, some 39, some 40, some 41, some 42, some 43, none]), (1, 10, []), (1, 10, []), (1, 10, []), (1, 10, []), (1, 10, []), (1, 10, []), (0, 10, [some 45, some 50, some 6, some 9, none]), (0, 9, [some 46, some 47, some 48, some 49, none]), (1, 9, []), (1, 9, []), (1, 9, []), (1, 9, []), (0, 7, [some 51, some 52, some 53, some 54, some 55, some 56, none]), (1, 10, []), (1, 10, []), (1, 10, []), (1, 10, []), (1, 10, []), (1, 10, []), (0, 10, [some 58, some 63, some 21, some 24, none]), (0, 9, [some 59, some 60, some 61, some 62, none]), (1, 9, []), (1, 9, []), (1, 9, []), (1, 9, []), (0, 7, [some 64, some 65, some 66, some 67, some 68, some 69, none]), (1, 10, []), (1, 10, []), (1, 10, []), (1, 10, []), (1, 10, []), (1, 10, []), (0, 3, [some 71, some 12, none, none]), (0, 6, [some 72, some 73, none]), (1, 50, []), (1, 50, []), (0, 0, [some 75, some 80, none, none, none]), (0, 9, [some 76, some 77, some 78, some 79, none]), (1, 9, []), (1, 9, []), (1, 9, []), (1, 9, []), (1, 9, []), (0, 8, [some 82, none, none, none, none]), (1, 40, []), (3, 4, [some 84, some 86, some 88, some 90]), (0, 5, [some 85, none, none]), (1, 40, []), (0, 5, [some 87, none, none]), (1, 40, []), (0, 5, [some 89, none, none]), (1, 40, []), (0, 5, [some 91, none, none]), (1, 40, []), (1, 6, []), (0, 12, [some 94, some 95, some 96, none, some 97, none, none, none, none, none, none, some 98, some 99, some 100, some 101, none, none, some 102, some 103, some 104, some 105]), (1, 320, []), (1, 320, []), (1, 320, []), (1, 6, []), (1, 4, []), (1, 9, []), (2, 9, []), (1, 40, []), (1, 4, []), (1, 4, []), (1, 160, []), (1, 40, [])], L, (mup σ 94 4 (1 : Int32))) := by
  refine mEv.of (by decide) rfl rfl ?_
  refine mAt.blk bk_X12_init_0 ck_X12_init_0 ?_
  refine q_aload_n rfl ?_
  refine q_oinit rfl (by decide) ?_
  refine q_aload_n rfl ?_
  refine q_sipush ?_
  refine q_newa (N := 320) (by decide) (by decide) (by decide) (by decide) (by decide) (z := 94) rfl ((mz_le hz (by decide : 94 ≤ 94)) 94 (by decide) (by decide)) ?_
  refine q_putR rfl rfl rfl ?_
  refine q_aload_n rfl ?_
  refine q_sipush ?_
  refine q_newa (N := 320) (by decide) (by decide) (by decide) (by decide) (by decide) (z := 95) rfl ((mz_le hz (by decide : 94 ≤ 95)) 95 (by decide) (by decide)) ?_
  refine q_putR rfl rfl rfl ?_
  refine q_aload_n rfl ?_
  refine q_sipush ?_
  refine q_newa (N := 320) (by decide) (by decide) (by decide) (by decide) (by decide) (z := 96) rfl ((mz_le hz (by decide : 94 ≤ 96)) 96 (by decide) (by decide)) ?_
  refine q_putR rfl rfl rfl ?_
  refine q_aload_n rfl ?_
  refine q_bipush ?_
  refine q_newa (N := 6) (by decide) (by decide) (by decide) (by decide) (by decide) (z := 97) rfl ((mz_le hz (by decide : 94 ≤ 97)) 97 (by decide) (by decide)) ?_
  refine q_putR rfl rfl rfl ?_
  refine q_aload_n rfl ?_
  refine q_iconst ?_
  refine q_newa (N := 4) (by decide) (by decide) (by decide) (by decide) (by decide) (z := 98) rfl ((mz_le hz (by decide : 94 ≤ 98)) 98 (by decide) (by decide)) ?_
  refine q_putR rfl rfl rfl ?_
  refine q_aload_n rfl ?_
  refine q_bipush ?_
  refine q_newa (N := 9) (by decide) (by decide) (by decide) (by decide) (by decide) (z := 99) rfl ((mz_le hz (by decide : 94 ≤ 99)) 99 (by decide) (by decide)) ?_
  refine q_putR rfl rfl rfl ?_
  refine q_aload_n rfl ?_
  refine q_bipush ?_
  refine q_newz (N := 9) (by decide) (by decide) (by decide) (by decide) (by decide) (z := 100) rfl ((mz_le hz (by decide : 94 ≤ 100)) 100 (by decide) (by decide)) ?_
  refine q_putR rfl rfl rfl ?_
  refine q_aload_n rfl ?_
  refine q_bipush ?_
  refine q_newa (N := 40) (by decide) (by decide) (by decide) (by decide) (by decide) (z := 101) rfl ((mz_le hz (by decide : 94 ≤ 101)) 101 (by decide) (by decide)) ?_
  refine q_putR rfl rfl rfl ?_
  refine q_aload_n rfl ?_
  refine q_iconst ?_
  refine q_newa (N := 4) (by decide) (by decide) (by decide) (by decide) (by decide) (z := 102) rfl ((mz_le hz (by decide : 94 ≤ 102)) 102 (by decide) (by decide)) ?_
  refine q_putR rfl rfl rfl ?_
  refine q_aload_n rfl ?_
  refine q_iconst ?_
  refine q_newa (N := 4) (by decide) (by decide) (by decide) (by decide) (by decide) (z := 103) rfl ((mz_le hz (by decide : 94 ≤ 103)) 103 (by decide) (by decide)) ?_
  refine q_putR rfl rfl rfl ?_
  refine q_aload_n rfl ?_
  refine q_sipush ?_
  refine q_newa (N := 160) (by decide) (by decide) (by decide) (by decide) (by decide) (z := 104) rfl ((mz_le hz (by decide : 94 ≤ 104)) 104 (by decide) (by decide)) ?_
  refine q_putR rfl rfl rfl ?_
  refine q_aload_n rfl ?_
  refine q_bipush ?_
  refine q_newa (N := 40) (by decide) (by decide) (by decide) (by decide) (by decide) (z := 105) rfl ((mz_le hz (by decide : 94 ≤ 105)) 105 (by decide) (by decide)) ?_
  refine q_putR rfl rfl rfl ?_
  refine q_aload_n rfl ?_
  refine q_getR rfl rfl rfl ?_
  refine q_iconst ?_
  refine q_iconst ?_
  refine q_iast (j := 4) (by decide) rfl (by decide) ?_
  exact q_vret (by decide) rfl rfl
set_option maxHeartbeats 4000000 in
set_option maxRecDepth 100000 in
/-- the law, from its entry to its loop -/
theorem law_in {L d : Nat} {σ : Sg} {res : Option Value × mS} (hd : 4 ≤ d) (hz : ∀ k, 0 ≤ k → k < 1000 → σ k = fun _ => 0) (h : mAt d 231 res 18 [some (.ref 1000000), some (.ref 0), some (.ref 93), some (.int 0)] [] (mSh, L, (mup (mup (mup σ 1 5 (1 : Int32)) 16 5 (1 : Int32)) 94 4 (1 : Int32))) 106 2708) : mAt d 231 res 0 [some (.ref 1000000), none, none, none] [] ([], L, σ) 0 0 := by
  refine mAt.blk bk_L_law_0 ck_L_law_0 ?_
  refine q_new (by decide) (by decide) (z := 0) rfl ((mz_le hz (by decide : 0 ≤ 0)) 0 (by decide) (by decide)) (k0 := 11) rfl ?_
  refine q_dupR ?_
  refine q_init0 rfl rfl (cu' := 93) (su' := 1451) rfl rfl (by decide) rfl (by omega) (kn_2 (mz_le hz (by decide : 0 ≤ 1))) ?_
  refine q_astore_n rfl rfl ?_
  refine q_new (by decide) (by decide) (z := 93) rfl ((mz_put (mz_put (mz_le hz (by decide : 0 ≤ 93)) (by decide : 1 < 93)) (by decide : 16 < 93)) 93 (by decide) (by decide)) (k0 := 21) rfl ?_
  refine q_dupR ?_
  refine q_init0 rfl rfl (cu' := 106) (su' := 2708) rfl rfl (by decide) rfl (by omega) (kn_33 (mz_put (mz_put (mz_le hz (by decide : 0 ≤ 94)) (by decide : 1 < 94)) (by decide : 16 < 94))) ?_
  refine q_astore_n rfl rfl ?_
  refine q_iconst ?_
  refine q_istore_n rfl rfl ?_
  exact h
