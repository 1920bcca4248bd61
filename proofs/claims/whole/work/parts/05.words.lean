/-! words: the tables' rows by their places, what a stretch of code must be -/
def mwd (w : Nat) (c : Cond) : Bool := decide (mnth lw_tbl w = some c) && goodWord c
theorem mwd_in {w : Nat} {c : Cond} (h : mwd w c = true) : c ∈ mTb := by
  simp only [mwd, Bool.and_eq_true, decide_eq_true_eq] at h
  rw [mnth_eq] at h
  exact List.mem_filter.mpr ⟨List.mem_of_getElem? h.1, h.2⟩
def mwn (w : Nat) (c : Cond) : Bool := decide (mnth lw_tbl w = some c) && mIsN c
theorem mwn_in {w : Nat} {c : Cond} (h : mwn w c = true) : c ∈ mNst := by
  simp only [mwn, Bool.and_eq_true, decide_eq_true_eq] at h
  rw [mnth_eq] at h
  exact List.mem_filter.mpr ⟨List.mem_of_getElem? h.1, h.2⟩
theorem mTb_good : GoodIn mTb mTb := fun w h => ⟨h, good_of_word (List.mem_filter.mp h).2⟩
theorem mWd_good {k : Nat} (h : Cond.code (mY k) (mCd k) (mNl k) (mRt k) ∈ mTb) : GoodIn mTb (mWd k) := by
  intro w hw
  rcases List.mem_cons.mp hw with e | e
  · subst e; exact mTb_good _ h
  · exact mTb_good _ e
def mTT (a b : Nat) : String × String × String × Bool := (mCq a).2.1 b
def mln (mid w x k : Nat) : Bool := mwd w (.methodLink (mY mid).cls x (mY k)) || mwn w (.methodLinkNest (mY mid).cls x (mY k) RX11)
def mswT (pc : Nat) (lo : Int) : List Int → Nat → List (Int32 × Nat) → Bool
  | [], _, [] => true
  | o :: os, k, q :: ps => decide (q.1.toInt = lo + k) && decide ((pc : Int) + o = q.2) && mswT pc lo os (k + 1) ps
  | _, _, _ => false
def mswL (pc : Nat) : List (Int × Int) → List (Int32 × Nat) → Bool
  | [], [] => true
  | o :: os, q :: ps => decide (q.1.toInt = o.1) && decide ((pc : Int) + o.2 = q.2) && mswL pc os ps
  | _, _ => false
def mExB (mid pc : Nat) (I : mI) : Bool := match I.1 with
  | .getfield x => mwd I.2.2.2.2.1 (.fieldLink (mY mid).cls x (mTT I.2.2.1 I.2.2.2.1).1 (mTT I.2.2.1 I.2.2.2.1).2.1 (mTT I.2.2.1 I.2.2.2.1).2.2.1) && Nat.blt I.2.2.1 13 && Nat.blt I.2.2.2.1 (mNf I.2.2.1)
  | .putfield x => mwd I.2.2.2.2.1 (.fieldLink (mY mid).cls x (mTT I.2.2.1 I.2.2.2.1).1 (mTT I.2.2.1 I.2.2.2.1).2.1 (mTT I.2.2.1 I.2.2.2.1).2.2.1) && Nat.blt I.2.2.1 13 && Nat.blt I.2.2.2.1 (mNf I.2.2.1) && ((mTT I.2.2.1 I.2.2.2.1).2.2.2 == false || ((mY mid).name == "<init>" && (mTT I.2.2.1 I.2.2.2.1).1 == (mY mid).cls))
  | .getstatic x => (match I.2.2.1 with
    | 1 => mwd I.2.2.2.2.1 (.fieldLink (mY mid).cls x RX11 "KIND_ABOVE" "[I") || mwn I.2.2.2.2.1 (.fieldLinkNest (mY mid).cls x RX11 "KIND_ABOVE" "[I" RX11)
    | 2 => mwd I.2.2.2.2.1 (.fieldLink (mY mid).cls x RX8 "BODIES" "[I")
    | _ => false)
  | .new x => mwd I.2.2.2.2.1 (.classLink (mY mid).cls x (mCq I.2.2.1).1) && Nat.blt I.2.2.1 13
  | .anewarray x => mwd I.2.2.2.2.1 (.classLink (mY mid).cls x RX5)
  | .ldc x => (match I.2.2.2.2.2 with
    | q :: _ => mwd I.2.2.2.2.1 (.constant (mY mid).cls x q.1)
    | [] => false)
  | .ldc_w x => (match I.2.2.2.2.2 with
    | q :: _ => mwd I.2.2.2.2.1 (.constant (mY mid).cls x q.1)
    | [] => false)
  | .ldc2_w x => (match I.2.2.2.2.2 with
    | q :: _ => mwd I.2.2.2.2.1 (.constantLong (mY mid).cls x q.1.toInt64)
    | [] => mwd I.2.2.2.2.1 (.constantLong (mY mid).cls x (Int64.ofNat I.2.2.1)))
  | .iconst n => (match I.2.2.2.2.2 with
    | q :: _ => decide (Int32.ofInt n = q.1)
    | [] => false)
  | .bipush n => (match I.2.2.2.2.2 with
    | q :: _ => decide ((Int8.ofInt n).toInt32 = q.1)
    | [] => false)
  | .sipush n => (match I.2.2.2.2.2 with
    | q :: _ => decide ((Int16.ofInt n).toInt32 = q.1)
    | [] => false)
  | .lconst n => (match I.2.2.2.2.2 with
    | q :: _ => decide (Int64.ofNat (n : Nat) = q.1.toInt64)
    | [] => false)
  | .iinc _ n => (match I.2.2.2.2.2 with
    | q :: _ => decide (Int32.ofInt n = q.1)
    | [] => false)
  | .goto o => decide ((pc : Int) + o = (I.2.2.1 : Int))
  | .ifCond _ o => decide ((pc : Int) + o = (I.2.2.1 : Int))
  | .if_icmp _ o => decide ((pc : Int) + o = (I.2.2.1 : Int))
  | .ifnull o => decide ((pc : Int) + o = (I.2.2.1 : Int))
  | .ifnonnull o => decide ((pc : Int) + o = (I.2.2.1 : Int))
  | .tableswitch df lo hi os => decide ((pc : Int) + df = (I.2.2.1 : Int)) && decide (lo + os.size = hi + 1) && mswT pc lo os.toList 0 I.2.2.2.2.2
  | .lookupswitch df ps => decide ((pc : Int) + df = (I.2.2.1 : Int)) && (ps.toList.zip (ps.toList.drop 1)).all (fun (a, next) => a.1 < next.1) && mswL pc ps.toList I.2.2.2.2.2
  | .invokevirtual x => mln mid I.2.2.2.2.1 x I.2.2.1 && Nat.blt I.2.2.1 229 && Nat.beq (mKd I.2.2.1) 0
  | .invokestatic x => (match I.2.2.1 with
    | 998 => mwd I.2.2.2.2.1 (.methodLink (mY mid).cls x arraycopyName)
    | 997 => mwd I.2.2.2.2.1 (.methodLink (mY mid).cls x Lib.Math.min.name)
    | 996 => mwd I.2.2.2.2.1 (.methodLink (mY mid).cls x Lib.Math.max.name)
    | k => mln mid I.2.2.2.2.1 x k && Nat.blt k 229 && Nat.beq (mKd k) 1)
  | .invokespecial x => (match I.2.2.1 with
    | 999 => mwd I.2.2.2.2.1 (.methodLink (mY mid).cls x objectInit)
    | k => mln mid I.2.2.2.2.1 x k && Nat.blt k 229 && Nat.beq (mKd k) 2)
  | _ => true
def mil (i : Instr) (n : Nat) : Nat := match i with
  | .bipush _ => 2
  | .iload _ => 2
  | .aload _ => 2
  | .lload _ => 2
  | .istore _ => 2
  | .astore _ => 2
  | .ldc _ => 2
  | .newarray _ => 2
  | .sipush _ => 3
  | .ldc_w _ => 3
  | .ldc2_w _ => 3
  | .iinc _ _ => 3
  | .goto _ => 3
  | .ifCond _ _ => 3
  | .if_icmp _ _ => 3
  | .ifnull _ => 3
  | .ifnonnull _ => 3
  | .getfield _ => 3
  | .putfield _ => 3
  | .getstatic _ => 3
  | .new _ => 3
  | .anewarray _ => 3
  | .invokevirtual _ => 3
  | .invokestatic _ => 3
  | .invokespecial _ => 3
  | .tableswitch _ _ _ _ => n
  | .lookupswitch _ _ => n
  | _ => 1
def mOkB (mid pc : Nat) (I : mI) : Bool := decide (decode (mCd mid) pc = .ok (I.1, mil I.1 I.2.1)) && Nat.beq I.2.1 (mil I.1 I.2.1) && mExB mid pc I
def mChk (mid : Nat) : Nat → List mI → Bool
  | _, [] => true
  | pc, I :: is => mOkB mid pc I && mChk mid (pc + I.2.1) is
/-- what is known of each method of the tables -/
def mMrB (k : Nat) : Bool := match mnth mM k, mnth mMr k with
  | some q, some r => plainName q.1.cls && !(q.1.cls == "java/lang/invoke/MethodHandle") && !(q.1.cls == "java/lang/invoke/VarHandle") && decide ((parseMethodDescriptor q.1.desc).map (fun d => d.parameters.length) = some r.2.1) && Nat.ble q.2.2.1 40 && mwd r.2.2.2.2 (.initialized q.1.cls) && (match r.1 with
    | 0 => mwd r.2.2.1 (.instanceMethod q.1) && mwd r.2.2.2.1 (.selects q.1.cls q.1 q.1) && decide ((mCq (mcNl k)).1 = q.1.cls) && Nat.blt (mcNl k) 13
    | 1 => mwd r.2.2.1 (.static q.1)
    | 2 => mwd r.2.2.1 (.instanceMethod q.1) && q.1.name == "<init>" && decide (q.2.2.2 = none)
    | _ => false)
  | _, _ => false
set_option maxRecDepth 100000 in
theorem mMr_ok : (List.range 229).all mMrB = true := by decide +kernel
set_option maxRecDepth 100000 in
theorem mM_code : (mM.take 229).map (fun q => Cond.code q.1 q.2.1 q.2.2.1 q.2.2.2) = ([294, 801, 812, 828, 824, 88, 895, 683, 94, 899, 775, 788, 807, 272, 594, 598, 602, 625, 629, 613, 606, 609, 621, 632, 133, 905, 582, 346, 870, 878, 887, 115, 636, 617, 537, 541, 545, 213, 701, 489, 476, 481, 500, 457, 517, 660, 926, 321, 842, 846, 849, 857, 184, 696, 426, 413, 430, 417, 438, 453, 793, 727, 746, 742, 750, 758, 767, 178, 692, 656, 664, 669, 533, 496, 528, 507, 511, 552, 556, 719, 80, 398, 422, 444, 449, 461, 469, 485, 560, 569, 574, 578, 587, 647, 652, 675, 679, 688, 706, 710, 715, 723, 734, 738, 754, 763, 771, 780, 784, 797, 820, 834, 838, 862, 866, 874, 883, 891, 910, 914, 918, 922, 930, 402, 465, 434, 472, 590, 492, 563, 405, 408, 639, 935, 1013, 1009, 1076, 1228, 1088, 1139, 1147, 1118, 1051, 1055, 1059, 1063, 1027, 1031, 1035, 1039, 1043, 1047, 1023, 1005, 1019, 1073, 1069, 1080, 1092, 1102, 1084, 1106, 1115, 1111, 1122, 1130, 1154, 1157, 1151, 1160, 1144, 1135, 1171, 1164, 1168, 1182, 1179, 1175, 1186, 1203, 1199, 1195, 1190, 1212, 1208, 1220, 1225, 1217, 1232, 1239, 1236, 1243, 1251, 1098, 1247, 1256, 1264, 1260, 1272, 1268, 1276, 1280, 1284, 1292, 1288, 1301, 1296, 1305, 1309, 1321, 1324, 1317, 1328, 1332, 1336, 1313, 1340, 1125, 1344, 1348, 1352, 1356, 1360, 1364, 1368, 1376, 1372, 1380, 521] : List Nat).filterMap (fun i => lw_tbl[i]?) := rfl
theorem mTb_mx1 : Cond.static Lib.Math.max.name ∈ mTb := mwd_in (w := 136) (by decide +kernel)
theorem mTb_mn1 : Cond.static Lib.Math.min.name ∈ mTb := mwd_in (w := 547) (by decide +kernel)
theorem mTb_mi : Cond.initialized "java/lang/Math" ∈ mTb := mwd_in (w := 65) (by decide +kernel)
set_option maxRecDepth 100000 in
theorem mTb_mx2 : Cond.code Lib.Math.max.name Lib.Math.max.code 2 (some .int) ∈ mTb := List.mem_filter.mpr ⟨List.mem_of_getElem? (i := 137) rfl, by decide +kernel⟩
set_option maxRecDepth 100000 in
theorem mTb_mn2 : Cond.code Lib.Math.min.name Lib.Math.min.code 2 (some .int) ∈ mTb := List.mem_filter.mpr ⟨List.mem_of_getElem? (i := 548) rfl, by decide +kernel⟩
theorem mTb_ac1 : Cond.static arraycopyName ∈ mTb := mwd_in (w := 642) (by decide +kernel)
theorem mTb_ac2 : Cond.native arraycopyName ∈ mTb := mwd_in (w := 643) (by decide +kernel)
theorem mTb_ac3 : Cond.initialized "java/lang/System" ∈ mTb := mwd_in (w := 75) (by decide +kernel)
theorem mTb_oi1 : Cond.instanceMethod objectInit ∈ mTb := mwd_in (w := 82) (by decide +kernel)
set_option maxRecDepth 100000 in
theorem mTb_oi2 : Cond.code objectInit ⟨#[0xb1]⟩ 1 none ∈ mTb := List.mem_filter.mpr ⟨List.mem_of_getElem? (i := 83) rfl, by decide +kernel⟩
theorem mTb_ai : Cond.arrayClass .int ∈ mTb := mwd_in (w := 110) (by decide +kernel)
theorem mTb_az : Cond.arrayClass .boolean ∈ mTb := mwd_in (w := 1001) (by decide +kernel)
theorem mTb_c0 : ∀ w ∈ u_ws RX0 TX0 5, w ∈ mTb := by
  have h : (u_ws RX0 TX0 5) = ([306, 308, 310, 312, 314] : List Nat).filterMap (fun i => lw_tbl[i]?) := by decide +kernel
  have g : (u_ws RX0 TX0 5).all goodWord = true := by decide +kernel
  intro w hw
  refine List.mem_filter.mpr ⟨?_, List.all_eq_true.mp g w hw⟩
  rw [h] at hw
  obtain ⟨i, -, hi⟩ := List.mem_filterMap.mp hw
  exact List.mem_of_getElem? hi
theorem mTb_n0 : Cond.instantiable RX0 5 ∈ mTb := mwd_in (w := 291) (by decide +kernel)
theorem mTb_i0 : Cond.initialized RX0 ∈ mTb := mwd_in (w := 70) (by decide +kernel)
theorem mTb_c1 : ∀ w ∈ u_ws RX1 TX1 6, w ∈ mTb := by
  have h : (u_ws RX1 TX1 6) = ([161, 163, 165, 167, 169, 171] : List Nat).filterMap (fun i => lw_tbl[i]?) := by decide +kernel
  have g : (u_ws RX1 TX1 6).all goodWord = true := by decide +kernel
  intro w hw
  refine List.mem_filter.mpr ⟨?_, List.all_eq_true.mp g w hw⟩
  rw [h] at hw
  obtain ⟨i, -, hi⟩ := List.mem_filterMap.mp hw
  exact List.mem_of_getElem? hi
theorem mTb_n1 : Cond.instantiable RX1 6 ∈ mTb := mwd_in (w := 85) (by decide +kernel)
theorem mTb_i1 : Cond.initialized RX1 ∈ mTb := mwd_in (w := 61) (by decide +kernel)
theorem mTb_c2 : ∀ w ∈ u_ws RX2 TX2 4, w ∈ mTb := by
  have h : (u_ws RX2 TX2 4) = ([101, 103, 105, 107] : List Nat).filterMap (fun i => lw_tbl[i]?) := by decide +kernel
  have g : (u_ws RX2 TX2 4).all goodWord = true := by decide +kernel
  intro w hw
  refine List.mem_filter.mpr ⟨?_, List.all_eq_true.mp g w hw⟩
  rw [h] at hw
  obtain ⟨i, -, hi⟩ := List.mem_filterMap.mp hw
  exact List.mem_of_getElem? hi
theorem mTb_n2 : Cond.instantiable RX2 4 ∈ mTb := mwd_in (w := 91) (by decide +kernel)
theorem mTb_i2 : Cond.initialized RX2 ∈ mTb := mwd_in (w := 62) (by decide +kernel)
theorem mTb_c3 : ∀ w ∈ u_ws RX3 TX3 4, w ∈ mTb := by
  have h : (u_ws RX3 TX3 4) = ([281, 283, 285, 287] : List Nat).filterMap (fun i => lw_tbl[i]?) := by decide +kernel
  have g : (u_ws RX3 TX3 4).all goodWord = true := by decide +kernel
  intro w hw
  refine List.mem_filter.mpr ⟨?_, List.all_eq_true.mp g w hw⟩
  rw [h] at hw
  obtain ⟨i, -, hi⟩ := List.mem_filterMap.mp hw
  exact List.mem_of_getElem? hi
theorem mTb_n3 : Cond.instantiable RX3 4 ∈ mTb := mwd_in (w := 269) (by decide +kernel)
theorem mTb_i3 : Cond.initialized RX3 ∈ mTb := mwd_in (w := 69) (by decide +kernel)
theorem mTb_c4 : ∀ w ∈ u_ws RX4 TX4 2, w ∈ mTb := by
  have h : (u_ws RX4 TX4 2) = ([144, 146] : List Nat).filterMap (fun i => lw_tbl[i]?) := by decide +kernel
  have g : (u_ws RX4 TX4 2).all goodWord = true := by decide +kernel
  intro w hw
  refine List.mem_filter.mpr ⟨?_, List.all_eq_true.mp g w hw⟩
  rw [h] at hw
  obtain ⟨i, -, hi⟩ := List.mem_filterMap.mp hw
  exact List.mem_of_getElem? hi
theorem mTb_n4 : Cond.instantiable RX4 2 ∈ mTb := mwd_in (w := 130) (by decide +kernel)
theorem mTb_i4 : Cond.initialized RX4 ∈ mTb := mwd_in (w := 64) (by decide +kernel)
theorem mTb_c5 : ∀ w ∈ u_ws RX5 TX5 3, w ∈ mTb := by
  have h : (u_ws RX5 TX5 3) = ([354, 356, 358] : List Nat).filterMap (fun i => lw_tbl[i]?) := by decide +kernel
  have g : (u_ws RX5 TX5 3).all goodWord = true := by decide +kernel
  intro w hw
  refine List.mem_filter.mpr ⟨?_, List.all_eq_true.mp g w hw⟩
  rw [h] at hw
  obtain ⟨i, -, hi⟩ := List.mem_filterMap.mp hw
  exact List.mem_of_getElem? hi
theorem mTb_n5 : Cond.instantiable RX5 3 ∈ mTb := mwd_in (w := 343) (by decide +kernel)
theorem mTb_i5 : Cond.initialized RX5 ∈ mTb := mwd_in (w := 72) (by decide +kernel)
theorem mTb_c6 : ∀ w ∈ u_ws RX6 TX6 3, w ∈ mTb := by
  have h : (u_ws RX6 TX6 3) = ([122, 124, 126] : List Nat).filterMap (fun i => lw_tbl[i]?) := by decide +kernel
  have g : (u_ws RX6 TX6 3).all goodWord = true := by decide +kernel
  intro w hw
  refine List.mem_filter.mpr ⟨?_, List.all_eq_true.mp g w hw⟩
  rw [h] at hw
  obtain ⟨i, -, hi⟩ := List.mem_filterMap.mp hw
  exact List.mem_of_getElem? hi
theorem mTb_n6 : Cond.instantiable RX6 3 ∈ mTb := mwd_in (w := 112) (by decide +kernel)
theorem mTb_i6 : Cond.initialized RX6 ∈ mTb := mwd_in (w := 63) (by decide +kernel)
theorem mTb_c7 : ∀ w ∈ u_ws RX7 TX7 7, w ∈ mTb := by
  have h : (u_ws RX7 TX7 7) = ([234, 236, 238, 240, 242, 244, 246] : List Nat).filterMap (fun i => lw_tbl[i]?) := by decide +kernel
  have g : (u_ws RX7 TX7 7).all goodWord = true := by decide +kernel
  intro w hw
  refine List.mem_filter.mpr ⟨?_, List.all_eq_true.mp g w hw⟩
  rw [h] at hw
  obtain ⟨i, -, hi⟩ := List.mem_filterMap.mp hw
  exact List.mem_of_getElem? hi
theorem mTb_n7 : Cond.instantiable RX7 7 ∈ mTb := mwd_in (w := 210) (by decide +kernel)
theorem mTb_i7 : Cond.initialized RX7 ∈ mTb := mwd_in (w := 68) (by decide +kernel)
theorem mTb_c8 : ∀ w ∈ u_ws RX8 TX8 5, w ∈ mTb := by
  have h : (u_ws RX8 TX8 5) = ([330, 332, 334, 336, 338] : List Nat).filterMap (fun i => lw_tbl[i]?) := by decide +kernel
  have g : (u_ws RX8 TX8 5).all goodWord = true := by decide +kernel
  intro w hw
  refine List.mem_filter.mpr ⟨?_, List.all_eq_true.mp g w hw⟩
  rw [h] at hw
  obtain ⟨i, -, hi⟩ := List.mem_filterMap.mp hw
  exact List.mem_of_getElem? hi
theorem mTb_n8 : Cond.instantiable RX8 5 ∈ mTb := mwd_in (w := 318) (by decide +kernel)
theorem mTb_i8 : Cond.initialized RX8 ∈ mTb := mwd_in (w := 71) (by decide +kernel)
theorem mTb_c9 : ∀ w ∈ u_ws RX9 TX9 5, w ∈ mTb := by
  have h : (u_ws RX9 TX9 5) = ([198, 200, 202, 204, 206] : List Nat).filterMap (fun i => lw_tbl[i]?) := by decide +kernel
  have g : (u_ws RX9 TX9 5).all goodWord = true := by decide +kernel
  intro w hw
  refine List.mem_filter.mpr ⟨?_, List.all_eq_true.mp g w hw⟩
  rw [h] at hw
  obtain ⟨i, -, hi⟩ := List.mem_filterMap.mp hw
  exact List.mem_of_getElem? hi
theorem mTb_n9 : Cond.instantiable RX9 5 ∈ mTb := mwd_in (w := 181) (by decide +kernel)
theorem mTb_i9 : Cond.initialized RX9 ∈ mTb := mwd_in (w := 67) (by decide +kernel)
theorem mTb_c10 : ∀ w ∈ u_ws RX10 TX10 5, w ∈ mTb := by
  have h : (u_ws RX10 TX10 5) = ([257, 259, 261, 263, 265] : List Nat).filterMap (fun i => lw_tbl[i]?) := by decide +kernel
  have g : (u_ws RX10 TX10 5).all goodWord = true := by decide +kernel
  intro w hw
  refine List.mem_filter.mpr ⟨?_, List.all_eq_true.mp g w hw⟩
  rw [h] at hw
  obtain ⟨i, -, hi⟩ := List.mem_filterMap.mp hw
  exact List.mem_of_getElem? hi
theorem mTb_n10 : Cond.instantiable RX10 5 ∈ mTb := mwd_in (w := 175) (by decide +kernel)
theorem mTb_i10 : Cond.initialized RX10 ∈ mTb := mwd_in (w := 66) (by decide +kernel)
theorem mTb_c11 : ∀ w ∈ u_ws RX11 TX11 11, w ∈ mTb := by
  have h : (u_ws RX11 TX11 11) = ([372, 374, 376, 378, 380, 382, 384, 386, 388, 390, 392] : List Nat).filterMap (fun i => lw_tbl[i]?) := by decide +kernel
  have g : (u_ws RX11 TX11 11).all goodWord = true := by decide +kernel
  intro w hw
  refine List.mem_filter.mpr ⟨?_, List.all_eq_true.mp g w hw⟩
  rw [h] at hw
  obtain ⟨i, -, hi⟩ := List.mem_filterMap.mp hw
  exact List.mem_of_getElem? hi
theorem mTb_n11 : Cond.instantiable RX11 11 ∈ mTb := mwd_in (w := 77) (by decide +kernel)
theorem mTb_i11 : Cond.initialized RX11 ∈ mTb := mwd_in (w := 60) (by decide +kernel)
theorem mTb_c12 : ∀ w ∈ u_ws RX12 TX12 21, w ∈ mTb := by
  have h : (u_ws RX12 TX12 21) = ([958, 960, 962, 964, 966, 968, 970, 972, 974, 976, 978, 980, 982, 984, 986, 988, 990, 992, 994, 996, 998] : List Nat).filterMap (fun i => lw_tbl[i]?) := by decide +kernel
  have g : (u_ws RX12 TX12 21).all goodWord = true := by decide +kernel
  intro w hw
  refine List.mem_filter.mpr ⟨?_, List.all_eq_true.mp g w hw⟩
  rw [h] at hw
  obtain ⟨i, -, hi⟩ := List.mem_filterMap.mp hw
  exact List.mem_of_getElem? hi
theorem mTb_n12 : Cond.instantiable RX12 21 ∈ mTb := mwd_in (w := 932) (by decide +kernel)
theorem mTb_i12 : Cond.initialized RX12 ∈ mTb := mwd_in (w := 73) (by decide +kernel)
