/-! the pure step is the machine's -/
theorem mMr_at {k : Nat} (hk : k < 229) : ∃ (q : MethodName × ByteArray × Nat × Option FieldType) (r : Nat × Nat × Nat × Nat × Nat), mnth mM k = some q ∧ mnth mMr k = some r ∧ mMrB k = true := by
  have h := List.all_eq_true.mp mMr_ok k (List.mem_range.mpr hk)
  have h2 := h
  unfold mMrB at h
  cases h1 : mnth mM k with
  | none => rw [h1] at h; simp at h
  | some q =>
    cases h3 : mnth mMr k with
    | none => rw [h1, h3] at h; simp at h
    | some r => exact ⟨q, r, rfl, rfl, h2⟩
theorem mMr_code {k : Nat} (hk : k < 229) : Cond.code (mY k) (mCd k) (mNl k) (mRt k) ∈ mTb := by
  obtain ⟨q, r, h1, -, -⟩ := mMr_at hk
  have e : Cond.code (mY k) (mCd k) (mNl k) (mRt k) = Cond.code q.1 q.2.1 q.2.2.1 q.2.2.2 := by simp only [mY, mCd, mNl, mRt, h1]
  rw [e]
  have hm : Cond.code q.1 q.2.1 q.2.2.1 q.2.2.2 ∈ (mM.take 229).map (fun q => Cond.code q.1 q.2.1 q.2.2.1 q.2.2.2) := by
    refine List.mem_map.mpr ⟨q, ?_, rfl⟩
    rw [mnth_eq] at h1
    refine List.mem_of_getElem? (i := k) ?_
    rw [List.getElem?_take, if_pos hk]
    exact h1
  rw [mM_code] at hm
  obtain ⟨i, -, hi⟩ := List.mem_filterMap.mp hm
  exact List.mem_filter.mpr ⟨List.mem_of_getElem? hi, rfl⟩
/-- what each method's rows say -/
theorem mMr_say {k : Nat} (hk : k < 229) : plainName (mY k).cls = true ∧ ((mY k).cls ≠ "java/lang/invoke/MethodHandle" ∧ (mY k).cls ≠ "java/lang/invoke/VarHandle" ∧ (parseMethodDescriptor (mY k).desc).map (fun d => d.parameters.length) = some (mNa k)) ∧ mNl k ≤ 40 ∧ Cond.initialized (mY k).cls ∈ mTb ∧ (mKd k = 0 → Cond.instanceMethod (mY k) ∈ mTb ∧ Cond.selects (mY k).cls (mY k) (mY k) ∈ mTb ∧ (mCq (mcN k)).1 = (mY k).cls ∧ mcN k < 13) ∧ (mKd k = 1 → Cond.static (mY k) ∈ mTb) ∧ (mKd k = 2 → Cond.instanceMethod (mY k) ∈ mTb ∧ (mY k).name = "<init>" ∧ mRt k = none) := by
  obtain ⟨q, r, h1, h2, h⟩ := mMr_at hk
  have e1 : mY k = q.1 := by simp only [mY, h1]
  have e2 : mNl k = q.2.2.1 := by simp only [mNl, h1]
  have e3 : mNa k = r.2.1 := by simp only [mNa, h2]
  have e4 : mKd k = r.1 := by simp only [mKd, h2]
  have e5 : mcN k = mcNl k := by simp only [mcN, h2]
  have e6 : mRt k = q.2.2.2 := by simp only [mRt, h1]
  unfold mMrB at h
  rw [h1, h2] at h
  simp only [Bool.and_eq_true, Bool.not_eq_true', beq_eq_false_iff_ne, decide_eq_true_eq] at h
  obtain ⟨⟨⟨⟨⟨⟨p1, p2⟩, p3⟩, p4⟩, p5⟩, p6⟩, p7⟩ := h
  rw [e1, e2, e3, e4, e5, e6]
  refine ⟨p1, ⟨p2, p3, p4⟩, Nat.le_of_ble_eq_true p5, mwd_in p6, fun z => ?_, fun z => ?_, fun z => ?_⟩
  · rw [z] at p7
    simp only [Bool.and_eq_true, decide_eq_true_eq] at p7
    exact ⟨mwd_in p7.1.1.1, mwd_in p7.1.1.2, p7.1.2, by simpa [Nat.blt_eq] using p7.2⟩
  · rw [z] at p7
    exact mwd_in p7
  · rw [z] at p7
    simp only [Bool.and_eq_true, decide_eq_true_eq, beq_iff_eq] at p7
    exact ⟨mwd_in p7.1.1, p7.1.2, p7.2⟩
/-- what is known of each class -/
def mCf (ci : Nat) : Prop := ∃ ty : Nat → FieldType, (∀ w ∈ u_ws (mCq ci).1 (mCq ci).2.1 (mCq ci).2.2, w ∈ mTb) ∧ (∀ k, k < (mCq ci).2.2 → parseFieldDescriptor ((mCq ci).2.1 k).2.2.1 = some (ty k)) ∧ (∀ a, a < (mCq ci).2.2 → ∀ b, b < (mCq ci).2.2 → a ≠ b → ((mCq ci).2.1 a).2.1 ≠ ((mCq ci).2.1 b).2.1) ∧ Cond.instantiable (mCq ci).1 (mCq ci).2.2 ∈ mTb ∧ Cond.initialized (mCq ci).1 ∈ mTb ∧ mNf ci = (mCq ci).2.2 ∧ (∀ j, j < (mCq ci).2.2 → (mkd ci j = 0 ∧ ty j = .int) ∨ (mkd ci j = 1 ∧ ty j = .boolean) ∨ (mkd ci j = 2 ∧ ((∃ n, ty j = .object n) ∨ ∃ t, ty j = .array t))) ∧ mCl[ci]? = some (mCq ci)
def mkB (ci j : Nat) (t : FieldType) : Bool := match mkd ci j, t with
  | 0, .int => true
  | 1, .boolean => true
  | 2, .object _ => true
  | 2, .array _ => true
  | _, _ => false
theorem mkB_to {ci j : Nat} {t : FieldType} (h : mkB ci j t = true) : (mkd ci j = 0 ∧ t = .int) ∨ (mkd ci j = 1 ∧ t = .boolean) ∨ (mkd ci j = 2 ∧ ((∃ n, t = .object n) ∨ ∃ u, t = .array u)) := by
  unfold mkB at h
  split at h
  · exact Or.inl ⟨by assumption, rfl⟩
  · exact Or.inr (Or.inl ⟨by assumption, rfl⟩)
  · exact Or.inr (Or.inr ⟨by assumption, Or.inl ⟨_, rfl⟩⟩)
  · exact Or.inr (Or.inr ⟨by assumption, Or.inr ⟨_, rfl⟩⟩)
  · cases h
theorem mCf_0 : mCf 0 := ⟨tyX0, mTb_c0, tyX0_ok, nmX0, mTb_n0, mTb_i0, rfl, fun j hj => mkB_to ((show ∀ j, j < 5 → mkB 0 j (tyX0 j) = true by decide +kernel) j hj), rfl⟩
theorem mCf_1 : mCf 1 := ⟨tyX1, mTb_c1, tyX1_ok, nmX1, mTb_n1, mTb_i1, rfl, fun j hj => mkB_to ((show ∀ j, j < 6 → mkB 1 j (tyX1 j) = true by decide +kernel) j hj), rfl⟩
theorem mCf_2 : mCf 2 := ⟨tyX2, mTb_c2, tyX2_ok, nmX2, mTb_n2, mTb_i2, rfl, fun j hj => mkB_to ((show ∀ j, j < 4 → mkB 2 j (tyX2 j) = true by decide +kernel) j hj), rfl⟩
theorem mCf_3 : mCf 3 := ⟨tyX3, mTb_c3, tyX3_ok, nmX3, mTb_n3, mTb_i3, rfl, fun j hj => mkB_to ((show ∀ j, j < 4 → mkB 3 j (tyX3 j) = true by decide +kernel) j hj), rfl⟩
theorem mCf_4 : mCf 4 := ⟨tyX4, mTb_c4, tyX4_ok, nmX4, mTb_n4, mTb_i4, rfl, fun j hj => mkB_to ((show ∀ j, j < 2 → mkB 4 j (tyX4 j) = true by decide +kernel) j hj), rfl⟩
theorem mCf_5 : mCf 5 := ⟨tyX5, mTb_c5, tyX5_ok, nmX5, mTb_n5, mTb_i5, rfl, fun j hj => mkB_to ((show ∀ j, j < 3 → mkB 5 j (tyX5 j) = true by decide +kernel) j hj), rfl⟩
theorem mCf_6 : mCf 6 := ⟨tyX6, mTb_c6, tyX6_ok, nmX6, mTb_n6, mTb_i6, rfl, fun j hj => mkB_to ((show ∀ j, j < 3 → mkB 6 j (tyX6 j) = true by decide +kernel) j hj), rfl⟩
theorem mCf_7 : mCf 7 := ⟨tyX7, mTb_c7, tyX7_ok, nmX7, mTb_n7, mTb_i7, rfl, fun j hj => mkB_to ((show ∀ j, j < 7 → mkB 7 j (tyX7 j) = true by decide +kernel) j hj), rfl⟩
theorem mCf_8 : mCf 8 := ⟨tyX8, mTb_c8, tyX8_ok, nmX8, mTb_n8, mTb_i8, rfl, fun j hj => mkB_to ((show ∀ j, j < 5 → mkB 8 j (tyX8 j) = true by decide +kernel) j hj), rfl⟩
theorem mCf_9 : mCf 9 := ⟨tyX9, mTb_c9, tyX9_ok, nmX9, mTb_n9, mTb_i9, rfl, fun j hj => mkB_to ((show ∀ j, j < 5 → mkB 9 j (tyX9 j) = true by decide +kernel) j hj), rfl⟩
theorem mCf_10 : mCf 10 := ⟨tyX10, mTb_c10, tyX10_ok, nmX10, mTb_n10, mTb_i10, rfl, fun j hj => mkB_to ((show ∀ j, j < 5 → mkB 10 j (tyX10 j) = true by decide +kernel) j hj), rfl⟩
theorem mCf_11 : mCf 11 := ⟨tyX11, mTb_c11, tyX11_ok, nmX11, mTb_n11, mTb_i11, rfl, fun j hj => mkB_to ((show ∀ j, j < 11 → mkB 11 j (tyX11 j) = true by decide +kernel) j hj), rfl⟩
theorem mCf_12 : mCf 12 := ⟨tyX12, mTb_c12, tyX12_ok, nmX12, mTb_n12, mTb_i12, rfl, fun j hj => mkB_to ((show ∀ j, j < 21 → mkB 12 j (tyX12 j) = true by decide +kernel) j hj), rfl⟩
theorem mCf_all {ci : Nat} (h : ci < 13) : mCf ci := by
  match ci, h with
  | 0, _ => exact mCf_0
  | 1, _ => exact mCf_1
  | 2, _ => exact mCf_2
  | 3, _ => exact mCf_3
  | 4, _ => exact mCf_4
  | 5, _ => exact mCf_5
  | 6, _ => exact mCf_6
  | 7, _ => exact mCf_7
  | 8, _ => exact mCf_8
  | 9, _ => exact mCf_9
  | 10, _ => exact mCf_10
  | 11, _ => exact mCf_11
  | 12, _ => exact mCf_12
  | n + 13, h => omega
