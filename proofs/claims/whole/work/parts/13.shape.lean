/-- the cells, as the two constructors lay them -/
def mSh : List mE := [(0, 11, [some 31, some 44, some 57, some 1, some 16, some 70, some 74, some 81, some 83, some 92, none]),
  (0, 1, [some 2, some 6, some 9, some 12, some 14, none]),
  (0, 2, [some 3, some 4, some 5, none]),
  (1, 12, []),
  (1, 12, []),
  (1, 12, []),
  (0, 6, [some 7, some 8, none]),
  (1, 50, []),
  (1, 50, []),
  (0, 6, [some 10, some 11, none]),
  (1, 50, []),
  (1, 50, []),
  (0, 4, [some 13, none]),
  (1, 50, []),
  (0, 4, [some 15, none]),
  (1, 20, []),
  (0, 1, [some 17, some 21, some 24, some 27, some 29, none]),
  (0, 2, [some 18, some 19, some 20, none]),
  (1, 12, []),
  (1, 12, []),
  (1, 12, []),
  (0, 6, [some 22, some 23, none]),
  (1, 50, []),
  (1, 50, []),
  (0, 6, [some 25, some 26, none]),
  (1, 50, []),
  (1, 50, []),
  (0, 4, [some 28, none]),
  (1, 50, []),
  (0, 4, [some 30, none]),
  (1, 20, []),
  (0, 10, [some 32, some 37, some 6, some 9, none]),
  (0, 9, [some 33, some 34, some 35, some 36, none]),
  (1, 9, []),
  (1, 9, []),
  (1, 9, []),
  (1, 9, []),
  (0, 7, [some 38, some 39, some 40, some 41, some 42, some 43, none]),
  (1, 10, []),
  (1, 10, []),
  (1, 10, []),
  (1, 10, []),
  (1, 10, []),
  (1, 10, []),
  (0, 10, [some 45, some 50, some 6, some 9, none]),
  (0, 9, [some 46, some 47, some 48, some 49, none]),
  (1, 9, []),
  (1, 9, []),
  (1, 9, []),
  (1, 9, []),
  (0, 7, [some 51, some 52, some 53, some 54, some 55, some 56, none]),
  (1, 10, []),
  (1, 10, []),
  (1, 10, []),
  (1, 10, []),
  (1, 10, []),
  (1, 10, []),
  (0, 10, [some 58, some 63, some 21, some 24, none]),
  (0, 9, [some 59, some 60, some 61, some 62, none]),
  (1, 9, []),
  (1, 9, []),
  (1, 9, []),
  (1, 9, []),
  (0, 7, [some 64, some 65, some 66, some 67, some 68, some 69, none]),
  (1, 10, []),
  (1, 10, []),
  (1, 10, []),
  (1, 10, []),
  (1, 10, []),
  (1, 10, []),
  (0, 3, [some 71, some 12, none, none]),
  (0, 6, [some 72, some 73, none]),
  (1, 50, []),
  (1, 50, []),
  (0, 0, [some 75, some 80, none, none, none]),
  (0, 9, [some 76, some 77, some 78, some 79, none]),
  (1, 9, []),
  (1, 9, []),
  (1, 9, []),
  (1, 9, []),
  (1, 9, []),
  (0, 8, [some 82, none, none, none, none]),
  (1, 40, []),
  (3, 4, [some 84, some 86, some 88, some 90]),
  (0, 5, [some 85, none, none]),
  (1, 40, []),
  (0, 5, [some 87, none, none]),
  (1, 40, []),
  (0, 5, [some 89, none, none]),
  (1, 40, []),
  (0, 5, [some 91, none, none]),
  (1, 40, []),
  (1, 6, []),
  (0, 12, [some 94, some 95, some 96, none, some 97, none, none, none, none, none, none, some 98, some 99, some 100, some 101, none, none, some 102, some 103, some 104, some 105]),
  (1, 320, []),
  (1, 320, []),
  (1, 320, []),
  (1, 6, []),
  (1, 4, []),
  (1, 9, []),
  (2, 9, []),
  (1, 40, []),
  (1, 4, []),
  (1, 4, []),
  (1, 160, []),
  (1, 40, [])]
abbrev Sg : Type := Nat → Nat → Int32
def P9 (a : Nat) : Prop := mnth mSh a = some (0, 9, [some (a + 1), some (a + 2), some (a + 3), some (a + 4), none]) ∧ mnth mSh (a + 1) = some (1, 9, []) ∧ mnth mSh (a + 2) = some (1, 9, []) ∧ mnth mSh (a + 3) = some (1, 9, []) ∧ mnth mSh (a + 4) = some (1, 9, [])
def P7 (a : Nat) : Prop := mnth mSh a = some (0, 7, [some (a + 1), some (a + 2), some (a + 3), some (a + 4), some (a + 5), some (a + 6), none]) ∧ mnth mSh (a + 1) = some (1, 10, []) ∧ mnth mSh (a + 2) = some (1, 10, []) ∧ mnth mSh (a + 3) = some (1, 10, []) ∧ mnth mSh (a + 4) = some (1, 10, []) ∧ mnth mSh (a + 5) = some (1, 10, []) ∧ mnth mSh (a + 6) = some (1, 10, [])
def P6 (a : Nat) : Prop := mnth mSh a = some (0, 6, [some (a + 1), some (a + 2), none]) ∧ mnth mSh (a + 1) = some (1, 50, []) ∧ mnth mSh (a + 2) = some (1, 50, [])
def P4 (a : Nat) (n : Nat) : Prop := mnth mSh a = some (0, 4, [some (a + 1), none]) ∧ mnth mSh (a + 1) = some (1, n, [])
def P5 (a : Nat) : Prop := mnth mSh a = some (0, 5, [some (a + 1), none, none]) ∧ mnth mSh (a + 1) = some (1, 40, [])
def P2 (a : Nat) : Prop := mnth mSh a = some (0, 2, [some (a + 1), some (a + 2), some (a + 3), none]) ∧ mnth mSh (a + 1) = some (1, 12, []) ∧ mnth mSh (a + 2) = some (1, 12, []) ∧ mnth mSh (a + 3) = some (1, 12, [])
def P1 (a : Nat) : Prop := mnth mSh a = some (0, 1, [some (a + 1), some (a + 5), some (a + 8), some (a + 11), some (a + 13), none]) ∧ P2 (a + 1) ∧ P6 (a + 5) ∧ P6 (a + 8) ∧ P4 (a + 11) 50 ∧ P4 (a + 13) 20
def P10 (a sl tk : Nat) : Prop := mnth mSh a = some (0, 10, [some (a + 1), some (a + 6), some sl, some tk, none]) ∧ P9 (a + 1) ∧ P7 (a + 6) ∧ P6 sl ∧ P6 tk
theorem ob_0 : mnth mSh 0 = some (0, 11, [some 31, some 44, some 57, some 1, some 16, some 70, some 74, some 81, some 83, some 92, none]) := rfl
theorem ob_1 : mnth mSh 1 = some (0, 1, [some 2, some 6, some 9, some 12, some 14, none]) := rfl
theorem ob_2 : mnth mSh 2 = some (0, 2, [some 3, some 4, some 5, none]) := rfl
theorem ar_3 : mnth mSh 3 = some (1, 12, []) := rfl
theorem ar_4 : mnth mSh 4 = some (1, 12, []) := rfl
theorem ar_5 : mnth mSh 5 = some (1, 12, []) := rfl
theorem ob_6 : mnth mSh 6 = some (0, 6, [some 7, some 8, none]) := rfl
theorem ar_7 : mnth mSh 7 = some (1, 50, []) := rfl
theorem ar_8 : mnth mSh 8 = some (1, 50, []) := rfl
theorem ob_9 : mnth mSh 9 = some (0, 6, [some 10, some 11, none]) := rfl
theorem ar_10 : mnth mSh 10 = some (1, 50, []) := rfl
theorem ar_11 : mnth mSh 11 = some (1, 50, []) := rfl
theorem ob_12 : mnth mSh 12 = some (0, 4, [some 13, none]) := rfl
theorem ar_13 : mnth mSh 13 = some (1, 50, []) := rfl
theorem ob_14 : mnth mSh 14 = some (0, 4, [some 15, none]) := rfl
theorem ar_15 : mnth mSh 15 = some (1, 20, []) := rfl
theorem ob_16 : mnth mSh 16 = some (0, 1, [some 17, some 21, some 24, some 27, some 29, none]) := rfl
theorem ob_17 : mnth mSh 17 = some (0, 2, [some 18, some 19, some 20, none]) := rfl
theorem ar_18 : mnth mSh 18 = some (1, 12, []) := rfl
theorem ar_19 : mnth mSh 19 = some (1, 12, []) := rfl
theorem ar_20 : mnth mSh 20 = some (1, 12, []) := rfl
theorem ob_21 : mnth mSh 21 = some (0, 6, [some 22, some 23, none]) := rfl
theorem ar_22 : mnth mSh 22 = some (1, 50, []) := rfl
theorem ar_23 : mnth mSh 23 = some (1, 50, []) := rfl
theorem ob_24 : mnth mSh 24 = some (0, 6, [some 25, some 26, none]) := rfl
theorem ar_25 : mnth mSh 25 = some (1, 50, []) := rfl
theorem ar_26 : mnth mSh 26 = some (1, 50, []) := rfl
theorem ob_27 : mnth mSh 27 = some (0, 4, [some 28, none]) := rfl
theorem ar_28 : mnth mSh 28 = some (1, 50, []) := rfl
theorem ob_29 : mnth mSh 29 = some (0, 4, [some 30, none]) := rfl
theorem ar_30 : mnth mSh 30 = some (1, 20, []) := rfl
theorem ob_31 : mnth mSh 31 = some (0, 10, [some 32, some 37, some 6, some 9, none]) := rfl
theorem ob_32 : mnth mSh 32 = some (0, 9, [some 33, some 34, some 35, some 36, none]) := rfl
theorem ar_33 : mnth mSh 33 = some (1, 9, []) := rfl
theorem ar_34 : mnth mSh 34 = some (1, 9, []) := rfl
theorem ar_35 : mnth mSh 35 = some (1, 9, []) := rfl
theorem ar_36 : mnth mSh 36 = some (1, 9, []) := rfl
theorem ob_37 : mnth mSh 37 = some (0, 7, [some 38, some 39, some 40, some 41, some 42, some 43, none]) := rfl
theorem ar_38 : mnth mSh 38 = some (1, 10, []) := rfl
theorem ar_39 : mnth mSh 39 = some (1, 10, []) := rfl
theorem ar_40 : mnth mSh 40 = some (1, 10, []) := rfl
theorem ar_41 : mnth mSh 41 = some (1, 10, []) := rfl
theorem ar_42 : mnth mSh 42 = some (1, 10, []) := rfl
theorem ar_43 : mnth mSh 43 = some (1, 10, []) := rfl
theorem ob_44 : mnth mSh 44 = some (0, 10, [some 45, some 50, some 6, some 9, none]) := rfl
theorem ob_45 : mnth mSh 45 = some (0, 9, [some 46, some 47, some 48, some 49, none]) := rfl
theorem ar_46 : mnth mSh 46 = some (1, 9, []) := rfl
theorem ar_47 : mnth mSh 47 = some (1, 9, []) := rfl
theorem ar_48 : mnth mSh 48 = some (1, 9, []) := rfl
theorem ar_49 : mnth mSh 49 = some (1, 9, []) := rfl
theorem ob_50 : mnth mSh 50 = some (0, 7, [some 51, some 52, some 53, some 54, some 55, some 56, none]) := rfl
theorem ar_51 : mnth mSh 51 = some (1, 10, []) := rfl
theorem ar_52 : mnth mSh 52 = some (1, 10, []) := rfl
theorem ar_53 : mnth mSh 53 = some (1, 10, []) := rfl
theorem ar_54 : mnth mSh 54 = some (1, 10, []) := rfl
theorem ar_55 : mnth mSh 55 = some (1, 10, []) := rfl
theorem ar_56 : mnth mSh 56 = some (1, 10, []) := rfl
theorem ob_57 : mnth mSh 57 = some (0, 10, [some 58, some 63, some 21, some 24, none]) := rfl
theorem ob_58 : mnth mSh 58 = some (0, 9, [some 59, some 60, some 61, some 62, none]) := rfl
theorem ar_59 : mnth mSh 59 = some (1, 9, []) := rfl
theorem ar_60 : mnth mSh 60 = some (1, 9, []) := rfl
theorem ar_61 : mnth mSh 61 = some (1, 9, []) := rfl
theorem ar_62 : mnth mSh 62 = some (1, 9, []) := rfl
theorem ob_63 : mnth mSh 63 = some (0, 7, [some 64, some 65, some 66, some 67, some 68, some 69, none]) := rfl
theorem ar_64 : mnth mSh 64 = some (1, 10, []) := rfl
theorem ar_65 : mnth mSh 65 = some (1, 10, []) := rfl
theorem ar_66 : mnth mSh 66 = some (1, 10, []) := rfl
theorem ar_67 : mnth mSh 67 = some (1, 10, []) := rfl
theorem ar_68 : mnth mSh 68 = some (1, 10, []) := rfl
theorem ar_69 : mnth mSh 69 = some (1, 10, []) := rfl
theorem ob_70 : mnth mSh 70 = some (0, 3, [some 71, some 12, none, none]) := rfl
theorem ob_71 : mnth mSh 71 = some (0, 6, [some 72, some 73, none]) := rfl
theorem ar_72 : mnth mSh 72 = some (1, 50, []) := rfl
theorem ar_73 : mnth mSh 73 = some (1, 50, []) := rfl
theorem ob_74 : mnth mSh 74 = some (0, 0, [some 75, some 80, none, none, none]) := rfl
theorem ob_75 : mnth mSh 75 = some (0, 9, [some 76, some 77, some 78, some 79, none]) := rfl
theorem ar_76 : mnth mSh 76 = some (1, 9, []) := rfl
theorem ar_77 : mnth mSh 77 = some (1, 9, []) := rfl
theorem ar_78 : mnth mSh 78 = some (1, 9, []) := rfl
theorem ar_79 : mnth mSh 79 = some (1, 9, []) := rfl
theorem ar_80 : mnth mSh 80 = some (1, 9, []) := rfl
theorem ob_81 : mnth mSh 81 = some (0, 8, [some 82, none, none, none, none]) := rfl
theorem ar_82 : mnth mSh 82 = some (1, 40, []) := rfl
theorem aq_83 : mnth mSh 83 = some (3, 4, [some 84, some 86, some 88, some 90]) := rfl
theorem ob_84 : mnth mSh 84 = some (0, 5, [some 85, none, none]) := rfl
theorem ar_85 : mnth mSh 85 = some (1, 40, []) := rfl
theorem ob_86 : mnth mSh 86 = some (0, 5, [some 87, none, none]) := rfl
theorem ar_87 : mnth mSh 87 = some (1, 40, []) := rfl
theorem ob_88 : mnth mSh 88 = some (0, 5, [some 89, none, none]) := rfl
theorem ar_89 : mnth mSh 89 = some (1, 40, []) := rfl
theorem ob_90 : mnth mSh 90 = some (0, 5, [some 91, none, none]) := rfl
theorem ar_91 : mnth mSh 91 = some (1, 40, []) := rfl
theorem ar_92 : mnth mSh 92 = some (1, 6, []) := rfl
theorem ob_93 : mnth mSh 93 = some (0, 12, [some 94, some 95, some 96, none, some 97, none, none, none, none, none, none, some 98, some 99, some 100, some 101, none, none, some 102, some 103, some 104, some 105]) := rfl
theorem ar_94 : mnth mSh 94 = some (1, 320, []) := rfl
theorem ar_95 : mnth mSh 95 = some (1, 320, []) := rfl
theorem ar_96 : mnth mSh 96 = some (1, 320, []) := rfl
theorem ar_97 : mnth mSh 97 = some (1, 6, []) := rfl
theorem ar_98 : mnth mSh 98 = some (1, 4, []) := rfl
theorem ar_99 : mnth mSh 99 = some (1, 9, []) := rfl
theorem az_100 : mnth mSh 100 = some (2, 9, []) := rfl
theorem ar_101 : mnth mSh 101 = some (1, 40, []) := rfl
theorem ar_102 : mnth mSh 102 = some (1, 4, []) := rfl
theorem ar_103 : mnth mSh 103 = some (1, 4, []) := rfl
theorem ar_104 : mnth mSh 104 = some (1, 160, []) := rfl
theorem ar_105 : mnth mSh 105 = some (1, 40, []) := rfl
theorem p9_32 : P9 32 := ⟨ob_32, ar_33, ar_34, ar_35, ar_36⟩
theorem p9_45 : P9 45 := ⟨ob_45, ar_46, ar_47, ar_48, ar_49⟩
theorem p9_58 : P9 58 := ⟨ob_58, ar_59, ar_60, ar_61, ar_62⟩
theorem p9_75 : P9 75 := ⟨ob_75, ar_76, ar_77, ar_78, ar_79⟩
theorem p7_37 : P7 37 := ⟨ob_37, ar_38, ar_39, ar_40, ar_41, ar_42, ar_43⟩
theorem p7_50 : P7 50 := ⟨ob_50, ar_51, ar_52, ar_53, ar_54, ar_55, ar_56⟩
theorem p7_63 : P7 63 := ⟨ob_63, ar_64, ar_65, ar_66, ar_67, ar_68, ar_69⟩
theorem p6_6 : P6 6 := ⟨ob_6, ar_7, ar_8⟩
theorem p6_9 : P6 9 := ⟨ob_9, ar_10, ar_11⟩
theorem p6_21 : P6 21 := ⟨ob_21, ar_22, ar_23⟩
theorem p6_24 : P6 24 := ⟨ob_24, ar_25, ar_26⟩
theorem p6_71 : P6 71 := ⟨ob_71, ar_72, ar_73⟩
theorem p4_12 : P4 12 50 := ⟨ob_12, ar_13⟩
theorem p4_14 : P4 14 20 := ⟨ob_14, ar_15⟩
theorem p4_27 : P4 27 50 := ⟨ob_27, ar_28⟩
theorem p4_29 : P4 29 20 := ⟨ob_29, ar_30⟩
theorem p5_84 : P5 84 := ⟨ob_84, ar_85⟩
theorem p5_86 : P5 86 := ⟨ob_86, ar_87⟩
theorem p5_88 : P5 88 := ⟨ob_88, ar_89⟩
theorem p5_90 : P5 90 := ⟨ob_90, ar_91⟩
theorem p2_2 : P2 2 := ⟨ob_2, ar_3, ar_4, ar_5⟩
theorem p2_17 : P2 17 := ⟨ob_17, ar_18, ar_19, ar_20⟩
theorem p1_1 : P1 1 := ⟨ob_1, p2_2, p6_6, p6_9, p4_12, p4_14⟩
theorem p1_16 : P1 16 := ⟨ob_16, p2_17, p6_21, p6_24, p4_27, p4_29⟩
theorem p10_31 : P10 31 6 9 := ⟨ob_31, p9_32, p7_37, p6_6, p6_9⟩
theorem p10_44 : P10 44 6 9 := ⟨ob_44, p9_45, p7_50, p6_6, p6_9⟩
theorem p10_57 : P10 57 21 24 := ⟨ob_57, p9_58, p7_63, p6_21, p6_24⟩
theorem mrd {r n : Nat} (h : mnth mSh r = some (1, n, [])) (L : Nat) (σ : Sg) : mal (mSh, L, σ) r = some n := by
  simp only [mal, h]
theorem mrd_1 (L : Nat) (σ : Sg) : mal (mSh, L, σ) (1000000 + 1) = some 7 := rfl
theorem mrd_2 (L : Nat) (σ : Sg) : mal (mSh, L, σ) (1000000 + 2) = some 28 := rfl
theorem msheet : ∀ i, i < 4 → ([some 84, some 86, some 88, some 90] : List (Option Nat)).getD i none = some (84 + 2 * i) ∧ P5 (84 + 2 * i) := by
  intro i hi
  match i, hi with
  | 0, _ => exact ⟨rfl, p5_84⟩
  | 1, _ => exact ⟨rfl, p5_86⟩
  | 2, _ => exact ⟨rfl, p5_88⟩
  | 3, _ => exact ⟨rfl, p5_90⟩
  | n + 4, h => omega
