/-! the pure part: numbers, and the small functions in plain words -/
theorem nlit (n : Nat) : (OfNat.ofNat n : Int32) = nI n := rfl
theorem nI_lt0 {n : Nat} (h : n < 2 ^ 31) : ¬ nI n < 0 := nI_pos h
theorem ilt (a b : Int32) : a < b ↔ a.toInt < b.toInt := Int32.lt_iff_toInt_lt
theorem ile (a b : Int32) : a ≤ b ↔ a.toInt ≤ b.toInt := Int32.le_iff_toInt_le
theorem ieq (a b : Int32) : a = b ↔ a.toInt = b.toInt := Int32.toInt_inj.symm
theorem irng (x : Int32) : -2147483648 ≤ x.toInt ∧ x.toInt < 2147483648 := by
  have h1 := Int32.le_toInt x
  have h2 := Int32.toInt_lt x
  constructor <;> omega
theorem ibm {z : Int} (h1 : -2147483648 ≤ z) (h2 : z < 2147483648) : z.bmod (2 ^ 32) = z := by
  rw [Int.bmod_def]
  split <;> omega
theorem iadd {x y : Int32} (h1 : -2147483648 ≤ x.toInt + y.toInt) (h2 : x.toInt + y.toInt < 2147483648) : (x + y).toInt = x.toInt + y.toInt := by
  rw [Int32.toInt_add]; exact ibm h1 h2
theorem isub {x y : Int32} (h1 : -2147483648 ≤ x.toInt - y.toInt) (h2 : x.toInt - y.toInt < 2147483648) : (x - y).toInt = x.toInt - y.toInt := by
  rw [Int32.toInt_sub]; exact ibm h1 h2
theorem imul {x y : Int32} (h1 : -2147483648 ≤ x.toInt * y.toInt) (h2 : x.toInt * y.toInt < 2147483648) : (x * y).toInt = x.toInt * y.toInt := by
  rw [Int32.toInt_mul]; exact ibm h1 h2
/-- a number within bounds is a small natural -/
theorem nI_get {x : Int32} {n : Nat} (hn : n < 2 ^ 31) (h0 : 0 ≤ x) (h1 : x < nI n) : ∃ k, k < n ∧ x = nI k := by
  have e := nI_toInt hn
  rw [ilt] at h1
  rw [ile] at h0
  have e0 : (0 : Int32).toInt = 0 := rfl
  refine ⟨x.toInt.toNat, by omega, ?_⟩
  rw [ieq, nI_toInt (by omega)]
  omega
theorem nI_getL {x : Int32} {n : Nat} (hn : n < 2 ^ 31) (h0 : 0 ≤ x) (h1 : x ≤ nI n) : ∃ k, k ≤ n ∧ x = nI k := by
  have e := nI_toInt hn
  rw [ile] at h1
  rw [ile] at h0
  have e0 : (0 : Int32).toInt = 0 := rfl
  refine ⟨x.toInt.toNat, by omega, ?_⟩
  rw [ieq, nI_toInt (by omega)]
  omega
theorem mup_at (σ : Sg) (a j : Nat) (v : Int32) : mup σ a j v a = upd (σ a) j v := by simp [mup, mrow]
theorem mup_ne {σ : Sg} {a b j : Nat} {v : Int32} (h : b ≠ a) : mup σ a j v b = σ b := by simp [mup, mrow, h]
theorem mup_eq (σ : Sg) (a j : Nat) (v : Int32) (b k : Nat) : mup σ a j v b k = if b = a ∧ k = j then v else σ b k := by
  by_cases h : b = a
  · subst h
    rw [mup_at]
    simp [upd]
  · rw [mup_ne h]
    simp [h]
theorem mrow_eq (σ : Sg) (a : Nat) (f : Nat → Int32) (b : Nat) : mrow σ a f b = if b = a then f else σ b := rfl
theorem has_eq (a : Nat) (p : Int32) (σ : Sg) : f_X9_has a p σ = some (if 0 ≤ p ∧ p < σ a 4 then 1 else 0) := by
  unfold f_X9_has
  by_cases h1 : p < 0
  · rw [if_pos h1, if_neg (fun z => by rw [ile] at z; rw [ilt] at h1; omega)]
  · rw [if_neg h1]
    have h1' : 0 ≤ p := by rw [ile]; rw [ilt] at h1; omega
    by_cases h2 : σ a 4 ≤ p
    · rw [if_pos h2, if_neg (fun z => by have := z.2; rw [ilt] at this; rw [ile] at h2; omega)]
    · rw [if_neg h2, if_pos ⟨h1', by rw [ilt]; rw [ile] at h2; omega⟩]
theorem thas_eq (a : Nat) (p : Int32) (σ : Sg) : f_X7_has a p σ = some (if 0 ≤ p ∧ p < σ a 6 then 1 else 0) := by
  unfold f_X7_has
  by_cases h1 : p < 0
  · rw [if_pos h1, if_neg (fun z => by rw [ile] at z; rw [ilt] at h1; omega)]
  · rw [if_neg h1]
    have h1' : 0 ≤ p := by rw [ile]; rw [ilt] at h1; omega
    by_cases h2 : σ a 6 ≤ p
    · rw [if_pos h2, if_neg (fun z => by have := z.2; rw [ilt] at this; rw [ile] at h2; omega)]
    · rw [if_neg h2, if_pos ⟨h1', by rw [ilt]; rw [ile] at h2; omega⟩]
theorem within_eq (p lo hi : Int32) (σ : Sg) : f_X11_within p lo hi σ = some (if lo ≤ p ∧ p ≤ hi then 1 else 0) := by
  unfold f_X11_within
  by_cases h1 : p < lo
  · rw [if_pos h1, if_neg (fun z => by have := z.1; rw [ile] at this; rw [ilt] at h1; omega)]
  · rw [if_neg h1]
    by_cases h2 : hi < p
    · rw [if_pos h2, if_neg (fun z => by have := z.2; rw [ile] at this; rw [ilt] at h2; omega)]
    · rw [if_neg h2, if_pos ⟨by rw [ile]; rw [ilt] at h1; omega, by rw [ile]; rw [ilt] at h2; omega⟩]
theorem lcmp_lt (x y : Int32) : lg_cmp x.toInt64 y.toInt64 < 0 ↔ x < y := by
  unfold lg_cmp
  have e1 := Int32.toInt_toInt64 x
  have e2 := Int32.toInt_toInt64 y
  rw [ilt x y]
  simp only [gt_iff_lt, Int64.lt_iff_toInt_lt, ← Int64.toInt_inj, e1, e2]
  repeat' split
  all_goals (constructor <;> intro hh <;> first | omega | decide | exact absurd hh (by decide))
theorem lcmp_gt (x y : Int32) : 0 < lg_cmp x.toInt64 y.toInt64 ↔ y < x := by
  unfold lg_cmp
  have e1 := Int32.toInt_toInt64 x
  have e2 := Int32.toInt_toInt64 y
  rw [ilt y x]
  simp only [gt_iff_lt, Int64.lt_iff_toInt_lt, ← Int64.toInt_inj, e1, e2]
  repeat' split
  all_goals (constructor <;> intro hh <;> first | omega | decide | exact absurd hh (by decide))
theorem isIn_eq (p lo hi : Int32) (σ : Sg) : f_X12_isIn p.toInt64 lo.toInt64 hi.toInt64 σ = some (if lo ≤ p ∧ p ≤ hi then 1 else 0) := by
  unfold f_X12_isIn
  by_cases h1 : p < lo
  · rw [if_pos ((lcmp_lt _ _).mpr h1), if_neg (fun z => by have := z.1; rw [ile] at this; rw [ilt] at h1; omega)]
  · rw [if_neg (fun z => h1 ((lcmp_lt _ _).mp z))]
    by_cases h2 : hi < p
    · rw [if_pos ((lcmp_gt _ _).mpr h2), if_neg (fun z => by have := z.2; rw [ile] at this; rw [ilt] at h2; omega)]
    · rw [if_neg (fun z => h2 ((lcmp_gt _ _).mp z)), if_pos ⟨by rw [ile]; rw [ilt] at h1; omega, by rw [ile]; rw [ilt] at h2; omega⟩]
theorem pick_at {r n k : Nat} {σ : Sg} (h : k < n) (hn : n ≤ 1000) : f_X11_pick r n (nI k) σ = some (σ r k) := by
  unfold f_X11_pick
  have e : Int32.ofNat n = nI n := rfl
  rw [if_neg (nI_pos (by omega)), e, if_neg (nI_ge h (by omega)), if_neg (nI_in h (by omega)), nI_clamp (by omega)]
theorem pick_neg {r n : Nat} {p : Int32} {σ : Sg} (h : p < 0) : f_X11_pick r n p σ = some 0 := by
  unfold f_X11_pick
  rw [if_pos h]
theorem pick_out {r n k : Nat} {σ : Sg} (h : n ≤ k) (hk : k < 2 ^ 31) (hn : n ≤ 1000) : f_X11_pick r n (nI k) σ = some 0 := by
  unfold f_X11_pick
  have e : Int32.ofNat n = nI n := rfl
  rw [if_neg (nI_pos (by omega)), e, if_pos (nI_le h hk)]
theorem lay_at {r n k : Nat} {v : Int32} {σ : Sg} (h : k < n) (hn : n ≤ 1000) : f_X11_lay r n (nI k) v σ = some (mup σ r k v) := by
  unfold f_X11_lay
  have e : Int32.ofNat n = nI n := rfl
  rw [if_neg (nI_pos (by omega)), e, if_neg (nI_ge h (by omega)), if_neg (nI_in h (by omega)), nI_clamp (by omega)]
theorem lay_neg {r n : Nat} {p v : Int32} {σ : Sg} (h : p < 0) : f_X11_lay r n p v σ = some σ := by
  unfold f_X11_lay
  rw [if_pos h]
theorem error_eq {k : Nat} (h : k < 6) (σ : Sg) : f_X11_error (nI k) σ = some ((-1000000000 : Int32) - nI k, mup σ 92 k (σ 92 k + 1)) := by
  unfold f_X11_error
  rw [pick_at h (by omega)]
  simp only [Option.bind_some]
  rw [lay_at h (by omega)]
  rfl
theorem finds_eq {k : Nat} (h : k < 6) (σ : Sg) : f_X12_finds (nI k) σ = some ((-1000000000 : Int32) - nI k, mup σ 97 k (σ 97 k + 1)) := by
  unfold f_X12_finds
  rw [if_neg (nI_in h (by omega)), if_neg (nI_in h (by omega)), nI_clamp (by omega)]
theorem isWell_eq (p : Int32) (σ : Sg) : f_X12_isWell p σ = some (if 0 ≤ p ∧ p ≤ σ 94 1 - 1 then 1 else 0) := by
  unfold f_X12_isWell
  rw [isIn_eq]
  simp only [Option.bind_some]
  split <;> rfl
theorem isThing_eq (p : Int32) (σ : Sg) : f_X12_isThing p σ = some (if 0 ≤ p ∧ p ≤ σ 94 2 - 1 then 1 else 0) := by
  unfold f_X12_isThing
  rw [isIn_eq]
  simp only [Option.bind_some]
  split <;> rfl
