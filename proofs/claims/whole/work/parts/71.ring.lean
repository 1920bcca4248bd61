theorem or_nI (v w : Nat) : nI v ||| nI w = nI (v ||| w) := by
  show Int32.ofNat v ||| Int32.ofNat w = Int32.ofNat (v ||| w)
  rw [← Int32.toBitVec_inj, Int32.toBitVec_or, Int32.toBitVec_ofNat', Int32.toBitVec_ofNat', Int32.toBitVec_ofNat', BitVec.ofNat_or]
theorem sh_nI : ∀ t, t < 10 → (1 : Int32) <<< (nI t &&& 31) = nI (2 ^ t) := by decide
theorem or_bit {v t : Nat} (ht : t < 10) : nI v ||| ((1 : Int32) <<< (nI t &&& 31)) = nI (v ||| 2 ^ t) := by
  rw [sh_nI t ht, or_nI]
theorem or_lt {v t : Nat} (hv : v < 1024) (ht : t < 10) : v ||| 2 ^ t < 1024 :=
  Nat.or_lt_two_pow (n := 10) hv (Nat.pow_lt_pow_right (by decide) ht)
theorem or_tb {v t b : Nat} : (v ||| 2 ^ t).testBit b = (v.testBit b || decide (t = b)) := by
  rw [Nat.testBit_or, Nat.testBit_two_pow]
theorem least_of {P : Nat → Prop} (h : ∃ k, P k) : ∃ k, P k ∧ ∀ j, j < k → ¬ P j := by
  obtain ⟨k, hk⟩ := h
  induction k using Nat.strongRecOn with
  | ind k ih =>
    by_cases z : ∃ j, j < k ∧ P j
    · obtain ⟨j, j1, j2⟩ := z
      exact ih j j1 j2
    · exact ⟨k, hk, fun j hj hp => z ⟨j, hj, hp⟩⟩
/-- distinct numbers below n are at most n -/
theorem pigeon : ∀ (n r : Nat) (g : Nat → Nat), (∀ i, i < r → g i < n) → (∀ i j, i < r → j < r → g i = g j → i = j) → r ≤ n := by
  intro n
  induction n with
  | zero =>
    intro r g h1 h2
    rcases Nat.eq_zero_or_pos r with z | z
    · omega
    · exact absurd (h1 0 z) (by omega)
  | succ n ih =>
    intro r g h1 h2
    by_cases z : ∃ i, i < r ∧ g i = n
    · obtain ⟨i0, i1, i2⟩ := z
      have := ih (r - 1) (fun i => if i < i0 then g i else g (i + 1)) (fun i hi => by
        show (if i < i0 then g i else g (i + 1)) < n
        by_cases y : i < i0
        · rw [if_pos y]
          have a := h1 i (by omega)
          have b : g i ≠ n := fun e => by have := h2 i i0 (by omega) i1 (e.trans i2.symm); omega
          omega
        · rw [if_neg y]
          have a := h1 (i + 1) (by omega)
          have b : g (i + 1) ≠ n := fun e => by have := h2 (i + 1) i0 (by omega) i1 (e.trans i2.symm); omega
          omega) (fun i j hi hj e => by
        have e' : (if i < i0 then g i else g (i + 1)) = (if j < i0 then g j else g (j + 1)) := e
        by_cases y : i < i0
        · by_cases x : j < i0
          · rw [if_pos y, if_pos x] at e'
            exact h2 i j (by omega) (by omega) e'
          · rw [if_pos y, if_neg x] at e'
            have := h2 i (j + 1) (by omega) (by omega) e'
            omega
        · by_cases x : j < i0
          · rw [if_neg y, if_pos x] at e'
            have := h2 (i + 1) j (by omega) (by omega) e'
            omega
          · rw [if_neg y, if_neg x] at e'
            have := h2 (i + 1) (j + 1) (by omega) (by omega) e'
            omega)
      omega
    · have := ih r g (fun i hi => by
        have a := h1 i hi
        have b : g i ≠ n := fun e => z ⟨i, hi, e⟩
        omega) h2
      omega
/-- the next well, n for none -/
def nxt (n : Nat) (T : Nat → Int32) (w : Nat) : Nat := if w < n then (if T w < 0 then n else (T w).toNatClampNeg) else n
def itr (n : Nat) (T : Nat → Int32) : Nat → Nat → Nat
  | 0, w => w
  | k + 1, w => nxt n T (itr n T k w)
theorem nxt_le {n w : Nat} {T : Nat → Int32} {dd : Nat → Nat} (hg : GM n T dd) (hn : n ≤ 9) : nxt n T w ≤ n := by
  unfold nxt
  by_cases z : w < n
  · rw [if_pos z]
    rcases (hg w z).1 with y | ⟨j, hj, y⟩
    · rw [y, if_pos n1lt]; exact Nat.le_refl _
    · rw [y, if_neg (nI_pos (by omega)), clI (by omega)]; omega
  · rw [if_neg z]; exact Nat.le_refl _
theorem itr_le {n : Nat} {T : Nat → Int32} {dd : Nat → Nat} (hg : GM n T dd) (hn : n ≤ 9) : ∀ k w, w ≤ n → itr n T k w ≤ n
  | 0, _, h => h
  | _ + 1, _, _ => nxt_le hg hn
theorem itr_add (n : Nat) (T : Nat → Int32) (a : Nat) : ∀ b w, itr n T (b + a) w = itr n T b (itr n T a w)
  | 0, w => by rw [Nat.zero_add]; rfl
  | b + 1, w => by
    rw [show b + 1 + a = (b + a) + 1 by omega]
    show nxt n T (itr n T (b + a) w) = nxt n T (itr n T b (itr n T a w))
    rw [itr_add n T a b w]
theorem itr_n (n : Nat) (T : Nat → Int32) : ∀ k, itr n T k n = n
  | 0 => rfl
  | k + 1 => by
    show nxt n T (itr n T k n) = n
    rw [itr_n n T k]
    unfold nxt
    rw [if_neg (by omega)]
theorem itr_mul {n w r : Nat} {T : Nat → Int32} (h : itr n T r w = w) : ∀ q, itr n T (q * r) w = w
  | 0 => by rw [Nat.zero_mul]; rfl
  | q + 1 => by
    rw [Nat.succ_mul, itr_add, h, itr_mul h q]
theorem itr_mod {n w r : Nat} {T : Nat → Int32} (h : itr n T r w = w) (q : Nat) : itr n T q w = itr n T (q % r) w := by
  have e := Nat.mod_add_div q r
  rw [Nat.mul_comm] at e
  conv => lhs; rw [← e]
  rw [itr_add, itr_mul h]
/-- w lies in a ring of r wells -/
def Rg (n : Nat) (T : Nat → Int32) (w r : Nat) : Prop := w < n ∧ 1 ≤ r ∧ itr n T r w = w ∧ ∀ k, 1 ≤ k → k < r → itr n T k w ≠ w
theorem Rg_in {n w r : Nat} {T : Nat → Int32} {dd : Nat → Nat} (hg : GM n T dd) (hn : n ≤ 9) (h : Rg n T w r) (k : Nat) : itr n T k w < n := by
  obtain ⟨h1, h2, h3, h4⟩ := h
  have := itr_le hg hn k w (by omega)
  rcases Nat.lt_or_ge (itr n T k w) n with z | z
  · exact z
  · exfalso
    have e : itr n T k w = n := by omega
    have e2 : itr n T (k * r) w = w := itr_mul h3 k
    have e3 : k ≤ k * r := Nat.le_mul_of_pos_right k h2
    have e4 := itr_add n T k (k * r - k) w
    rw [show k * r - k + k = k * r by omega, e2, e, itr_n] at e4
    omega
theorem Rg_le {n w r : Nat} {T : Nat → Int32} {dd : Nat → Nat} (hg : GM n T dd) (hn : n ≤ 9) (h : Rg n T w r) : r ≤ n := by
  have key : ∀ i j, i < j → j < r → itr n T i w ≠ itr n T j w := fun i j hij hj e => by
    obtain ⟨h1, h2, h3, h4⟩ := h
    have e1 := itr_add n T i (r - j) w
    have e2 := itr_add n T j (r - j) w
    rw [e, ← e2, show r - j + j = r by omega, h3] at e1
    exact h4 (r - j + i) (by omega) (by omega) e1
  refine pigeon n r (fun i => itr n T i w) (fun i _ => Rg_in hg hn h i) (fun i j hi hj e => ?_)
  rcases Nat.lt_trichotomy i j with z | z | z
  · exact absurd e (key i j z hj)
  · exact z
  · exact absurd e.symm (key j i z hi)
theorem Rg_ex {n w : Nat} {T : Nat → Int32} (hw : w < n) : (∃ r, Rg n T w r) ∨ ∀ k, 1 ≤ k → itr n T k w ≠ w := by
  by_cases z : ∃ k, 1 ≤ k ∧ itr n T k w = w
  · obtain ⟨k, ⟨k1, k2⟩, k3⟩ := least_of (P := fun k => 1 ≤ k ∧ itr n T k w = w) z
    exact Or.inl ⟨k, hw, k1, k2, fun j a b c => k3 j b ⟨a, c⟩⟩
  · exact Or.inr (fun k a b => z ⟨k, a, b⟩)
/-- a place as a number -/
def pI (n u : Nat) : Int32 := if u < n then nI u else -1
theorem pI_nxt {n w : Nat} {T : Nat → Int32} {dd : Nat → Nat} (hg : GM n T dd) (hn : n ≤ 9) (hw : w < n) : pI n (nxt n T w) = T w := by
  unfold pI nxt
  rw [if_pos hw]
  rcases (hg w hw).1 with y | ⟨j, hj, y⟩
  · rw [y, if_pos n1lt, if_neg (by omega)]
  · rw [y, if_neg (nI_pos (by omega)), clI (by omega), if_pos hj]
theorem pI_eq {n u w : Nat} (hn : n ≤ 9) (hu : u ≤ n) (hw : w < n) : pI n u = nI w ↔ u = w := by
  unfold pI
  by_cases z : u < n
  · rw [if_pos z, nI_eq_iff (by omega) (by omega)]
  · rw [if_neg z]
    constructor
    · intro e
      exact absurd (e ▸ nI_pos' (show w < 2 ^ 31 by omega) : (0 : Int32) ≤ -1) (by decide)
    · intro e; omega
/-- the least of w's first i steps -/
def mnr (n : Nat) (T : Nat → Int32) (w : Nat) : Nat → Nat
  | 0 => w
  | i + 1 => if itr n T (i + 1) w < mnr n T w i then itr n T (i + 1) w else mnr n T w i
theorem mnr_lt {n w r : Nat} {T : Nat → Int32} {dd : Nat → Nat} (hg : GM n T dd) (hn : n ≤ 9) (h : Rg n T w r) : ∀ i, mnr n T w i < n
  | 0 => h.1
  | i + 1 => by
    unfold mnr
    have a := Rg_in hg hn h (i + 1)
    have b := mnr_lt hg hn h i
    split <;> omega
theorem mnr_eq {n w : Nat} {T : Nat → Int32} : ∀ i, (mnr n T w i ≤ w) ∧ (mnr n T w i = w ↔ ∀ k, k ≤ i → w ≤ itr n T k w)
  | 0 => ⟨Nat.le_refl _, ⟨fun _ k hk => by rw [show k = 0 by omega]; exact Nat.le_refl _, fun _ => rfl⟩⟩
  | i + 1 => by
    obtain ⟨a, b⟩ := mnr_eq (n := n) (w := w) (T := T) i
    unfold mnr
    by_cases z : itr n T (i + 1) w < mnr n T w i
    · rw [if_pos z]
      refine ⟨by omega, ⟨fun e => by omega, fun e => ?_⟩⟩
      have := e (i + 1) (Nat.le_refl _)
      omega
    · rw [if_neg z]
      refine ⟨a, ⟨fun e k hk => ?_, fun e => b.mpr (fun k hk => e k (by omega))⟩⟩
      by_cases y : k = i + 1
      · rw [y]; omega
      · exact b.mp e k (by omega)
/-- what leadsTo and the reference's row give of a place -/
theorem xlead {σ : Sg} {a n u : Nat} {T : Nat → Int32} {dd : Nat → Nat} (hg : GM n T dd) (hn : n ≤ 9) (hc : σ a 4 = nI n) (hr : ∀ w, w < n → σ (a + 1) w = T w) (hu : u ≤ n) : f_X9_leadsTo a (pI n u) σ = some (pI n (nxt n T u)) := by
  by_cases z : u < n
  · have e : pI n u = nI u := by unfold pI; rw [if_pos z]
    rw [e, leadsTo_at hc z hn, hr u z, pI_nxt hg hn z]
  · have e : pI n u = -1 := by unfold pI; rw [if_neg z]
    have e2 : pI n (nxt n T u) = -1 := by unfold pI nxt; rw [if_neg z, if_neg (by omega)]
    rw [e, e2, leadsTo_out hc (fun y => absurd y.1 (by decide))]
theorem xring_yes {σ : Sg} {a n w r : Nat} {T : Nat → Int32} {dd : Nat → Nat} (hg : GM n T dd) (hn : n ≤ 9) (hc : σ a 4 = nI n) (hr : ∀ w, w < n → σ (a + 1) w = T w) (h : Rg n T w r) : ∀ j i m, r - i = j → i < r → j < m → c_X9_leastOfRing_7 a σ m (nI w) (nI (itr n T i w)) (nI (mnr n T w i)) (nI i) = some (nI (mnr n T w (r - 1))) := by
  have hr9 := Rg_le hg hn h
  intro j
  induction j with
  | zero => intro i m hj hi hm; omega
  | succ j ih =>
    intro i m hj hi hm
    obtain ⟨m, rfl⟩ : ∃ k, m = k + 1 := ⟨m - 1, by omega⟩
    have a1 := Rg_in hg hn h i
    have a2 := Rg_in hg hn h (i + 1)
    have e1 : pI n (itr n T i w) = nI (itr n T i w) := by unfold pI; rw [if_pos a1]
    have e2 : pI n (nxt n T (itr n T i w)) = nI (itr n T (i + 1) w) := by
      show pI n (itr n T (i + 1) w) = _
      unfold pI; rw [if_pos a2]
    have hl := xlead (u := itr n T i w) hg hn hc hr (by omega)
    rw [e1, e2] at hl
    have b1 := mnr_lt hg hn h i
    rw [c_X9_leastOfRing_7, hc, if_neg (nI_ge (by omega) (by omega)), hl, Option.bind_some]
    by_cases z : i + 1 = r
    · rw [z, h.2.2.1, if_pos rfl, show r - 1 = i by omega]
    · have z2 := h.2.2.2 (i + 1) (by omega) (by omega)
      have hw := h.1
      have em : (if nI (itr n T (i + 1) w) < nI (mnr n T w i) then nI (itr n T (i + 1) w) else nI (mnr n T w i)) = nI (mnr n T w (i + 1)) := by
        have e9 : mnr n T w (i + 1) = if itr n T (i + 1) w < mnr n T w i then itr n T (i + 1) w else mnr n T w i := rfl
        rw [e9]
        simp (disch := omega) only [nI_lt_iff]
        split <;> rfl
      rw [if_neg (by rw [nI_eq_iff (by omega) (by omega)]; exact z2), em, nIp1]
      exact ih (i + 1) m (by omega) (by omega) (by omega)
theorem xring_no {σ : Sg} {a n w : Nat} {T : Nat → Int32} {dd : Nat → Nat} (hg : GM n T dd) (hn : n ≤ 9) (hc : σ a 4 = nI n) (hr : ∀ w, w < n → σ (a + 1) w = T w) (hw : w < n) (h : ∀ k, 1 ≤ k → itr n T k w ≠ w) : ∀ j i m x, n - i = j → j < m → i ≤ n → c_X9_leastOfRing_7 a σ m (nI w) (pI n (itr n T i w)) x (nI i) = some (-1) := by
  intro j
  induction j with
  | zero =>
    intro i m x hj hm hi
    obtain ⟨m, rfl⟩ : ∃ k, m = k + 1 := ⟨m - 1, by omega⟩
    rw [c_X9_leastOfRing_7, hc, if_pos (nI_le (by omega) (by omega))]
  | succ j ih =>
    intro i m x hj hm hi
    obtain ⟨m, rfl⟩ : ∃ k, m = k + 1 := ⟨m - 1, by omega⟩
    have a1 := itr_le hg hn i w (by omega)
    have a2 := itr_le hg hn (i + 1) w (by omega)
    have hne : ¬ pI n (nxt n T (itr n T i w)) = nI w := fun e => h (i + 1) (by omega) ((pI_eq hn a2 hw).mp e)
    rw [c_X9_leastOfRing_7, hc, if_neg (nI_ge (by omega) (by omega)), xlead hg hn hc hr a1, Option.bind_some, if_neg hne, nIp1]
    exact ih (i + 1) m _ (by omega) (by omega) (by omega)
theorem mring_yes {σ : Sg} {n w r : Nat} {T : Nat → Int32} {dd : Nat → Nat} (hg : GM n T dd) (hn : n ≤ 9) (hr : ∀ w, w < n → σ 94 (10 + 4 * w) = T w) (h : Rg n T w r) : ∀ j i m, r - i = j → 1 ≤ i → i ≤ r → j < m → c_X12_ringOf_9 σ m (nI w) (nI (itr n T i w)) (nI i) = some (nI r) := by
  have hr9 := Rg_le hg hn h
  have hw := h.1
  intro j
  induction j with
  | zero =>
    intro i m hj h1 hi hm
    obtain ⟨m, rfl⟩ : ∃ k, m = k + 1 := ⟨m - 1, by omega⟩
    have e : i = r := by omega
    rw [c_X12_ringOf_9, e, h.2.2.1, if_neg (nI_pos (by omega)), if_pos rfl]
    unfold c_X12_ringOf_37
    rw [if_pos rfl]
  | succ j ih =>
    intro i m hj h1 hi hm
    obtain ⟨m, rfl⟩ : ∃ k, m = k + 1 := ⟨m - 1, by omega⟩
    have a1 := Rg_in hg hn h i
    have a2 := Rg_in hg hn h (i + 1)
    have z2 := h.2.2.2 i (by omega) (by omega)
    have e2 : T (itr n T i w) = nI (itr n T (i + 1) w) := by
      rw [← pI_nxt hg hn a1]
      show pI n (itr n T (i + 1) w) = _
      unfold pI; rw [if_pos a2]
    have iw := itsWell_at (w := itr n T i w) (c := 0) (σ := σ) (by omega) (by omega)
    rw [show nI 0 = 0 from rfl, Nat.add_zero, hr _ a1, e2] at iw
    rw [c_X12_ringOf_9, if_neg (nI_pos (by omega)), if_neg (by rw [nI_eq_iff (by omega) (by omega)]; exact z2), if_neg (by rw [show (20 : Int32) = nI 20 from rfl, nI_le_iff (by omega) (by omega)]; omega), iw, Option.bind_some, nIp1]
    exact ih (i + 1) m (by omega) (by omega) (by omega) (by omega)
theorem mring_no {σ : Sg} {n w : Nat} {T : Nat → Int32} {dd : Nat → Nat} (hg : GM n T dd) (hn : n ≤ 9) (hr : ∀ w, w < n → σ 94 (10 + 4 * w) = T w) (hw : w < n) (h : ∀ k, 1 ≤ k → itr n T k w ≠ w) : ∀ j i m, 20 - i = j → 1 ≤ i → i ≤ 20 → j < m → c_X12_ringOf_9 σ m (nI w) (pI n (itr n T i w)) (nI i) = some 0 := by
  intro j
  induction j with
  | zero =>
    intro i m hj h1 hi hm
    obtain ⟨m, rfl⟩ : ∃ k, m = k + 1 := ⟨m - 1, by omega⟩
    have a1 := itr_le hg hn i w (by omega)
    have hne : ¬ pI n (itr n T i w) = nI w := fun e => h i h1 ((pI_eq hn a1 hw).mp e)
    rw [c_X12_ringOf_9]
    unfold c_X12_ringOf_37
    have h20 : (20 : Int32) ≤ nI i := by rw [show (20 : Int32) = nI 20 from rfl, nI_le_iff (by omega) (by omega)]; omega
    rw [if_neg hne, if_neg hne, if_pos h20]
    simp only [ite_self]
  | succ j ih =>
    intro i m hj h1 hi hm
    obtain ⟨m, rfl⟩ : ∃ k, m = k + 1 := ⟨m - 1, by omega⟩
    have a1 := itr_le hg hn i w (by omega)
    have hne : ¬ pI n (itr n T i w) = nI w := fun e => h i h1 ((pI_eq hn a1 hw).mp e)
    rw [c_X12_ringOf_9]
    unfold c_X12_ringOf_37
    have h20 : ¬ (20 : Int32) ≤ nI i := by rw [show (20 : Int32) = nI 20 from rfl, nI_le_iff (by omega) (by omega)]; omega
    rw [if_neg hne, if_neg hne, if_neg h20]
    by_cases z : itr n T i w < n
    · have e1 : pI n (itr n T i w) = nI (itr n T i w) := by unfold pI; rw [if_pos z]
      have iw := itsWell_at (w := itr n T i w) (c := 0) (σ := σ) (by omega) (by omega)
      rw [show nI 0 = 0 from rfl, Nat.add_zero, hr _ z, ← pI_nxt hg hn z] at iw
      rw [e1, if_neg (nI_pos (by omega)), iw, Option.bind_some, nIp1]
      exact ih (i + 1) m (by omega) (by omega) (by omega) (by omega)
    · have e1 : pI n (itr n T i w) = -1 := by unfold pI; rw [if_neg z]
      rw [e1, if_pos n1lt]
