theorem eq_trace {xs : Nat → Int32} {σ : Sg} (h : Inv xs σ) (p : Int32) : Good xs (f_X11_trace p σ) (f_X12_trace p) := by
  obtain ⟨⟨n, n1, n2, n3⟩, v1, v2⟩ := h.2.2.2.2.1
  by_cases c : 0 ≤ p ∧ p < nI n
  · obtain ⟨k, hk, rfl⟩ := nI_get (by omega) c.1 c.2
    refine ⟨σ 82 k, σ, σ, ?_, ?_, h⟩
    · unfold f_X11_trace
      rw [if_neg (nI_pos (by omega)), v1, n3, if_pos c.2, pick_at (by omega) (by omega)]
      rfl
    · unfold f_X12_trace
      rw [isIn_eq, n3]
      simp only [Option.bind_some, ltp _ (show n ≤ 1000 by omega)]
      rw [bI_1 c, gdI (by omega) (by omega), clI (by omega), v2 k (by rw [n3]; exact c.2) (by omega)]
  · refine good_err h (k := 2) (by decide) ?_ (fun σ1 e => ?_)
    · unfold f_X11_trace
      by_cases z : p < 0
      · rw [if_pos z]
        rfl
      · rw [if_neg z, v1, n3, if_neg (fun y => c ⟨by rw [ile]; rw [ilt] at z; omega, y⟩)]
        rfl
    · unfold f_X12_trace
      rw [isIn_eq, e 93 (by decide), n3]
      simp only [Option.bind_some, ltp _ (show n ≤ 1000 by omega)]
      rw [bI_0 c]
      rfl
theorem isUnder_c (σ σ' : Sg) (h : σ 1000001 = σ' 1000001) : ∀ n x y z, c_X11_isUnder_4 σ n x y z = c_X11_isUnder_4 σ' n x y z := by
  intro n
  induction n with
  | zero => intros; rfl
  | succ n ih =>
    intro x y z
    have hp : ∀ q, f_X11_pick (1000000 + 1) 7 q σ = f_X11_pick (1000000 + 1) 7 q σ' := fun q => by
      unfold f_X11_pick
      rw [show 1000000 + 1 = 1000001 from rfl, h]
    unfold c_X11_isUnder_4
    rw [hp]
    simp only [ih]
theorem isUnder_all : ∀ k, k < 7 → ∀ p, p < 7 → f_X11_isUnder (nI k) (nI p) (fun _ => mka) = f_X12_isOf (nI k) (nI p) (fun _ => mka) ∧ (f_X12_isOf (nI k) (nI p) (fun _ => mka)).isSome = true := by
  decide +kernel
theorem isOf_c (σ σ' : Sg) (x y : Int32) : f_X12_isOf x y σ = f_X12_isOf x y σ' := rfl
theorem under_eq {xs : Nat → Int32} {σ : Sg} (h : Inv xs σ) {k p : Nat} (hk : k < 7) (hp : p < 7) : ∃ b : Int32, f_X11_isUnder (nI k) (nI p) σ = some b ∧ ∀ σ', f_X12_isOf (nI k) (nI p) σ' = some b := by
  obtain ⟨a1, a2⟩ := isUnder_all k hk p hp
  obtain ⟨b, hb⟩ := Option.isSome_iff_exists.mp a2
  refine ⟨b, ?_, fun σ' => by rw [isOf_c σ' (fun _ => mka)]; exact hb⟩
  rw [← hb, ← a1]
  unfold f_X11_isUnder
  exact isUnder_c _ _ h.2.2.2.2.2.2.2.1 _ _ _ _
theorem eq_as {xs : Nat → Int32} {σ : Sg} (h : Inv xs σ) (p0 p1 : Int32) : Good xs (f_X11_as p0 p1 σ) (f_X12_as p0 p1) := by
  obtain ⟨w1, w2, w3, t1, t2, t3⟩ := h.base
  have hkind : ∀ s : Sg, f_X11_isKind p1 s = some (if 0 ≤ p1 ∧ p1 ≤ 6 then 1 else 0) := by
    intro s
    unfold f_X11_isKind
    rw [within_eq]
    simp only [Option.bind_some]
    split <;> rfl
  by_cases c0 : 0 ≤ p0 ∧ p0 < nI (tN (σ 94))
  · by_cases c1 : 0 ≤ p1 ∧ p1 ≤ 6
    · obtain ⟨t, ht, rfl⟩ := nI_get (by omega) c0.1 c0.2
      obtain ⟨p, hp, rfl⟩ := nI_getL (n := 6) (by decide) c1.1 c1.2
      have hrow := h.1.2.2.1.2.2.2.2 t ht
      obtain ⟨k, k1, k2, k3⟩ := (h.1.1.2.2.2.2.2.2 t ht).1
      obtain ⟨b, b1, b2⟩ := under_eq h (k := k) (p := p) (by omega) (by omega)
      have e0 := ixT t 0
      have e1 := ixT t 1
      rw [show nI 0 = 0 from rfl] at e0
      rw [show nI 1 = 1 from rfl] at e1
      by_cases c2 : b = 0
      · refine good_err h (k := 5) (by decide) ?_ (fun σ1 e => ?_)
        · unfold f_X11_as
          rw [thas_n t1, hkind]
          simp only [Option.bind_some]
          rw [bI_1 c0, bI_1 c1, pick_at (by omega) (by omega)]
          simp only [Option.bind_some]
          rw [hrow.1, k3, b1]
          simp only [Option.bind_some]
          rw [if_pos c2]
          rfl
        · unfold f_X12_as f_X12_itsKind
          rw [isThing_n (by rw [e 94 (by decide)]; exact t2) (by omega), isIn_eq]
          simp only [Option.bind_some]
          rw [bI_1 c0, bI_1 c1, e0, gdI (by omega) (by omega), clI (by omega), e 94 (by decide)]
          simp only [Option.bind_some, Nat.add_zero]
          rw [k3, b2]
          simp only [Option.bind_some]
          rw [if_pos c2]
          rfl
      · refine ⟨σ 39 t, σ, σ, ?_, ?_, h⟩
        · unfold f_X11_as
          rw [thas_n t1, hkind]
          simp only [Option.bind_some]
          rw [bI_1 c0, bI_1 c1, pick_at (by omega) (by omega)]
          simp only [Option.bind_some]
          rw [hrow.1, k3, b1]
          simp only [Option.bind_some]
          rw [if_neg c2, pick_at (by omega) (by omega)]
          rfl
        · unfold f_X12_as f_X12_itsKind
          rw [isThing_n t2 (by omega), isIn_eq]
          simp only [Option.bind_some]
          rw [bI_1 c0, bI_1 c1, e0, gdI (by omega) (by omega), clI (by omega)]
          simp only [Option.bind_some, Nat.add_zero]
          rw [k3, b2]
          simp only [Option.bind_some]
          rw [if_neg c2, e1, gdI (by omega) (by omega), clI (by omega), hrow.2.1]
    · refine good_err h (k := 1) (by decide) ?_ (fun σ1 e => ?_)
      · unfold f_X11_as
        rw [thas_n t1, hkind]
        simp only [Option.bind_some]
        rw [bI_1 c0, bI_0 c1]
        rfl
      · unfold f_X12_as
        rw [isThing_n (by rw [e 94 (by decide)]; exact t2) (by omega), isIn_eq]
        simp only [Option.bind_some]
        rw [bI_1 c0, bI_0 c1]
        rfl
  · refine good_err h (k := 1) (by decide) ?_ (fun σ1 e => ?_)
    · unfold f_X11_as
      rw [thas_n t1]
      simp only [Option.bind_some]
      rw [bI_0 c0]
      rfl
    · unfold f_X12_as
      rw [isThing_n (by rw [e 94 (by decide)]; exact t2) (by omega)]
      simp only [Option.bind_some]
      rw [bI_0 c0]
      rfl
theorem outs_eq {σ : Sg} {a n : Nat} (h1 : σ a 6 = nI n) (h2 : σ 94 2 = nI n) (hn : n ≤ 10) (hr : ∀ t, t < n → σ (a + 3) t = σ 94 (46 + 6 * t + 2)) : ∀ j i m x, n - i = j → i ≤ n → j < m → ∃ r, c_X7_howManyOut_4 a σ m x (nI i) = some r ∧ c_X12_manyOut_4 σ m x (nI i) = some r := by
  intro j
  induction j with
  | zero =>
    intro i m x hj hi hm
    obtain ⟨m, rfl⟩ : ∃ k, m = k + 1 := ⟨m - 1, by omega⟩
    refine ⟨x, ?_, ?_⟩
    · unfold c_X7_howManyOut_4
      rw [h1, if_pos (nI_le (by omega) (by omega))]
    · unfold c_X12_manyOut_4
      rw [h2, if_pos (nI_le (by omega) (by omega))]
  | succ j ih =>
    intro i m x hj hi hm
    obtain ⟨m, rfl⟩ : ∃ k, m = k + 1 := ⟨m - 1, by omega⟩
    unfold c_X7_howManyOut_4 c_X12_manyOut_4
    rw [h1, h2, if_neg (nI_ge (by omega) (by omega)), if_neg (nI_ge (by omega) (by omega)), pick_at (by omega) (by omega), isNow_at (by omega), hr i (by omega)]
    simp only [Option.bind_some]
    unfold c_X7_howManyOut_27 c_X12_manyOut_29
    rw [nIp1]
    by_cases z : σ 94 (46 + 6 * i + 2) = 2
    · rw [if_pos z, if_pos z]
      exact ih (i + 1) m (x + 1) (by omega) (by omega) (by omega)
    · rw [if_neg z, if_neg z, Int32.add_zero]
      exact ih (i + 1) m x (by omega) (by omega) (by omega)
theorem eq_count {xs : Nat → Int32} {σ : Sg} (h : Inv xs σ) (p : Int32) : Good xs (f_X11_count p σ) (f_X12_count p) := by
  obtain ⟨w1, w2, w3, t1, t2, t3⟩ := h.base
  obtain ⟨h1, h2, h3, h4⟩ := h.1
  obtain ⟨⟨f1, f2, f3⟩, ⟨p1, p2, p3⟩, ⟨a1, a2, a3⟩⟩ := h.dk
  by_cases c : p = 0 ∨ p = 1 ∨ p = 2 ∨ p = 3 ∨ p = 4 ∨ p = 5 ∨ p = 6 ∨ p = 7 ∨ p = 8
  · rcases c with rfl | rfl | rfl | rfl | rfl | rfl | rfl | rfl | rfl
    · exact ⟨σ 31 4, σ, σ, rfl, by rw [h3.1]; rfl, h⟩
    · exact ⟨σ 32 4, σ, σ, rfl, by rw [w1, ← w2]; rfl, h⟩
    · exact ⟨σ 37 6, σ, σ, rfl, by rw [t1, ← t2]; rfl, h⟩
    · obtain ⟨r, r1, r2⟩ := outs_eq (σ := σ) (a := 37) t1 t2 t3 (fun t ht => (h3.2.2.2.2 t ht).2.2.1) _ 0 1000 0 rfl (by omega) (by omega)
      refine ⟨r, σ, σ, ?_, ?_, h⟩
      · have : f_X11_count 3 σ = (f_X7_howManyOut 37 σ).bind fun q1 => some (q1, σ) := rfl
        rw [this]
        unfold f_X7_howManyOut
        rw [show nI 0 = (0 : Int32) from rfl] at r1
        rw [r1]
        rfl
      · have : f_X12_count 3 σ = (f_X12_manyOut σ).bind fun q1 => some (q1, σ) := rfl
        rw [this]
        unfold f_X12_manyOut
        rw [show nI 0 = (0 : Int32) from rfl] at r2
        rw [r2]
        rfl
    · exact ⟨σ 2 3, σ, σ, rfl, by rw [f1, ← f2]; rfl, h⟩
    · exact ⟨σ 12 1, σ, σ, rfl, by rw [p1, ← p2]; rfl, h⟩
    · exact ⟨σ 14 1, σ, σ, rfl, by rw [a1, ← a2]; rfl, h⟩
    · exact ⟨σ 81 1, σ, σ, rfl, by rw [h.2.2.2.2.1.2.1]; rfl, h⟩
    · exact ⟨σ 1 5, σ, σ, rfl, by rw [h4.1]; rfl, h⟩
  · simp only [not_or] at c
    obtain ⟨d0, d1, d2, d3, d4, d5, d6, d7, d8⟩ := c
    refine good_err h (k := 1) (by decide) ?_ (fun σ1 e => ?_)
    · unfold f_X11_count
      rw [if_neg d0, if_neg d1, if_neg d2, if_neg d3, if_neg d4, if_neg d5, if_neg d6, if_neg d7, if_neg d8]
      rfl
    · unfold f_X12_count
      rw [if_neg d0, if_neg d1, if_neg d2, if_neg d3, if_neg d4, if_neg d5, if_neg d6, if_neg d7, if_neg d8]
      rfl
