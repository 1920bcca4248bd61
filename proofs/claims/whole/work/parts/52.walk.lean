/-- a row's goings -/
def gT (D : Nat → Int32) (w : Nat) : Int32 := D (10 + 4 * w)
def gD (D : Nat → Int32) (w : Nat) : Nat := (D (10 + 4 * w + 1)).toNatClampNeg
/-- goings among n wells -/
def GM (n : Nat) (T : Nat → Int32) (dd : Nat → Nat) : Prop := ∀ w, w < n → (T w = -1 ∨ ∃ j, j < n ∧ T w = nI j) ∧ 1 ≤ dd w ∧ dd w ≤ 30
theorem GM_of {D : Nat → Int32} {m : Nat} (h : WOK D m) : GM (wN D) (gT D) (gD D) := by
  intro w hw
  obtain ⟨a, ⟨k, k1, k2, k3⟩, -, -⟩ := h.2.2.2.2.2.1 w hw
  have e : gD D w = k := by unfold gD; rw [k3, clI (by omega)]
  exact ⟨a, by omega, by omega⟩
theorem gD_n {D : Nat → Int32} {m w : Nat} (h : WOK D m) (hw : w < wN D) : D (10 + 4 * w + 1) = nI (gD D w) := by
  obtain ⟨a, ⟨k, k1, k2, k3⟩, -, -⟩ := h.2.2.2.2.2.1 w hw
  unfold gD
  rw [k3, clI (by omega)]
/-- where a walk is on a day -/
def wk (T : Nat → Int32) (dd : Nat → Nat) (day : Nat) : Nat → Int32 → Nat → Int32
  | 0, _, _ => -1
  | m + 1, p, now => if day ≤ now then (if now = day then p else -1) else if p < 0 then -1 else wk T dd day m (T p.toNatClampNeg) (now + dd p.toNatClampNeg)
theorem n1lt : (-1 : Int32) < 0 := by decide
theorem nI_lt_iff {a b : Nat} (ha : a < 2 ^ 31) (hb : b < 2 ^ 31) : nI a < nI b ↔ a < b := by
  rw [ilt, nI_toInt ha, nI_toInt hb]; omega
theorem nI_le_iff {a b : Nat} (ha : a < 2 ^ 31) (hb : b < 2 ^ 31) : nI a ≤ nI b ↔ a ≤ b := by
  rw [ile, nI_toInt ha, nI_toInt hb]; omega
theorem nI_eq_iff {a b : Nat} (ha : a < 2 ^ 31) (hb : b < 2 ^ 31) : nI a = nI b ↔ a = b := by
  rw [ieq, nI_toInt ha, nI_toInt hb]; omega
theorem nIa (a b : Nat) : nI a + nI b = nI (a + b) := nI_add a b
theorem xwalk_go {σ : Sg} {a n day : Nat} {T : Nat → Int32} {dd : Nat → Nat} (hg : GM n T dd) (hn : n ≤ 9) (hc : σ a 4 = nI n) (hr : ∀ w, w < n → σ (a + 1) w = T w ∧ σ (a + 2) w = nI (dd w)) (hd : day ≤ 1000) : ∀ j p now st m m', day - now ≤ j → j < m → j < m' → st ≤ now → now ≤ 2000 → (p = -1 ∨ ∃ k, k < n ∧ p = nI k) → c_X9_placeOn_8 a σ m (nI day) p (nI now) (nI st) = some (wk T dd day m' p now) := by
  intro j
  induction j with
  | zero =>
    intro p now st m m' hj hm hm' hs hnow hp
    obtain ⟨m, rfl⟩ : ∃ k, m = k + 1 := ⟨m - 1, by omega⟩
    obtain ⟨m', rfl⟩ : ∃ k, m' = k + 1 := ⟨m' - 1, by omega⟩
    unfold c_X9_placeOn_8 wk c_X9_placeOn_52
    rw [if_pos (show day ≤ now by omega)]
    simp (disch := omega) only [nI_le_iff, nI_eq_iff]
    rw [if_pos (show day ≤ now by omega)]
    have : (if now = day then some p else some (-1)) = some (if now = day then p else -1) := by split <;> rfl
    rw [this]
    simp only [ite_self]
  | succ j ih =>
    intro p now st m m' hj hm hm' hs hnow hp
    obtain ⟨m, rfl⟩ : ∃ k, m = k + 1 := ⟨m - 1, by omega⟩
    obtain ⟨m', rfl⟩ : ∃ k, m' = k + 1 := ⟨m' - 1, by omega⟩
    unfold c_X9_placeOn_8 wk c_X9_placeOn_52
    simp (disch := omega) only [nI_le_iff, nI_eq_iff]
    by_cases z : day ≤ now
    · rw [if_pos z, if_pos z]
      have : (if now = day then some p else some (-1)) = some (if now = day then p else -1) := by split <;> rfl
      rw [this]
      simp only [ite_self]
    · rw [if_neg z, if_neg z, if_neg (show ¬ day ≤ st by omega), has_n hc]
      simp only [Option.bind_some]
      rcases hp with rfl | ⟨k, hk, rfl⟩
      · rw [bI_0 (fun z => absurd z.1 (by decide)), if_pos n1lt]
      · obtain ⟨g1, g2, g3⟩ := hg k hk
        obtain ⟨r1, r2⟩ := hr k hk
        rw [bI_1 ⟨nI_pos' (by omega), nI_lt hk (by omega)⟩, if_neg (nI_pos (by omega)), daysOf_at (by omega), leadsTo_at hc hk hn]
        simp only [Option.bind_some]
        rw [r1, r2, nIa, nIp1, clI (by omega)]
        exact ih (T k) (now + dd k) (st + 1) m m' (by omega) (by omega) (by omega) (by omega) (by omega) g1
theorem mwalk_go {σ : Sg} {n day : Nat} {T : Nat → Int32} {dd : Nat → Nat} {p2 p3 p4 : Int32} (hg : GM n T dd) (hn : n ≤ 9) (h2 : p2 ≠ -1) (hr : ∀ w, w < n → (nI w = p2 → T w = p3 ∧ nI (dd w) = p4) ∧ (nI w ≠ p2 → T w = σ 94 (10 + 4 * w) ∧ nI (dd w) = σ 94 (10 + 4 * w + 1))) (hd : day ≤ 1000) : ∀ j p now m m', day - now ≤ j → j < m → j < m' → now ≤ 2000 → (p = -1 ∨ ∃ k, k < n ∧ p = nI k) → c_X12_walk_6 σ m (nI day) p2 p3 p4 p (nI now) = some (wk T dd day m' p now) := by
  intro j
  induction j with
  | zero =>
    intro p now m m' hj hm hm' hnow hp
    obtain ⟨m, rfl⟩ : ∃ k, m = k + 1 := ⟨m - 1, by omega⟩
    obtain ⟨m', rfl⟩ : ∃ k, m' = k + 1 := ⟨m' - 1, by omega⟩
    unfold c_X12_walk_6 wk c_X12_walk_63
    rw [if_pos (show day ≤ now by omega)]
    simp (disch := omega) only [nI_le_iff, nI_eq_iff]
    rw [if_pos (show day ≤ now by omega)]
    have : (if now = day then some p else some (-1)) = some (if now = day then p else -1) := by split <;> rfl
    rw [this]
    simp only [ite_self]
  | succ j ih =>
    intro p now m m' hj hm hm' hnow hp
    obtain ⟨m, rfl⟩ : ∃ k, m = k + 1 := ⟨m - 1, by omega⟩
    obtain ⟨m', rfl⟩ : ∃ k, m' = k + 1 := ⟨m' - 1, by omega⟩
    unfold c_X12_walk_6 wk c_X12_walk_63
    simp (disch := omega) only [nI_le_iff, nI_eq_iff]
    by_cases z : day ≤ now
    · rw [if_pos z, if_pos z]
      have : (if now = day then some p else some (-1)) = some (if now = day then p else -1) := by split <;> rfl
      rw [this]
      simp only [ite_self]
    · rw [if_neg z, if_neg z]
      rcases hp with rfl | ⟨k, hk, rfl⟩
      · rw [if_pos n1lt, if_pos n1lt, if_neg (show ¬ now = day by omega)]
      · obtain ⟨g1, g2, g3⟩ := hg k hk
        obtain ⟨r1, r2⟩ := hr k hk
        have a0 := itsWell_at (w := k) (c := 0) (σ := σ) (by omega) (by omega)
        have a1 := itsWell_at (w := k) (c := 1) (σ := σ) (by omega) (by omega)
        rw [show nI 0 = 0 from rfl] at a0
        rw [show nI 1 = 1 from rfl] at a1
        rw [if_neg (nI_pos (by omega)), if_neg (nI_pos (by omega)), clI (by omega)]
        unfold c_X12_walk_37 c_X12_walk_58
        by_cases y : nI k = p2
        · obtain ⟨u1, u2⟩ := r1 y
          have g := ih (T k) (now + dd k) m m' (by omega) (by omega) (by omega) (by omega) g1
          rw [if_pos y, if_pos y]
          rw [← nIa, u1, u2] at g
          rw [g, u1]
        · obtain ⟨u1, u2⟩ := r2 y
          rw [if_neg y, a0, a1]
          simp only [Option.bind_some, Nat.add_zero]
          rw [if_neg y]
          rw [← u1, ← u2, nIa]
          exact ih (T k) (now + dd k) m m' (by omega) (by omega) (by omega) (by omega) g1
/-- the plain walk of the reference -/
theorem walk_eq {σ : Sg} {m day k : Nat} (h : WOK (σ 94) m) (hd : day ≤ 900) (hk : k < wN (σ 94)) : f_X12_walk (nI k) (nI day) (-2) (-1) 1 σ = some (wk (gT (σ 94)) (gD (σ 94)) day 1000 (nI k) 0) := by
  unfold f_X12_walk
  refine mwalk_go (n := wN (σ 94)) (GM_of h) h.2.2.1 (by decide) (fun w hw => ⟨fun z => ?_, fun _ => ⟨rfl, (gD_n h hw).symm⟩⟩) (by omega) day (nI k) 0 1000 1000 (by omega) (by omega) (by omega) (by omega) (Or.inr ⟨k, hk, rfl⟩)
  exfalso
  have b := h.2.2.1
  rw [ieq, nI_toInt (by omega)] at z
  have : (-2 : Int32).toInt = -2 := rfl
  omega
theorem placeOn_eq {σ : Sg} {a m day k : Nat} {D : Nat → Int32} (h : WOK D m) (hR : RW σ a D) (hd : day ≤ 900) (hk : k < wN D) : f_X9_placeOn (a + 1) (nI k) (nI day) σ = some (wk (gT D) (gD D) day 1000 (nI k) 0) := by
  unfold f_X9_placeOn
  refine xwalk_go (n := wN D) (GM_of h) h.2.2.1 (hR.2.1.trans h.2.1) (fun w hw => ⟨(hR.2.2.2.1 w hw).1, ?_⟩) (by omega) day (nI k) 0 0 1000 1000 (by omega) (by omega) (by omega) (by omega) (by omega) (Or.inr ⟨k, hk, rfl⟩)
  rw [← gD_n h hw]
  exact (hR.2.2.2.1 w hw).2.1
theorem eq_agrees {xs : Nat → Int32} {σ : Sg} (h : Inv xs σ) (p : Int32) : Good xs (f_X11_agrees p σ) (f_X12_agrees p) := by
  obtain ⟨h1, h2, h3, h4⟩ := h.1
  obtain ⟨⟨f1, f2, f3⟩, -, -⟩ := h.dk
  by_cases c : 0 ≤ p ∧ p < nI (fN (σ 94))
  · obtain ⟨f, hf, rfl⟩ := nI_get (by omega) c.1 c.2
    obtain ⟨r1, r2, r3⟩ := h4.2.2.1 f hf
    obtain ⟨⟨k, k1, k2⟩, ⟨q, q1, q2⟩, ⟨d, d1, d2, d3⟩⟩ := h2.2.2.1 f hf
    have x1 := placeOn_eq (σ := σ) (a := 31) (day := d) h1 h3 (by omega) k1
    have y1 := walk_eq (σ := σ) (day := d) h1 (by omega) k1
    generalize hv : wk (gT (σ 94)) (gD (σ 94)) d 1000 (nI k) 0 = v at x1 y1
    have hX : f_X2_isSo 2 32 (nI f) σ = (if v = σ 94 (106 + 3 * f + 1) then some 1 else some 0) := by
      unfold f_X2_isSo
      rw [pick_at (by omega) (by omega), pick_at (by omega) (by omega), pick_at (by omega) (by omega)]
      simp only [Option.bind_some]
      rw [r1, r2, r3, k2, d3, x1]
      rfl
    have hM : f_X12_isSo (nI f) (-2) (-1) 1 σ = (if v = σ 94 (106 + 3 * f + 1) then some 1 else some 0) := by
      have i0 := ixF0 f
      have i1 := ixF f 1
      have i2 := ixF f 2
      rw [show nI 1 = 1 from rfl] at i1
      rw [show nI 2 = 2 from rfl] at i2
      unfold f_X12_isSo
      rw [i1, i2, i0]
      simp (disch := omega) only [gdI]
      simp (disch := omega) only [clI]
      rw [k2, d3, y1]
      rfl
    have hX0 : f_X11_agrees (nI f) σ = (f_X2_isSo 2 32 (nI f) σ).bind fun q4 => (if q4 = 0 then (some ((0 : Int32), σ)) else (some ((1 : Int32), σ))) := by
      unfold f_X11_agrees
      rw [if_neg (nI_pos (by omega)), f1, if_pos c.2]
    have hM0 : f_X12_agrees (nI f) σ = (f_X12_isSo (nI f) (-2) (-1) 1 σ).bind fun q4 => (if q4 = 0 then (some ((0 : Int32), σ)) else (some ((1 : Int32), σ))) := by
      unfold f_X12_agrees
      rw [f2, isIn_eq]
      simp only [Option.bind_some, ltp _ (show fN (σ 94) ≤ 1000 by omega)]
      rw [bI_1 c]
    by_cases z : v = σ 94 (106 + 3 * f + 1)
    · refine ⟨1, σ, σ, ?_, ?_, h⟩
      · rw [hX0, hX, if_pos z]; rfl
      · rw [hM0, hM, if_pos z]; rfl
    · refine ⟨0, σ, σ, ?_, ?_, h⟩
      · rw [hX0, hX, if_neg z]; rfl
      · rw [hM0, hM, if_neg z]; rfl
  · refine good_err h (k := 1) (by decide) ?_ (fun σ1 e => ?_)
    · unfold f_X11_agrees
      by_cases z : p < 0
      · rw [if_pos z]
        rfl
      · rw [if_neg z, f1, if_neg (fun y => c ⟨by rw [ile]; rw [ilt] at z; omega, y⟩)]
        rfl
    · unfold f_X12_agrees
      rw [e 94 (by decide), f2, isIn_eq]
      simp only [Option.bind_some, ltp _ (show fN (σ 94) ≤ 1000 by omega)]
      rw [bI_0 c]
      rfl
theorem longest_go {σ : Sg} {a n : Nat} (hn : n ≤ 9) (hc : σ a 4 = nI n) (h2 : σ 94 1 = nI n) (hr : ∀ w, w < n → σ (a + 1) w = σ 94 (10 + 4 * w) ∧ σ (a + 2) w = σ 94 (10 + 4 * w + 1)) : ∀ j i m b, n - i = j → i ≤ n → j < m → (b = -1 ∨ ∃ k, k < n ∧ b = nI k) → ∃ r, (r = -1 ∨ ∃ k, k < n ∧ r = nI k) ∧ c_X9_longestGoing_4 a σ m b (nI i) = some r ∧ ∀ τ : Sg, τ 94 = σ 94 → c_X12_tenth_4 m b (nI i) τ = c_X12_tenth_54 r τ := by
  intro j
  induction j with
  | zero =>
    intro i m b hj hi hm hb
    obtain ⟨m, rfl⟩ : ∃ k, m = k + 1 := ⟨m - 1, by omega⟩
    refine ⟨b, hb, ?_, fun τ e => ?_⟩
    · unfold c_X9_longestGoing_4
      rw [hc, if_pos (nI_le (by omega) (by omega))]
    · unfold c_X12_tenth_4
      rw [e, h2, if_pos (nI_le (by omega) (by omega))]
  | succ j ih =>
    intro i m b hj hi hm hb
    obtain ⟨m, rfl⟩ : ∃ k, m = k + 1 := ⟨m - 1, by omega⟩
    obtain ⟨r1, r2⟩ := hr i (by omega)
    have hM : ∀ τ : Sg, τ 94 = σ 94 → ∀ k, k < n → f_X12_itsWell (nI k) 0 τ = some (σ 94 (10 + 4 * k)) ∧ f_X12_itsWell (nI k) 1 τ = some (σ 94 (10 + 4 * k + 1)) := fun τ e k hk => by
      have a0 := itsWell_at (w := k) (c := 0) (σ := τ) (by omega) (by omega)
      have a1 := itsWell_at (w := k) (c := 1) (σ := τ) (by omega) (by omega)
      rw [e] at a0 a1
      exact ⟨a0, a1⟩
    obtain ⟨s, s0, s1, s2⟩ := ih (i + 1) m b (by omega) (by omega) (by omega) hb
    obtain ⟨t, t0, t1, t2⟩ := ih (i + 1) m (nI i) (by omega) (by omega) (by omega) (Or.inr ⟨i, by omega, rfl⟩)
    by_cases z : σ 94 (10 + 4 * i) < 0
    · refine ⟨s, s0, ?_, fun τ e => ?_⟩
      · unfold c_X9_longestGoing_4
        rw [hc, if_neg (nI_ge (by omega) (by omega)), leadsTo_at hc (by omega) hn, r1]
        simp only [Option.bind_some]
        rw [if_pos z]
        unfold c_X9_longestGoing_39
        rw [nIp1]
        exact s1
      · unfold c_X12_tenth_4
        rw [e, h2, if_neg (nI_ge (by omega) (by omega)), (hM τ e i (by omega)).1]
        simp only [Option.bind_some]
        rw [if_pos z]
        unfold c_X12_tenth_46 c_X12_tenth_47
        rw [nIp1]
        exact s2 τ e
    · by_cases y : b < 0
      · refine ⟨t, t0, ?_, fun τ e => ?_⟩
        · unfold c_X9_longestGoing_4
          rw [hc, if_neg (nI_ge (by omega) (by omega)), leadsTo_at hc (by omega) hn, r1]
          simp only [Option.bind_some]
          rw [if_neg z, if_pos y]
          unfold c_X9_longestGoing_37 c_X9_longestGoing_39
          rw [nIp1]
          exact t1
        · unfold c_X12_tenth_4
          rw [e, h2, if_neg (nI_ge (by omega) (by omega)), (hM τ e i (by omega)).1]
          simp only [Option.bind_some]
          rw [if_neg z, if_pos y]
          unfold c_X12_tenth_42 c_X12_tenth_47
          rw [nIp1]
          exact t2 τ e
      · obtain ⟨k, hk, rfl⟩ := hb.resolve_left (fun x => y (by rw [x]; exact n1lt))
        obtain ⟨q1, q2⟩ := hr k hk
        by_cases x : σ 94 (10 + 4 * i + 1) ≤ σ 94 (10 + 4 * k + 1)
        · refine ⟨s, s0, ?_, fun τ e => ?_⟩
          · unfold c_X9_longestGoing_4
            rw [hc, if_neg (nI_ge (by omega) (by omega)), leadsTo_at hc (by omega) hn, r1]
            simp only [Option.bind_some]
            rw [if_neg z, if_neg y, daysOf_at (by omega), daysOf_at (by omega)]
            simp only [Option.bind_some]
            rw [r2, q2, if_pos x]
            unfold c_X9_longestGoing_39
            rw [nIp1]
            exact s1
          · unfold c_X12_tenth_4
            rw [e, h2, if_neg (nI_ge (by omega) (by omega)), (hM τ e i (by omega)).1, (hM τ e i (by omega)).2, (hM τ e k hk).2]
            simp only [Option.bind_some]
            rw [if_neg z, if_neg y, if_pos x]
            unfold c_X12_tenth_46 c_X12_tenth_47
            rw [nIp1]
            exact s2 τ e
        · refine ⟨t, t0, ?_, fun τ e => ?_⟩
          · unfold c_X9_longestGoing_4
            rw [hc, if_neg (nI_ge (by omega) (by omega)), leadsTo_at hc (by omega) hn, r1]
            simp only [Option.bind_some]
            rw [if_neg z, if_neg y, daysOf_at (by omega), daysOf_at (by omega)]
            simp only [Option.bind_some]
            rw [r2, q2, if_neg x]
            unfold c_X9_longestGoing_37 c_X9_longestGoing_39
            rw [nIp1]
            exact t1
          · unfold c_X12_tenth_4
            rw [e, h2, if_neg (nI_ge (by omega) (by omega)), (hM τ e i (by omega)).1, (hM τ e i (by omega)).2, (hM τ e k hk).2]
            simp only [Option.bind_some]
            rw [if_neg z, if_neg y, if_neg x]
            unfold c_X12_tenth_42 c_X12_tenth_47
            rw [nIp1]
            exact t2 τ e
theorem eq_tenth {xs : Nat → Int32} {σ : Sg} (h : Inv xs σ) : Good xs (f_X11_tenth σ) f_X12_tenth := by
  obtain ⟨w1, w2, w3, t1, t2, t3⟩ := h.base
  obtain ⟨r, r0, r1, r2⟩ := longest_go (σ := σ) (a := 32) w3 w1 w2 (fun w hw => ⟨(h.1.2.2.1.2.2.2.1 w hw).1, (h.1.2.2.1.2.2.2.1 w hw).2.1⟩) (wN (σ 94)) 0 1000 (-1) (by omega) (by omega) (by omega) (Or.inl rfl)
  rw [show nI 0 = (0 : Int32) from rfl] at r1 r2
  have hX : f_X11_tenth σ = (if 0 ≤ r then (some (r, σ)) else ((f_X11_error (2 : Int32) σ).bind fun q3 => (some (q3.1, q3.2)))) := by
    unfold f_X11_tenth f_X9_longestGoing
    rw [r1]
    rfl
  by_cases c : 0 ≤ r
  · refine ⟨r, σ, σ, ?_, ?_, h⟩
    · rw [hX, if_pos c]
    · unfold f_X12_tenth
      rw [r2 σ rfl]
      unfold c_X12_tenth_54
      rw [if_pos c]
  · refine good_err h (k := 2) (by decide) ?_ (fun σ1 e => ?_)
    · rw [hX, if_neg c]; rfl
    · unfold f_X12_tenth
      rw [r2 σ1 (e 94 (by decide))]
      unfold c_X12_tenth_54
      rw [if_neg c]
      rfl
