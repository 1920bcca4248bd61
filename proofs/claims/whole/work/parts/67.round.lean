theorem one_day3 {τ : Sg} {D0 D : Nat → Int32} {G : Nat → Int32 → Int32 → Int32 → Int32 → Int32} {m : Nat} (hG : ∀ A B C F, Sm (G 0 A B C F) 0 30) (gx : GX τ G) (gd : GD D0 G) (hW : WOK D m) (hm : m < 100000) : ∃ D', WOK D' (m + 1) ∧ (∀ q, (1 ≤ q ∧ q < 46) ∨ 106 ≤ q → D' q = D q) ∧ (∀ u, D (46 + 6 * u + 2) = 2 → D' (46 + 6 * u + 2) = 2) ∧ (∀ (a : Nat) (σ : Sg), 11 < a → RW σ a D → TXs σ τ → ∃ σ', f_X10_goBy a 6 9 1 σ = some σ' ∧ RW σ' a D' ∧ XF a σ' σ) ∧ (∀ (r : Nat) (σ : Sg), (r = 94 ∨ r = 95) → Row σ r D → TDs σ D0 → ∃ σ', f_X12_goesBy r σ = some σ' ∧ Row σ' r D' ∧ MF r σ' σ) := by
  obtain ⟨D', e1, e2, e3, e4, ex, em⟩ := day_eq2 hG gx gd hW hm
  refine ⟨D', e1, e3, e4, fun a σ ha hR hT => ?_, em⟩
  obtain ⟨σ', f1, f2, f3⟩ := ex a σ 999 1 0 ha hR hT (by decide)
  refine ⟨σ', ?_, f2, f3⟩
  unfold f_X10_goBy
  refine Eq.trans f1 ?_
  rw [c_X10_goBy_2, if_pos (by decide)]
theorem xlone_go {a n : Nat} {x1 x2 : Int32} (hn : n ≤ 10) : ∀ j i m σ, n - i = j → i ≤ n → j < m → σ (a + 6) 6 = nI n → ∃ σ', c_X10_leaveAlone_2 a 6 9 m x1 x2 (nI i) σ = c_X10_leaveAlone_30 a 6 9 x1 x2 σ' ∧ (∀ k, i ≤ k → k < n → σ' (a + 9) k = 2 ∧ σ' (a + 10) k = -1 ∧ σ' (a + 11) k = 0) ∧ (∀ r k, (r < a + 9 ∨ a + 11 < r ∨ k < i ∨ n ≤ k) → σ' r k = σ r k) := by
  intro j
  induction j with
  | zero =>
    intro i m σ hj hi hm h6
    obtain ⟨m, rfl⟩ : ∃ k, m = k + 1 := ⟨m - 1, by omega⟩
    refine ⟨σ, ?_, fun k _ _ => by omega, fun _ _ _ => rfl⟩
    rw [c_X10_leaveAlone_2, h6, if_pos (nI_le (by omega) (by omega))]
  | succ j ih =>
    intro i m σ hj hi hm h6
    obtain ⟨m, rfl⟩ : ∃ k, m = k + 1 := ⟨m - 1, by omega⟩
    obtain ⟨σ', e1, e2, e3⟩ := ih (i + 1) m (mup (mup (mup σ (a + 6 + 3) i 2) (a + 6 + 4) i (-1)) (a + 6 + 5) i 0) (by omega) (by omega) (by omega) (by rw [mup_o (by omega), mup_o (by omega), mup_o (by omega)]; exact h6)
    refine ⟨σ', ?_, fun k k1 k2 => ?_, fun r k h => ?_⟩
    · rw [c_X10_leaveAlone_2, h6, if_neg (nI_ge (by omega) (by omega)), place_at (by omega), Option.bind_some, nIp1]
      exact e1
    · by_cases z : k = i
      · rw [e3 _ k (by omega), e3 _ k (by omega), e3 _ k (by omega)]
        simp (disch := omega) only [mup_o, mup_t]
        exact ⟨trivial, trivial, trivial⟩
      · exact e2 k (by omega) k2
    · rw [e3 r k (by omega)]
      simp (disch := omega) only [mup_o]
theorem xfish_go {a n : Nat} (hn : n ≤ 9) : ∀ j i m σ, n - i = j → i ≤ n → j < m → σ (a + 1) 4 = nI n → ∃ σ', c_X10_leaveAlone_43 a 6 9 m (nI i) σ = some σ' ∧ (∀ k, i ≤ k → k < n → σ' (a + 5) k = 0) ∧ (∀ r k, (r ≠ a + 5 ∨ k < i ∨ n ≤ k) → σ' r k = σ r k) := by
  intro j
  induction j with
  | zero =>
    intro i m σ hj hi hm h6
    obtain ⟨m, rfl⟩ : ∃ k, m = k + 1 := ⟨m - 1, by omega⟩
    refine ⟨σ, ?_, fun k _ _ => by omega, fun _ _ _ => rfl⟩
    rw [c_X10_leaveAlone_43, h6, if_pos (nI_le (by omega) (by omega))]
  | succ j ih =>
    intro i m σ hj hi hm h6
    obtain ⟨m, rfl⟩ : ∃ k, m = k + 1 := ⟨m - 1, by omega⟩
    obtain ⟨σ', e1, e2, e3⟩ := ih (i + 1) m (mup σ (a + 1 + 4) i 0) (by omega) (by omega) (by omega) (by rw [mup_o (by omega)]; exact h6)
    refine ⟨σ', ?_, fun k k1 k2 => ?_, fun r k h => ?_⟩
    · rw [c_X10_leaveAlone_43, h6, if_neg (nI_ge (by omega) (by omega)), lay_at (by omega) (by omega), Option.bind_some, nIp1]
      exact e1
    · by_cases z : k = i
      · rw [e3 _ k (by omega), mup_t (by omega)]
      · exact e2 k (by omega) k2
    · rw [e3 r k (by omega)]
      simp (disch := omega) only [mup_o]
theorem mlone_go {n t : Nat} {x2 : Int32} (hn : n ≤ 10) (ht : t < n) : ∀ j i m σ, n - i = j → i ≤ n → j < m → σ 95 2 = nI n → ∃ σ', c_X12_round_35 m (nI t) x2 (nI i) σ = c_X12_round_80 (nI t) x2 σ' ∧ (∀ k, i ≤ k → k < n → σ' 95 (46 + 6 * k + 2) = (if k = t then 0 else 2) ∧ σ' 95 (46 + 6 * k + 3) = (if k = t then x2 else -1) ∧ σ' 95 (46 + 6 * k + 4) = 0) ∧ (∀ r q, (r ≠ 95 ∨ q < 46 + 6 * i ∨ 46 + 6 * n ≤ q ∨ ((q - 46) % 6 ≠ 2 ∧ (q - 46) % 6 ≠ 3 ∧ (q - 46) % 6 ≠ 4)) → σ' r q = σ r q) := by
  intro j
  induction j with
  | zero =>
    intro i m σ hj hi hm h6
    obtain ⟨m, rfl⟩ : ∃ k, m = k + 1 := ⟨m - 1, by omega⟩
    refine ⟨σ, ?_, fun k _ _ => by omega, fun _ _ _ => rfl⟩
    rw [c_X12_round_35, h6, if_pos (nI_le (by omega) (by omega))]
  | succ j ih =>
    intro i m σ hj hi hm h6
    obtain ⟨m, rfl⟩ : ∃ k, m = k + 1 := ⟨m - 1, by omega⟩
    obtain ⟨σ', e1, e2, e3⟩ := ih (i + 1) m (mup (mup (mup σ 95 (46 + 6 * i + 2) (if i = t then 0 else 2)) 95 (46 + 6 * i + 3) (if i = t then x2 else -1)) 95 (46 + 6 * i + 4) 0) (by omega) (by omega) (by omega) (by rw [mup_o (by omega), mup_o (by omega), mup_o (by omega)]; exact h6)
    refine ⟨σ', ?_, fun k k1 k2 => ?_, fun r k h => ?_⟩
    · rw [c_X12_round_35, h6, if_neg (nI_ge (by omega) (by omega))]
      by_cases z : i = t
      · rw [if_pos z, if_pos z] at e1
        have z2 : nI i = nI t := by rw [z]
        rw [if_pos z2]
        unfold c_X12_round_60 c_X12_round_70
        rw [if_pos z2, puts_at (by omega), Option.bind_some, nIp1]
        exact e1
      · rw [if_neg z, if_neg z] at e1
        have z2 : ¬ nI i = nI t := by rw [nI_eq_iff (by omega) (by omega)]; exact z
        rw [if_neg z2]
        unfold c_X12_round_60 c_X12_round_70
        rw [if_neg z2, puts_at (by omega), Option.bind_some, nIp1]
        exact e1
    · by_cases z : k = i
      · subst z
        rw [e3 _ _ (by omega), e3 _ _ (by omega), e3 _ _ (by omega)]
        simp (disch := omega) only [mup_o, mup_t]
        exact ⟨trivial, trivial, trivial⟩
      · exact e2 k (by omega) k2
    · rw [e3 r k (by omega)]
      simp (disch := omega) only [mup_o]
theorem mfish_go {n : Nat} {x1 x2 : Int32} (hn : n ≤ 9) : ∀ j i m σ, n - i = j → i ≤ n → j < m → σ 95 1 = nI n → ∃ σ', c_X12_round_82 m x1 x2 (nI i) σ = c_X12_round_112 x1 x2 σ' ∧ (∀ k, i ≤ k → k < n → σ' 95 (10 + 4 * k + 3) = 0) ∧ (∀ r q, (r ≠ 95 ∨ q < 10 + 4 * i ∨ 10 + 4 * n ≤ q ∨ (q - 10) % 4 ≠ 3) → σ' r q = σ r q) := by
  intro j
  induction j with
  | zero =>
    intro i m σ hj hi hm h6
    obtain ⟨m, rfl⟩ : ∃ k, m = k + 1 := ⟨m - 1, by omega⟩
    refine ⟨σ, ?_, fun k _ _ => by omega, fun _ _ _ => rfl⟩
    rw [c_X12_round_82, h6, if_pos (nI_le (by omega) (by omega))]
  | succ j ih =>
    intro i m σ hj hi hm h6
    obtain ⟨m, rfl⟩ : ∃ k, m = k + 1 := ⟨m - 1, by omega⟩
    obtain ⟨σ', e1, e2, e3⟩ := ih (i + 1) m (mup σ 95 (10 + 4 * i + 3) 0) (by omega) (by omega) (by omega) (by rw [mup_o (by omega)]; exact h6)
    refine ⟨σ', ?_, fun k k1 k2 => ?_, fun r k h => ?_⟩
    · have ix : (10 : Int32) + (4 : Int32) * nI i + (3 : Int32) = nI (10 + 4 * i + 3) := ixW i 3
      rw [c_X12_round_82, h6, if_neg (nI_ge (by omega) (by omega)), ix, gdI (by omega) (by omega), clI (by omega), nIp1]
      exact e1
    · by_cases z : k = i
      · subst z
        rw [e3 _ _ (by omega), mup_t (by omega)]
      · exact e2 k (by omega) k2
    · rw [e3 r k (by omega)]
      simp (disch := omega) only [mup_o]
/-- all out but thing t, which is at a well, and no one sits anywhere -/
def lone (D : Nat → Int32) (t : Nat) (v : Int32) : Nat → Int32 := fun j =>
  if 46 ≤ j ∧ j < 46 + 6 * tN D ∧ (j - 46) % 6 = 2 then (if (j - 46) / 6 = t then 0 else 2)
  else if 46 ≤ j ∧ j < 46 + 6 * tN D ∧ (j - 46) % 6 = 3 then (if (j - 46) / 6 = t then v else -1)
  else if 46 ≤ j ∧ j < 46 + 6 * tN D ∧ (j - 46) % 6 = 4 then 0
  else if 10 ≤ j ∧ j < 10 + 4 * wN D ∧ (j - 10) % 4 = 3 then 0 else D j
theorem lone_2 {D : Nat → Int32} {t k : Nat} {v : Int32} (hk : k < tN D) : lone D t v (46 + 6 * k + 2) = if k = t then 0 else 2 := by
  unfold lone
  rw [if_pos (by omega), show (46 + 6 * k + 2 - 46) / 6 = k by omega]
theorem lone_3 {D : Nat → Int32} {t k : Nat} {v : Int32} (hk : k < tN D) : lone D t v (46 + 6 * k + 3) = if k = t then v else -1 := by
  unfold lone
  rw [if_neg (by omega), if_pos (by omega), show (46 + 6 * k + 3 - 46) / 6 = k by omega]
theorem lone_4 {D : Nat → Int32} {t k : Nat} {v : Int32} (hk : k < tN D) : lone D t v (46 + 6 * k + 4) = 0 := by
  unfold lone
  rw [if_neg (by omega), if_neg (by omega), if_pos (by omega)]
theorem lone_w {D : Nat → Int32} {t k : Nat} {v : Int32} (hk : k < wN D) (h9 : wN D ≤ 9) : lone D t v (10 + 4 * k + 3) = 0 := by
  unfold lone
  rw [if_neg (by omega), if_neg (by omega), if_neg (by omega), if_pos (by omega)]
theorem lone_o {D : Nat → Int32} {t j : Nat} {v : Int32} (h1 : j < 46 ∨ 46 + 6 * tN D ≤ j ∨ (j - 46) % 6 < 2 ∨ 4 < (j - 46) % 6) (h2 : j < 10 ∨ 10 + 4 * wN D ≤ j ∨ (j - 10) % 4 ≠ 3) : lone D t v j = D j := by
  unfold lone
  rw [if_neg (by omega), if_neg (by omega), if_neg (by omega), if_neg (by omega)]
theorem lone_W {D : Nat → Int32} {m t w : Nat} (hW : WOK D m) (hw : w < wN D) : WOK (lone D t (nI w)) m := by
  obtain ⟨a1, a2, a3, a4, a5, a6, a7⟩ := hW
  have wn : wN (lone D t (nI w)) = wN D := wN_cong (lone_o (by omega) (by omega))
  have tn : tN (lone D t (nI w)) = tN D := tN_cong (lone_o (by omega) (by omega))
  refine ⟨by rw [lone_o (by omega) (by omega)]; exact a1, by rw [lone_o (by omega) (by omega), wn]; exact a2, by omega, by rw [lone_o (by omega) (by omega), tn]; exact a4, by omega, fun u hu => ?_, fun u hu => ?_⟩
  · obtain ⟨b1, b2, b3, b4⟩ := a6 u (by omega)
    refine ⟨by rw [lone_o (by omega) (by omega), wn]; exact b1, by rw [lone_o (by omega) (by omega)]; exact b2, by rw [lone_o (by omega) (by omega)]; exact b3, by rw [lone_w (by omega) a3]; exact ⟨0, by omega, by omega, rfl⟩⟩
  · obtain ⟨b1, b2, b3, b4, b5, b6⟩ := a7 u (by omega)
    refine ⟨by rw [lone_o (by omega) (by omega)]; exact b1, by rw [lone_o (by omega) (by omega)]; exact b2, ?_, ?_, ?_, by rw [lone_o (by omega) (by omega)]; exact b6⟩
    · rw [lone_2 (by omega)]
      by_cases z : u = t
      · rw [if_pos z]; exact ⟨0, by omega, by omega, rfl⟩
      · rw [if_neg z]; exact ⟨2, by omega, by omega, rfl⟩
    · rw [lone_2 (by omega), lone_3 (by omega), wn]
      by_cases z : u = t
      · rw [if_pos z, if_pos z]; exact Or.inr ⟨w, hw, rfl⟩
      · rw [if_neg z, if_neg z]; exact Or.inl ⟨rfl, rfl⟩
    · rw [lone_2 (by omega), lone_4 (by omega)]
      refine Or.inr ⟨?_, rfl⟩
      by_cases z : u = t
      · rw [if_pos z]; decide
      · rw [if_neg z]; decide
theorem xlone {D : Nat → Int32} {σ : Sg} {m t w : Nat} (hW : WOK D m) (hw : w < wN D) (ht : t < tN D) (hR : RW σ 44 D) : ∃ σ', f_X10_leaveAlone 44 6 9 (nI t) (nI w) σ = some σ' ∧ RW σ' 44 (lone D t (nI w)) ∧ XF 44 σ' σ := by
  obtain ⟨a1, a2, a3, a4, a5, a6, a7⟩ := id hW
  obtain ⟨r1, r2, r3, r4, r5⟩ := hR
  obtain ⟨s1, e1, e2, e3⟩ := xlone_go (a := 44) (n := tN D) (x1 := nI t) (x2 := nI w) a5 (tN D) 0 1000 σ (by omega) (by omega) (by omega) (r3.trans a4)
  obtain ⟨s2, f1, f2, f3⟩ := xfish_go (a := 44) (n := wN D) a3 (wN D) 0 1000 (mup (mup (mup s1 (44 + 6 + 3) t 0) (44 + 6 + 4) t (nI w)) (44 + 6 + 5) t 0) (by omega) (by omega) (by omega) (by rw [mup_o (by omega), mup_o (by omega), mup_o (by omega), e3 _ _ (by omega)]; exact r2.trans a2)
  have wn : wN (lone D t (nI w)) = wN D := wN_cong (lone_o (by omega) (by omega))
  have tn : tN (lone D t (nI w)) = tN D := tN_cong (lone_o (by omega) (by omega))
  refine ⟨s2, ?_, ⟨?_, ?_, ?_, fun u hu => ?_, fun u hu => ?_⟩, fun q k _ _ hq => ?_⟩
  · unfold f_X10_leaveAlone
    refine Eq.trans e1 ?_
    unfold c_X10_leaveAlone_30
    rw [place_at (by omega), Option.bind_some]
    exact f1
  · rw [lone_o (by omega) (by omega), f3 _ _ (by omega)]
    simp (disch := omega) only [mup_o]
    rw [e3 _ _ (by omega)]; exact r1
  · rw [lone_o (by omega) (by omega), f3 _ _ (by omega)]
    simp (disch := omega) only [mup_o]
    rw [e3 _ _ (by omega)]; exact r2
  · rw [lone_o (by omega) (by omega), f3 _ _ (by omega)]
    simp (disch := omega) only [mup_o]
    rw [e3 _ _ (by omega)]; exact r3
  · obtain ⟨b1, b2, b3, b4⟩ := r4 u (by omega)
    rw [lone_o (by omega) (by omega), lone_o (by omega) (by omega), lone_o (by omega) (by omega), lone_w (by omega) a3, f3 _ _ (by omega), f3 _ _ (by omega), f3 _ _ (by omega)]
    simp (disch := omega) only [mup_o]
    rw [e3 _ _ (by omega), e3 _ _ (by omega), e3 _ _ (by omega)]
    exact ⟨b1, b2, b3, f2 u (by omega) (by omega)⟩
  · obtain ⟨b1, b2, b3, b4, b5, b6⟩ := r5 u (by omega)
    rw [lone_o (by omega) (by omega), lone_o (by omega) (by omega), lone_2 (by omega), lone_3 (by omega), lone_4 (by omega), lone_o (by omega) (by omega), f3 _ _ (by omega), f3 _ _ (by omega), f3 _ _ (by omega), f3 _ _ (by omega), f3 _ _ (by omega), f3 _ _ (by omega)]
    by_cases z : u = t
    · rw [if_pos z, if_pos z]
      simp (disch := omega) only [mup_o, mup_t]
      rw [e3 _ _ (by omega), e3 _ _ (by omega), e3 _ _ (by omega)]
      exact ⟨b1, b2, trivial, trivial, trivial, b6⟩
    · rw [if_neg z, if_neg z]
      simp (disch := omega) only [mup_o]
      have := e2 u (by omega) (by omega)
      rw [e3 _ _ (by omega), e3 _ _ (by omega), e3 (44 + 12) _ (by omega)]
      exact ⟨b1, b2, this.1, this.2.1, this.2.2, b6⟩
  · rw [f3 _ _ (by omega)]
    simp (disch := omega) only [mup_o]
    rw [e3 _ _ (by omega)]
theorem mlone {D : Nat → Int32} {σ : Sg} {m t w : Nat} (hW : WOK D m) (hw : w < wN D) (ht : t < tN D) (hr : Row σ 95 D) : ∃ σ', c_X12_round_35 1000 (nI t) (nI w) 0 σ = c_X12_round_117 1000 (nI t) (nI w) 0 1 σ' ∧ Row σ' 95 (lone D t (nI w)) ∧ MF 95 σ' σ := by
  obtain ⟨a1, a2, a3, a4, a5, a6, a7⟩ := id hW
  obtain ⟨s1, e1, e2, e3⟩ := mlone_go (n := tN D) (t := t) (x2 := nI w) a5 ht (tN D) 0 1000 σ (by omega) (by omega) (by omega) ((hr 2 (by omega)).trans a4)
  obtain ⟨s2, f1, f2, f3⟩ := mfish_go (n := wN D) (x1 := nI t) (x2 := nI w) a3 (wN D) 0 1000 s1 (by omega) (by omega) (by omega) (by rw [e3 _ _ (by omega)]; exact (hr 1 (by omega)).trans a2)
  refine ⟨s2, ?_, fun j hj => ?_, fun q k _ _ hq => by rw [f3 _ _ (by omega), e3 _ _ (by omega)]⟩
  · refine Eq.trans e1 ?_
    unfold c_X12_round_80
    refine Eq.trans f1 ?_
    rfl
  · by_cases c1 : 46 ≤ j ∧ j < 46 + 6 * tN D
    · obtain ⟨k, c, hc, rfl⟩ : ∃ k c, c < 6 ∧ j = 46 + 6 * k + c := ⟨(j - 46) / 6, (j - 46) % 6, by omega, by omega⟩
      have hk : k < tN D := by omega
      have := e2 k (by omega) hk
      rw [f3 _ _ (by omega)]
      by_cases c2 : c = 2
      · subst c2; rw [lone_2 hk]; exact this.1
      · by_cases c3 : c = 3
        · subst c3; rw [lone_3 hk]; exact this.2.1
        · by_cases c4 : c = 4
          · subst c4; rw [lone_4 hk]; exact this.2.2
          · rw [lone_o (by omega) (by omega), e3 _ _ (by omega)]; exact hr _ hj
    · by_cases c2 : 10 ≤ j ∧ j < 10 + 4 * wN D ∧ (j - 10) % 4 = 3
      · obtain ⟨k, rfl⟩ : ∃ k, j = 10 + 4 * k + 3 := ⟨(j - 10) / 4, by omega⟩
        rw [lone_w (by omega) a3]; exact f2 k (by omega) (by omega)
      · rw [lone_o (by omega) (by omega), f3 _ _ (by omega), e3 _ _ (by omega)]; exact hr _ hj
