theorem mark_go {σ : Sg} {n w r : Nat} {T : Nat → Int32} {dd : Nat → Nat} (hg : GM n T dd) (hn : n ≤ 9) (hr : ∀ w, w < n → σ 94 (10 + 4 * w) = T w) (h : Rg n T w r) : ∀ j i m v, r - i = j → i ≤ r → j < m → v < 1024 → ∃ v', v' < 1024 ∧ (∀ b, v'.testBit b = true ↔ v.testBit b = true ∨ ∃ k, i ≤ k ∧ k < r ∧ itr n T k w = b) ∧ ∀ (k26 : Int32 → Int32 → Int32 → Int32 → Int32 → Sg → Option (Int32 × Sg)) (x1 x2 x3 x5 : Int32), c_X12_rings_86 k26 m x1 x2 x3 (nI v) x5 (nI r) (nI (itr n T i w)) (nI i) σ = c_X12_rings_117 k26 x1 x2 x3 (nI v') x5 σ := by
  have hr9 := Rg_le hg hn h
  intro j
  induction j with
  | zero =>
    intro i m v hj hi hm hv
    obtain ⟨m, rfl⟩ : ∃ k, m = k + 1 := ⟨m - 1, by omega⟩
    refine ⟨v, hv, fun b => ⟨fun z => Or.inl z, fun z => ?_⟩, fun k26 x1 x2 x3 x5 => ?_⟩
    · rcases z with z | ⟨k, k1, k2, -⟩
      · exact z
      · omega
    · rw [c_X12_rings_86, if_pos (nI_le (by omega) (by omega))]
  | succ j ih =>
    intro i m v hj hi hm hv
    obtain ⟨m, rfl⟩ : ∃ k, m = k + 1 := ⟨m - 1, by omega⟩
    have a1 := Rg_in hg hn h i
    have a2 := Rg_in hg hn h (i + 1)
    have e2 : T (itr n T i w) = nI (itr n T (i + 1) w) := by
      rw [← pI_nxt hg hn a1]
      show pI n (itr n T (i + 1) w) = _
      unfold pI; rw [if_pos a2]
    have iw := itsWell_at (w := itr n T i w) (c := 0) (σ := σ) (by omega) (by omega)
    rw [show nI 0 = 0 from rfl, Nat.add_zero, hr _ a1, e2] at iw
    obtain ⟨v', b1, b2, b3⟩ := ih (i + 1) m (v ||| 2 ^ itr n T i w) (by omega) (by omega) (by omega) (or_lt hv (by omega))
    refine ⟨v', b1, fun b => ?_, fun k26 x1 x2 x3 x5 => ?_⟩
    · rw [b2 b, or_tb]
      constructor
      · intro z
        rcases z with z | ⟨k, k1, k2, k3⟩
        · rw [Bool.or_eq_true, decide_eq_true_eq] at z
          rcases z with z | z
          · exact Or.inl z
          · exact Or.inr ⟨i, Nat.le_refl _, by omega, z⟩
        · exact Or.inr ⟨k, by omega, k2, k3⟩
      · intro z
        rw [Bool.or_eq_true, decide_eq_true_eq]
        rcases z with z | ⟨k, k1, k2, k3⟩
        · exact Or.inl (Or.inl z)
        · by_cases y : k = i
          · exact Or.inl (Or.inr (y ▸ k3))
          · exact Or.inr ⟨k, by omega, k2, k3⟩
    · rw [c_X12_rings_86, if_neg (nI_ge (by omega) (by omega)), iw, Option.bind_some, or_bit (by omega), nIp1]
      exact b3 k26 x1 x2 x3 x5
/-- the marks: all wells of the rings of the wells before i -/
def MetI (n : Nat) (T : Nat → Int32) (i v : Nat) : Prop := ∀ b, v.testBit b = true ↔ ∃ u, u < i ∧ (∃ r, Rg n T u r) ∧ ∃ k, itr n T k u = b
theorem met_lem {n w r v : Nat} {T : Nat → Int32} {dd : Nat → Nat} (hg : GM n T dd) (hn : n ≤ 9) (h : Rg n T w r) (hv : MetI n T w v) : mnr n T w (r - 1) = w ↔ ¬ v.testBit w = true := by
  have h0 := h.1
  have h1 := h.2.1
  have h2 := h.2.2.1
  rw [(mnr_eq (n := n) (w := w) (T := T) (r - 1)).2, hv w]
  constructor
  · rintro e ⟨u, u1, ⟨ru, hu⟩, k, hk⟩
    have hu1 := hu.2.1
    have hu2 := hu.2.2.1
    rw [itr_mod hu2 k] at hk
    have l := Nat.mod_lt k (show 0 < ru by omega)
    generalize k % ru = k' at hk l
    have e1 := itr_add n T k' (ru - k') u
    rw [show ru - k' + k' = ru by omega, hu2, hk, itr_mod h2] at e1
    have l2 := Nat.mod_lt (ru - k') (show 0 < r by omega)
    have := e ((ru - k') % r) (by omega)
    omega
  · intro e k hk
    rcases Nat.lt_or_ge (itr n T k w) w with z | z
    · exfalso
      apply e
      have hin := Rg_in hg hn h k
      refine ⟨itr n T k w, z, ?_, r - k, ?_⟩
      · rcases Rg_ex (T := T) hin with y | y
        · exact y
        · exfalso
          apply y r h1
          rw [← itr_add, Nat.add_comm, itr_add, h2]
      · rw [← itr_add, show r - k + k = r by omega, h2]
    · exact z
theorem rings_go {σ : Sg} {a n : Nat} {p0 : Int32} {T : Nat → Int32} {dd : Nat → Nat} (hg : GM n T dd) (hn : n ≤ 9) (hc : σ a 4 = nI n) (hr : ∀ w, w < n → σ (a + 1) w = T w) (h1 : σ 94 1 = nI n) (hm : ∀ w, w < n → σ 94 (10 + 4 * w) = T w) : ∀ j i m b c v, n - i = j → i ≤ n → j < m → v < 1024 → MetI n T i v → ∃ R C, c_X9_deepBits_4 a σ m b (nI i) = some R ∧ c_X9_howManyRings_4 a σ m c (nI i) = some C ∧ c_X12_rings_26 m p0 b c (nI v) (nI i) σ = c_X12_rings_123 p0 R C σ := by
  intro j
  induction j with
  | zero =>
    intro i m b c v hj hi hmm hv hM
    obtain ⟨m, rfl⟩ : ∃ k, m = k + 1 := ⟨m - 1, by omega⟩
    have hle : nI n ≤ nI i := nI_le (by omega) (by omega)
    refine ⟨b, c, ?_, ?_, ?_⟩
    · rw [c_X9_deepBits_4, hc, if_pos hle]
    · rw [c_X9_howManyRings_4, hc, if_pos hle]
    · rw [c_X12_rings_26, h1, if_pos hle]
  | succ j ih =>
    intro i m b c v hj hi hmm hv hM
    obtain ⟨m, rfl⟩ : ∃ k, m = k + 1 := ⟨m - 1, by omega⟩
    have hlt : ¬ nI n ≤ nI i := nI_ge (by omega) (by omega)
    have hin : i < n := by omega
    have iw := itsWell_at (w := i) (c := 0) (σ := σ) (by omega) (by omega)
    rw [show nI 0 = 0 from rfl, Nat.add_zero, hm _ hin, ← pI_nxt hg hn hin] at iw
    rcases Rg_ex (T := T) hin with ⟨r, h⟩ | h
    · have hr9 := Rg_le hg hn h
      have hr1 := h.2.1
      have x1 : f_X9_leastOfRing a (nI i) σ = some (nI (mnr n T i (r - 1))) := by
        unfold f_X9_leastOfRing
        exact xring_yes hg hn hc hr h r 0 1000 (by omega) (by omega) (by omega)
      have m1 : f_X12_ringOf (nI i) σ = some (nI r) := by
        unfold f_X12_ringOf
        rw [iw, Option.bind_some]
        have := mring_yes hg hn hm h (r - 1) 1 1000 (by omega) (by omega) (by omega) (by omega)
        have e : pI n (nxt n T i) = nI (itr n T 1 i) := by
          show pI n (itr n T 1 i) = _
          unfold pI
          rw [if_pos (Rg_in hg hn h 1)]
        rw [e]
        exact this
      have b1 := mnr_lt hg hn h (r - 1)
      have bt := bt_all i (by omega) v hv
      have nr : ¬ nI r = 0 := nIne0 hr1 (by omega)
      have nr2 : ¬ nI r ≤ 0 := nI_gt0 hr1 (by omega)
      have ml := met_lem hg hn h hM
      by_cases z : v.testBit i = true
      · have hM' : MetI n T (i + 1) v := fun q => by
          rw [hM q]
          constructor
          · rintro ⟨u, u1, u2, u3⟩
            exact ⟨u, by omega, u2, u3⟩
          · rintro ⟨u, u1, u2, k, u3⟩
            by_cases y : u = i
            · obtain ⟨u', w1, w2, k', w3⟩ := (hM i).mp z
              refine ⟨u', w1, w2, k + k', ?_⟩
              rw [itr_add, w3, ← y, u3]
            · exact ⟨u, by omega, u2, k, u3⟩
        obtain ⟨R, C, r1, r2, r3⟩ := ih (i + 1) m b c v (by omega) (by omega) (by omega) hv hM'
        have mne : ¬ nI (mnr n T i (r - 1)) = nI i := by
          rw [nI_eq_iff (by omega) (by omega)]
          exact fun e => (ml.mp e) z
        rw [if_pos z] at bt
        refine ⟨R, C, ?_, ?_, ?_⟩
        · rw [c_X9_deepBits_4, hc, if_neg hlt, x1, Option.bind_some, if_pos (nI_pos' (by omega))]
          unfold c_X9_deepBits_26
          rw [nIp1]; exact r1
        · rw [c_X9_howManyRings_4, hc, if_neg hlt, x1, Option.bind_some, if_neg mne]
          unfold c_X9_howManyRings_24
          rw [nIp1]; exact r2
        · rw [c_X12_rings_26, h1, if_neg hlt, m1, Option.bind_some, if_neg nr]
          unfold c_X12_rings_59
          rw [if_neg nr2, bt, if_neg one_ne, or0]
          unfold c_X12_rings_117
          rw [nIp1]; exact r3
      · obtain ⟨v', d1, d2, d3⟩ := mark_go hg hn hm h r 0 1000 v (by omega) (by omega) (by omega) hv
        have hM' : MetI n T (i + 1) v' := fun q => by
          rw [d2 q, hM q]
          constructor
          · rintro (⟨u, u1, u2, u3⟩ | ⟨k, k1, k2, k3⟩)
            · exact ⟨u, by omega, u2, u3⟩
            · exact ⟨i, by omega, ⟨r, h⟩, k, k3⟩
          · rintro ⟨u, u1, u2, k, u3⟩
            by_cases y : u = i
            · refine Or.inr ⟨k % r, by omega, Nat.mod_lt _ (by omega), ?_⟩
              rw [← itr_mod h.2.2.1, ← y, u3]
            · exact Or.inl ⟨u, by omega, u2, k, u3⟩
        obtain ⟨R, C, r1, r2, r3⟩ := ih (i + 1) m b (c + 1) v' (by omega) (by omega) (by omega) d1 hM'
        have me : nI (mnr n T i (r - 1)) = nI i := by rw [ml.mpr z]
        rw [if_neg z] at bt
        refine ⟨R, C, ?_, ?_, ?_⟩
        · rw [c_X9_deepBits_4, hc, if_neg hlt, x1, Option.bind_some, if_pos (nI_pos' (by omega))]
          unfold c_X9_deepBits_26
          rw [nIp1]; exact r1
        · rw [c_X9_howManyRings_4, hc, if_neg hlt, x1, Option.bind_some, if_pos me]
          unfold c_X9_howManyRings_24
          rw [nIp1]; exact r2
        · rw [c_X12_rings_26, h1, if_neg hlt, m1, Option.bind_some, if_neg nr]
          unfold c_X12_rings_59
          rw [if_neg nr2, bt, if_pos rfl, or0]
          have := d3 (c_X12_rings_26 m) p0 b (c + 1) (nI i)
          refine Eq.trans this ?_
          unfold c_X12_rings_117
          rw [nIp1]; exact r3
    · have x1 : f_X9_leastOfRing a (nI i) σ = some (-1) := by
        unfold f_X9_leastOfRing
        have := xring_no hg hn hc hr hin h n 0 1000 (nI i) (by omega) (by omega) (by omega)
        have e : pI n (itr n T 0 i) = nI i := by
          show pI n i = _
          unfold pI
          rw [if_pos hin]
        rw [e] at this
        exact this
      have m1 : f_X12_ringOf (nI i) σ = some 0 := by
        unfold f_X12_ringOf
        rw [iw, Option.bind_some]
        exact mring_no hg hn hm hin h 19 1 1000 (by omega) (by omega) (by omega) (by omega)
      have hM' : MetI n T (i + 1) v := fun q => by
        rw [hM q]
        constructor
        · rintro ⟨u, u1, u2, u3⟩
          exact ⟨u, by omega, u2, u3⟩
        · rintro ⟨u, u1, ⟨r, u2⟩, k, u3⟩
          by_cases y : u = i
          · exact absurd (y ▸ u2.2.2.1) (h r u2.2.1)
          · exact ⟨u, by omega, ⟨r, u2⟩, k, u3⟩
      obtain ⟨R, C, r1, r2, r3⟩ := ih (i + 1) m (b ||| ((1 : Int32) <<< (nI i &&& 31))) c v (by omega) (by omega) (by omega) hv hM'
      have mne : ¬ (-1 : Int32) = nI i := fun e => absurd (e ▸ nI_pos' (show i < 2 ^ 31 by omega) : (0 : Int32) ≤ -1) (by decide)
      refine ⟨R, C, ?_, ?_, ?_⟩
      · rw [c_X9_deepBits_4, hc, if_neg hlt, x1, Option.bind_some, if_neg (by decide)]
        unfold c_X9_deepBits_26
        rw [nIp1]; exact r1
      · rw [c_X9_howManyRings_4, hc, if_neg hlt, x1, Option.bind_some, if_neg mne]
        unfold c_X9_howManyRings_24
        rw [nIp1]; exact r2
      · rw [c_X12_rings_26, h1, if_neg hlt, m1, Option.bind_some, if_pos rfl]
        unfold c_X12_rings_59
        rw [if_pos (by decide)]
        unfold c_X12_rings_117
        rw [nIp1]; exact r3
theorem eq_rings {xs : Nat → Int32} {σ : Sg} (h : Inv xs σ) (p0 : Int32) : Good xs (f_X11_rings p0 σ) (f_X12_rings p0) := by
  obtain ⟨w1, w2, w3, t1, t2, t3⟩ := h.base
  obtain ⟨h1, h2, h3, h4⟩ := h.1
  by_cases c1 : 0 ≤ p0 ∧ p0 ≤ 1
  · obtain ⟨R, C, r1, r2, r3⟩ := rings_go (σ := σ) (a := 32) (p0 := p0) (GM_of h1) w3 w1 (fun w hw => (h3.2.2.2.1 w hw).1) w2 (fun w hw => rfl) (wN (σ 94)) 0 1000 0 0 0 (by omega) (by omega) (by omega) (by omega) (fun b => ⟨fun z => by simp at z, fun ⟨u, u1, _⟩ => by omega⟩)
    have hM : f_X12_rings p0 σ = c_X12_rings_123 p0 R C σ := by
      unfold f_X12_rings
      rw [isIn_eq, Option.bind_some, bI_1 c1]
      exact r3
    by_cases z : p0 = 0
    · refine ⟨R, σ, σ, ?_, ?_, h⟩
      · unfold f_X11_rings f_X9_deepBits
        rw [within_eq, Option.bind_some, bI_1 c1, if_pos z]
        refine Eq.trans (congrArg (fun o => Option.bind o _) r1) ?_
        rfl
      · rw [hM]
        unfold c_X12_rings_123
        rw [if_pos z]
    · refine ⟨C, σ, σ, ?_, ?_, h⟩
      · unfold f_X11_rings f_X9_howManyRings
        rw [within_eq, Option.bind_some, bI_1 c1, if_neg z]
        refine Eq.trans (congrArg (fun o => Option.bind o _) r2) ?_
        rfl
      · rw [hM]
        unfold c_X12_rings_123
        rw [if_neg z]
  · refine good_err h (k := 1) (by decide) ?_ (fun σ1 e => ?_)
    · unfold f_X11_rings
      rw [within_eq, Option.bind_some, bI_0 c1]
      rfl
    · unfold f_X12_rings
      rw [isIn_eq, Option.bind_some, bI_0 c1]
      rfl
