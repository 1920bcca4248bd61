def fb (x : Int64) (i : Nat) : Int32 := (((x).toUInt64 >>> ((((8 : Int32) * nI i)).toInt64.toUInt64 &&& Int64.toUInt64 63)).toInt64).toInt32 &&& (255 : Int32)
theorem fb_byte (y : Int32) : Sm (y &&& 255) 0 255 := by
  have hb : (y &&& 255).toBitVec.toNat ≤ 255 := by
    rw [Int32.toBitVec_and, BitVec.toNat_and]
    exact Nat.and_le_right
  refine ⟨(y &&& 255).toBitVec.toNat, by omega, hb, ?_⟩
  generalize y &&& 255 = z
  show z = Int32.ofNat _
  rw [← Int32.toBitVec_inj]
  apply BitVec.eq_of_toNat_eq
  rw [Int32.toBitVec_ofNat']
  simp
theorem fb_m (x : Int64) {i : Nat} (hi : i < 8) : (((x >>> ((((8 : Int32) * nI i)).toInt64 &&& 63)) &&& (255 : Int32).toInt64)).toInt32 = fb x i := by
  unfold fb
  have e1 : ((BitVec.signExtend 64 (8#32 * (nI i).toBitVec) &&& 63#64).smod 64#64).toNat = 8 * i := by
    obtain rfl | rfl | rfl | rfl | rfl | rfl | rfl | rfl : i = 0 ∨ i = 1 ∨ i = 2 ∨ i = 3 ∨ i = 4 ∨ i = 5 ∨ i = 6 ∨ i = 7 := by omega
    all_goals decide
  have e2 : (((BitVec.signExtend 64 (8#32 * (nI i).toBitVec)).toNat &&& 63) % 64) = 8 * i := by
    obtain rfl | rfl | rfl | rfl | rfl | rfl | rfl | rfl : i = 0 ∨ i = 1 ∨ i = 2 ∨ i = 3 ∨ i = 4 ∨ i = 5 ∨ i = 6 ∨ i = 7 := by omega
    all_goals decide
  rw [← Int32.toBitVec_inj]
  apply BitVec.eq_of_getLsbD_eq
  intro j hj
  by_cases h8 : j < 8
  · simp
    rw [e1, e2]
    congr 1
    rw [BitVec.getLsbD_signExtend, BitVec.getLsbD_signExtend, if_pos (by omega), if_pos (by omega), BitVec.getLsbD_sshiftRight, BitVec.getLsbD_ushiftRight, if_pos (by omega)]
    simp [show ¬ 64 ≤ j by omega]
  · simp
    have : (255#32).getLsbD j = false := by
      show Nat.testBit 255 j = false
      exact Nat.testBit_lt_two_pow (Nat.lt_of_lt_of_le (show 255 < 2 ^ 8 by decide) (Nat.pow_le_pow_right (by decide) (by omega)))
    rw [this, Bool.and_false, Bool.and_false]
theorem xfeed_go {n c : Nat} {x : Int64} (hn : n ≤ 8) (hc : c + n ≤ 50) : ∀ j i m σ, n - i = j → i ≤ n → j < m → σ 12 1 = nI (c + i) → ∃ σ', c_X11_feed_42 m x (nI n) (nI i) σ = some (nI (c + n), σ') ∧ σ' 12 1 = nI (c + n) ∧ (∀ k, i ≤ k → k < n → σ' 13 (c + k) = fb x k) ∧ (∀ r k, (r ≠ 12 ∨ k ≠ 1) → (r ≠ 13 ∨ k < c + i ∨ c + n ≤ k) → σ' r k = σ r k) := by
  intro j
  induction j with
  | zero =>
    intro i m σ hj hi hm h1
    obtain ⟨m, rfl⟩ : ∃ k, m = k + 1 := ⟨m - 1, by omega⟩
    have e : i = n := by omega
    subst e
    refine ⟨σ, ?_, h1, fun k _ _ => by omega, fun _ _ _ _ => rfl⟩
    rw [c_X11_feed_42, if_pos (nI_le (by omega) (by omega)), h1]
  | succ j ih =>
    intro i m σ hj hi hm h1
    obtain ⟨m, rfl⟩ : ∃ k, m = k + 1 := ⟨m - 1, by omega⟩
    obtain ⟨σ', e1, e2, e3, e4⟩ := ih (i + 1) m (mup (mup σ 13 (c + i) (fb x i)) 12 1 (nI (c + i + 1))) (by omega) (by omega) (by omega) (by rw [mup_s]; rfl)
    refine ⟨σ', ?_, e2, fun k k1 k2 => ?_, fun r k a b => ?_⟩
    · rw [c_X11_feed_42, if_neg (nI_ge (by omega) (by omega))]
      have ha : f_X4_append 12 50 (fb x i) σ = some (mup (mup σ 13 (c + i) (fb x i)) 12 1 (nI (c + i + 1))) := by
        unfold f_X4_append
        rw [h1, lay_at (by omega) (by omega), Option.bind_some, mup_o (by omega), h1, nIp1]
      refine Eq.trans (congrArg (fun o => Option.bind o _) ha) ?_
      rw [Option.bind_some, nIp1]
      exact e1
    · by_cases z : k = i
      · subst z
        rw [e4 13 (c + k) (by omega) (by omega), mup_o (by omega), mup_s]
      · exact e3 k (by omega) k2
    · rw [e4 r k a (by omega), mup_o (by omega), mup_o (by omega)]
theorem mfeed_go {n c : Nat} {x : Int64} (hn : n ≤ 8) (hc : c + n ≤ 50) : ∀ j i m σ, n - i = j → i ≤ n → j < m → σ 94 5 = nI (c + i) → ∃ σ', c_X12_feed_40 m x (nI n) (nI i) σ = some (nI (c + n), σ') ∧ σ' 94 5 = nI (c + n) ∧ (∀ k, i ≤ k → k < n → σ' 94 (264 + (c + k)) = fb x k) ∧ (∀ r k, (r ≠ 94 ∨ k ≠ 5) → (r ≠ 94 ∨ k < 264 + (c + i) ∨ 264 + (c + n) ≤ k) → σ' r k = σ r k) := by
  intro j
  induction j with
  | zero =>
    intro i m σ hj hi hm h1
    obtain ⟨m, rfl⟩ : ∃ k, m = k + 1 := ⟨m - 1, by omega⟩
    have e : i = n := by omega
    subst e
    refine ⟨σ, ?_, h1, fun k _ _ => by omega, fun _ _ _ _ => rfl⟩
    rw [c_X12_feed_40, if_pos (nI_le (by omega) (by omega)), h1]
  | succ j ih =>
    intro i m σ hj hi hm h1
    obtain ⟨m, rfl⟩ : ∃ k, m = k + 1 := ⟨m - 1, by omega⟩
    obtain ⟨σ', e1, e2, e3, e4⟩ := ih (i + 1) m (mup (mup σ 94 (264 + (c + i)) (fb x i)) 94 5 (nI (c + i + 1))) (by omega) (by omega) (by omega) (by rw [mup_s]; rfl)
    refine ⟨σ', ?_, e2, fun k k1 k2 => ?_, fun r k a b => ?_⟩
    · rw [c_X12_feed_40, if_neg (nI_ge (by omega) (by omega)), h1, ixP, gdI (by omega) (by omega), clI (by omega), fb_m x (by omega), mup_o (by omega), h1, nIp1, nIp1]
      exact e1
    · by_cases z : k = i
      · subst z
        rw [e4 94 (264 + (c + k)) (by omega) (by omega), mup_o (by omega), mup_s]
      · exact e3 k (by omega) k2
    · rw [e4 r k a (by omega), mup_o (by omega), mup_o (by omega)]
theorem eq_feed {xs : Nat → Int32} {σ : Sg} (h : Inv xs σ) (x : Int64) (p : Int32) : Good xs (f_X11_feed x p σ) (f_X12_feed x p) := by
  obtain ⟨h1, h2, h3, h4⟩ := h.1
  obtain ⟨⟨f1, f2, f3⟩, ⟨p1, p2, p3⟩, ⟨a1, a2, a3⟩⟩ := h.dk
  generalize hc : pN (σ 94) = c at p1 p2 p3
  by_cases c1 : 1 ≤ p ∧ p ≤ 8
  · obtain ⟨n, n1, n2, rfl⟩ := Sm_of (lo := 1) (hi := 8) (by decide) (by decide) c1.1 c1.2
    by_cases c2 : c + n ≤ 50
    · have c3 : nI c + nI n ≤ (50 : Int32) := by
        rw [nIa, show (50 : Int32) = nI 50 from rfl]
        exact nI_le (by omega) (by omega)
      obtain ⟨σ1, x1, x2, x3, x4⟩ := xfeed_go (c := c) (x := x) n2 c2 n 0 1000 σ (by omega) (by omega) (by omega) p1
      have e94 : ∀ k, σ1 94 k = σ 94 k := fun k => x4 94 k (by omega) (by omega)
      obtain ⟨σ2, m1, m2, m3, m4⟩ := mfeed_go (c := c) (x := x) n2 c2 n 0 1000 σ1 (by omega) (by omega) (by omega) (by rw [e94]; exact p2)
      refine ⟨nI (c + n), σ1, σ2, ?_, ?_, ?_⟩
      · unfold f_X11_feed
        rw [within_eq, Option.bind_some, bI_1 c1, p1, if_pos c3]
        exact x1
      · unfold f_X12_feed
        rw [isIn_eq, Option.bind_some, bI_1 c1, e94, p2, if_pos c3]
        exact m1
      · have e : ∀ r k, (r ≠ 13 ∨ k < c ∨ c + n ≤ k) → (r ≠ 12 ∨ k ≠ 1) → (r ≠ 94 ∨ (k ≠ 5 ∧ (k < 264 + c ∨ 264 + (c + n) ≤ k))) → σ2 r k = σ r k := fun r k u v w => by
          rw [m4 r k (by omega) (by omega), x4 r k (by omega) (by omega)]
        have v3 : σ2 12 1 = nI (c + n) := by rw [m4 12 1 (by omega) (by omega)]; exact x2
        have v4 : ∀ k, k < n → σ2 13 (c + k) = fb x k := fun k hk => by rw [m4 _ _ (by omega) (by omega)]; exact x3 k (by omega) hk
        have v2 : ∀ k, k < n → σ2 94 (264 + (c + k)) = fb x k := fun k hk => m3 k (by omega) hk
        have eF : fN (σ2 94) = fN (σ 94) := by unfold fN; rw [e 94 3 (by omega) (by omega) (by omega)]
        have eP : pN (σ2 94) = c + n := pN_of m2 (by omega)
        have eA : aN (σ2 94) = aN (σ 94) := by unfold aN; rw [e 94 6 (by omega) (by omega) (by omega)]
        have eW : wN (σ2 94) = wN (σ 94) := wN_cong (e 94 1 (by omega) (by omega) (by omega))
        refine h.desk (fun j hj => e 94 j (by omega) (by omega) (by omega)) (fun r a b => rows_eq (fun k => e r k (by omega) (by omega) (by omega))) ?_ ?_
        · obtain ⟨b1, b2, b3, b4, b5, b6, b7, b8⟩ := h2
          refine ⟨by rw [eF, e _ _ (by omega) (by omega) (by omega)]; exact b1, by omega, fun f hf => ?_, by rw [eP, m2], by omega, fun i hi => ?_, by rw [eA, e _ _ (by omega) (by omega) (by omega)]; exact b7, by omega⟩
          · rw [eW, e 94 _ (by omega) (by omega) (by omega), e 94 _ (by omega) (by omega) (by omega), e 94 _ (by omega) (by omega) (by omega)]
            exact b3 f (by omega)
          · by_cases z : i < c
            · rw [e _ _ (by omega) (by omega) (by omega)]; exact b6 i (by omega)
            · obtain ⟨k, rfl⟩ : ∃ k, i = c + k := ⟨i - c, by omega⟩
              rw [v2 k (by omega)]
              exact fb_byte _
        · obtain ⟨r1, r2, r3, r4, r5, r6, r7, r8⟩ := id h4
          refine ⟨by rw [e _ _ (by omega) (by omega) (by omega), e _ _ (by omega) (by omega) (by omega)]; exact r1, by rw [e _ _ (by omega) (by omega) (by omega), e _ _ (by omega) (by omega) (by omega)]; exact r2, fun f hf => ?_, by rw [m2]; exact v3, fun i hi => ?_, by rw [e _ _ (by omega) (by omega) (by omega), e _ _ (by omega) (by omega) (by omega)]; exact r6, fun i hi => ?_, h4.texts (fun j hj => e _ _ (by omega) (by omega) (by omega)) (fun k => e _ _ (by omega) (by omega) (by omega)) (fun k => e _ _ (by omega) (by omega) (by omega)) (fun k => e _ _ (by omega) (by omega) (by omega)) (fun k => e _ _ (by omega) (by omega) (by omega))⟩
          · simp (disch := omega) only [e]; exact r3 f (by omega)
          · by_cases z : i < c
            · simp (disch := omega) only [e]; exact r5 i (by omega)
            · obtain ⟨k, rfl⟩ : ∃ k, i = c + k := ⟨i - c, by omega⟩
              rw [v2 k (by omega)]
              exact v4 k (by omega)
          · simp (disch := omega) only [e]; exact r7 i (by omega)
    · have c3 : ¬ nI c + nI n ≤ (50 : Int32) := by
        rw [nIa, show (50 : Int32) = nI 50 from rfl, nI_le_iff (by omega) (by omega)]
        omega
      refine good_err h (k := 4) (by decide) ?_ (fun σ1 e => ?_)
      · unfold f_X11_feed
        rw [within_eq, Option.bind_some, bI_1 c1, p1, if_neg c3]
        rfl
      · unfold f_X12_feed
        rw [isIn_eq, Option.bind_some, bI_1 c1, e 94 (by decide), p2, if_neg c3]
        rfl
  · refine good_err h (k := 1) (by decide) ?_ (fun σ1 e => ?_)
    · unfold f_X11_feed
      rw [within_eq, Option.bind_some, bI_0 c1]
      rfl
    · unfold f_X12_feed
      rw [isIn_eq, Option.bind_some, bI_0 c1]
      rfl
