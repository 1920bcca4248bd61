theorem ahead_eq {xs : Nat → Int32} {σ : Sg} (h : Inv xs σ) {G : Nat → Int32 → Int32 → Int32 → Int32 → Int32} (hG : ∀ A B C F, Sm (G 0 A B C F) 0 30) (gx : GX σ G) (gd : GD (σ 94) G) {n : Nat} (hn : n ≤ 200) : ∃ D' M, WOK D' M ∧ (∀ q, (1 ≤ q ∧ q < 46) ∨ 106 ≤ q → D' q = σ 94 q) ∧ (∃ s σ1, f_X10_copyFrom 44 6 9 31 6 9 σ = some s ∧ f_X10_goBy 44 6 9 (nI n) s = some σ1 ∧ RW σ1 44 D' ∧ XF 44 σ1 σ) ∧ (∀ σm : Sg, σm 94 = σ 94 → ∃ σ2, f_X12_ahead (nI n) σm = some σ2 ∧ Row σ2 95 D' ∧ ∀ q k, q ≠ 98 → (q ≠ 93 ∨ k < 5 ∨ 10 < k) → q ≠ 95 → σ2 q k = σm q k) := by
  obtain ⟨h1, h2, h3, h4⟩ := h.1
  obtain ⟨D', e1, e2, e3, ex, em⟩ := days_go (n := n) hG gx gd hn n 0 (σ 94) 9999 h1 (by omega) (by omega) (by omega)
  obtain ⟨s, c1, c2, c3⟩ := wcopy (a := 44) (r0 := 31) (x := 6) (y := 9) (z := 6) (u := 9) σ (by omega)
  have hs : XF 44 s σ := fun q k _ _ hq => c2 q k (by omega)
  have hT : TXs s σ := TXs.keep (a := 44) ⟨rfl, fun _ _ => rfl, rfl, fun _ _ => rfl⟩ (by omega) hs
  obtain ⟨σ1, x1, x2, x3⟩ := ex 44 s 1000 (by omega) (by omega) (c3 _ _ h1 h3) hT
  refine ⟨D', _, e1, e3, ⟨s, σ1, c1, x1, x2, x3.trans hs⟩, fun σm hm => ?_⟩
  obtain ⟨s2, a1, a2, a3⟩ := mcopy (r0 := 94) (r1 := 95) (by omega) σm
  obtain ⟨σ2, m1, m2, m3⟩ := em 95 s2 1000 (Or.inr rfl) (by omega) (fun j hj => by rw [a3 j (by omega), hm]) (fun j _ => by rw [a2 _ _ (by omega), hm])
  refine ⟨σ2, ?_, m2, fun q k p1 p2 p3 => (m3 q k p1 p2 (by omega)).trans (a2 q k (by omega))⟩
  unfold f_X12_ahead f_X12_goesOn
  rw [a1, Option.bind_some]
  refine Eq.trans (congrArg (fun o => Option.bind o _) m1) ?_
  rw [Option.bind_some]
theorem isAhead_eq (p : Int32) (σ : Sg) : f_X12_isAhead p σ = some (if 0 ≤ p ∧ p ≤ 200 then 1 else 0) := by
  unfold f_X12_isAhead
  rw [isIn_eq]
  simp only [Option.bind_some]
  split <;> rfl
theorem eq_in {xs : Nat → Int32} {σ : Sg} (h : Inv xs σ) (p0 p1 : Int32) : Good xs (f_X11_in p0 p1 σ) (f_X12_in p0 p1) := by
  obtain ⟨w1, w2, w3, t1, t2, t3⟩ := h.base
  obtain ⟨h1, h2, h3, h4⟩ := h.1
  by_cases c0 : 0 ≤ p0 ∧ p0 ≤ 200
  · by_cases c1 : 0 ≤ p1 ∧ p1 < nI (wN (σ 94))
    · obtain ⟨n, hn, rfl⟩ := nI_getL (n := 200) (by decide) c0.1 c0.2
      obtain ⟨G, hG, gx, gd⟩ := gives_ex (τ := σ) (D := σ 94) h4.2.2.2.2.2.2.2.1 h4.2.2.2.2.2.2.2.2
      obtain ⟨D', M, hW, hq, ⟨s, σ1, a1, a2, a3, a4⟩, hm⟩ := ahead_eq h hG gx gd hn
      have e94 : σ1 94 = σ 94 := rows_eq (fun k => a4 94 k (by omega) (by omega) (by omega))
      obtain ⟨σ2, b1, b2, b3⟩ := hm σ1 e94
      have et : tN (σ2 95) = tN D' := tN_cong (b2 2 (by omega))
      refine ⟨bv D' 0 p1 (tN D'), σ1, σ2, ?_, ?_, ?_⟩
      · unfold f_X11_in
        rw [within_eq, Option.bind_some, bI_1 c0, has_n w1, Option.bind_some, bI_1 c1, a1, Option.bind_some, a2, Option.bind_some, bits_eq (a := 44) hW a3, Option.bind_some]
      · unfold f_X12_in
        rw [isAhead_eq, Option.bind_some, bI_1 c0, isWell_n (by rw [e94]; exact w2) (by omega), Option.bind_some, bI_1 c1, b1, Option.bind_some, thingsIn_eq (hW.cong (fun j hj => b2 j (by omega))), et, bv_cong 0 p1 _ hW.2.2.2.2.1 (fun j _ _ => b2 j (by omega)), Option.bind_some]
      · refine h.hands (fun r k x1 x2 x3 x4 x5 x6 x7 x8 x9 => ?_)
        rw [b3 r k x7 (by omega) x6, a4 r k x1 x2 (by omega)]
    · refine good_err h (k := 1) (by decide) ?_ (fun σ1 e => ?_)
      · unfold f_X11_in
        rw [within_eq, Option.bind_some, bI_1 c0, has_n w1, Option.bind_some, bI_0 c1]
        rfl
      · unfold f_X12_in
        rw [isAhead_eq, Option.bind_some, bI_1 c0, isWell_n (by rw [e 94 (by decide)]; exact w2) (by omega), Option.bind_some, bI_0 c1]
        rfl
  · refine good_err h (k := 1) (by decide) ?_ (fun σ1 e => ?_)
    · unfold f_X11_in
      rw [within_eq, Option.bind_some, bI_0 c0]
      rfl
    · unfold f_X12_in
      rw [isAhead_eq, Option.bind_some, bI_0 c0]
      rfl
theorem eq_then {xs : Nat → Int32} {σ : Sg} (h : Inv xs σ) (p0 p1 p2 : Int32) : Good xs (f_X11_then p0 p1 p2 σ) (f_X12_then p0 p1 p2) := by
  obtain ⟨w1, w2, w3, t1, t2, t3⟩ := h.base
  obtain ⟨h1, h2, h3, h4⟩ := h.1
  by_cases c0 : 0 ≤ p0 ∧ p0 ≤ 200
  · by_cases c1 : 0 ≤ p1 ∧ p1 < nI (tN (σ 94))
    · by_cases c2 : 0 ≤ p2 ∧ p2 ≤ 7
      · obtain ⟨n, hn, rfl⟩ := nI_getL (n := 200) (by decide) c0.1 c0.2
        obtain ⟨t, ht, rfl⟩ := nI_get (by omega) c1.1 c1.2
        obtain ⟨k, hk, rfl⟩ := nI_getL (n := 7) (by decide) c2.1 c2.2
        obtain ⟨G, hG, gx, gd⟩ := gives_ex (τ := σ) (D := σ 94) h4.2.2.2.2.2.2.2.1 h4.2.2.2.2.2.2.2.2
        obtain ⟨D', M, hW, hq, ⟨s, σ1, a1, a2, a3, a4⟩, hm⟩ := ahead_eq h hG gx gd hn
        have tn : tN D' = tN (σ 94) := tN_cong (hq 2 (by omega))
        obtain ⟨v, vx, vm⟩ := detail_eq hG gx gd hW (t := t) (k := k) (by omega) hk
        obtain ⟨f, hf⟩ := vx 44 σ1 a3 (TXs.keep (a := 44) ⟨rfl, fun _ _ => rfl, rfl, fun _ _ => rfl⟩ (by omega) a4)
        have e94 : mrow σ1 8 f 94 = σ 94 := by rw [mrow_ne (by omega)]; exact rows_eq (fun k => a4 94 k (by omega) (by omega) (by omega))
        obtain ⟨σ2, b1, b2, b3⟩ := hm (mrow σ1 8 f) e94
        obtain ⟨σ3, g1, g2⟩ := vm 95 σ2 b2 (fun j _ => by rw [b3 94 j (by omega) (by omega) (by omega), e94])
        refine ⟨v, mrow σ1 8 f, σ3, ?_, ?_, ?_⟩
        · unfold f_X11_then
          rw [within_eq, Option.bind_some, bI_1 c0, thas_n t1, Option.bind_some, bI_1 c1, isDetail_eq, Option.bind_some, bI_1 c2, a1, Option.bind_some, a2, Option.bind_some, hf, Option.bind_some]
        · unfold f_X12_then
          rw [isAhead_eq, Option.bind_some, bI_1 c0, isThing_n (by rw [e94]; exact t2) (by omega), Option.bind_some, bI_1 c1, isIn_eq, Option.bind_some, bI_1 c2, b1, Option.bind_some, g1, Option.bind_some]
        · refine h.hands (fun r k x1 x2 x3 x4 x5 x6 x7 x8 x9 => ?_)
          rw [g2 r k x7 (by omega), b3 r k x7 (by omega) x6, mrow_ne x1, a4 r k x1 x2 (by omega)]
      · refine good_err h (k := 1) (by decide) ?_ (fun σ1 e => ?_)
        · unfold f_X11_then
          rw [within_eq, Option.bind_some, bI_1 c0, thas_n t1, Option.bind_some, bI_1 c1, isDetail_eq, Option.bind_some, bI_0 c2]
          rfl
        · unfold f_X12_then
          rw [isAhead_eq, Option.bind_some, bI_1 c0, isThing_n (by rw [e 94 (by decide)]; exact t2) (by omega), Option.bind_some, bI_1 c1, isIn_eq, Option.bind_some, bI_0 c2]
          rfl
    · refine good_err h (k := 1) (by decide) ?_ (fun σ1 e => ?_)
      · unfold f_X11_then
        rw [within_eq, Option.bind_some, bI_1 c0, thas_n t1, Option.bind_some, bI_0 c1]
        rfl
      · unfold f_X12_then
        rw [isAhead_eq, Option.bind_some, bI_1 c0, isThing_n (by rw [e 94 (by decide)]; exact t2) (by omega), Option.bind_some, bI_0 c1]
        rfl
  · refine good_err h (k := 1) (by decide) ?_ (fun σ1 e => ?_)
    · unfold f_X11_then
      rw [within_eq, Option.bind_some, bI_0 c0]
      rfl
    · unfold f_X12_then
      rw [isAhead_eq, Option.bind_some, bI_0 c0]
      rfl
