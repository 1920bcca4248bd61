theorem eq_seen {xs : Nat → Int32} {σ : Sg} (h : Inv xs σ) (p0 p1 p2 : Int32) : Good xs (f_X11_seen p0 p1 p2 σ) (f_X12_seen p0 p1 p2) := by
  obtain ⟨w1, w2, w3, t1, t2, t3⟩ := h.base
  obtain ⟨h1, h2, h3, h4⟩ := h.1
  by_cases c0 : 1 ≤ p0 ∧ p0 ≤ 200
  · by_cases c1 : 0 ≤ p1 ∧ p1 < nI (tN (σ 94))
    · by_cases c2 : 0 ≤ p2 ∧ p2 < nI (wN (σ 94))
      · obtain ⟨n, n1, hn, rfl⟩ := Sm_of (lo := 1) (hi := 200) (by decide) (by decide) c0.1 c0.2
        obtain ⟨t, ht, rfl⟩ := nI_get (by omega) c1.1 c1.2
        obtain ⟨G, hG, gx, gd⟩ := gives_ex (τ := σ) (D := σ 94) h4.2.2.2.2.2.2.2.1 h4.2.2.2.2.2.2.2.2
        obtain ⟨s, k1, k2, k3⟩ := wcopy (a := 44) (r0 := 31) (x := 6) (y := 9) (z := 6) (u := 9) σ (by omega)
        have hs : XF 44 s σ := fun q k _ _ hq => k2 q k (by omega)
        have hT : TXs s σ := TXs.keep (a := 44) ⟨rfl, fun _ _ => rfl, rfl, fun _ _ => rfl⟩ (by omega) hs
        have hX : f_X11_seen (nI n) (nI t) p2 σ = c_X11_seen_59 1000 (nI n) (nI t) p2 (nI 1) s := by
          unfold f_X11_seen
          rw [within_eq, Option.bind_some, bI_1 c0, thas_n t1, Option.bind_some, bI_1 c1, has_n w1, Option.bind_some, bI_1 c2, k1, Option.bind_some]
          rfl
        have hM : ∀ σ1 : Sg, σ1 94 = σ 94 → ∃ s2, f_X12_seen (nI n) (nI t) p2 σ1 = c_X12_seen_48 1000 (nI n) (nI t) p2 (nI 1) s2 ∧ Row s2 95 (σ 94) ∧ TDs s2 (σ 94) ∧ HF s2 σ1 := fun σ1 e => by
          obtain ⟨s2, a1, a2, a3⟩ := mcopy (r0 := 94) (r1 := 95) (by omega) σ1
          refine ⟨s2, ?_, fun j hj => by rw [a3 j (by omega), e], fun j _ => by rw [a2 _ _ (by omega), e], fun q k _ _ x => a2 q k (Or.inl x)⟩
          unfold f_X12_seen
          rw [isIn_eq, Option.bind_some, bI_1 c0, isThing_n (by rw [e]; exact t2) (by omega), Option.bind_some, bI_1 c1, isWell_n (by rw [e]; exact w2) (by omega), Option.bind_some, bI_1 c2, a1, Option.bind_some]
          rfl
        rcases seen_go (n := n) (t := t) (p := p2) hG gx gd hn n 1 (σ 94) 9999 h1 (by omega) (by omega) (by omega) ht with ⟨v, vx, vm⟩ | ⟨vx, vm⟩
        · obtain ⟨σ1, b1, b2⟩ := vx s 1000 (by omega) (k3 _ _ h1 h3) hT
          have x3 := b2.trans hs
          obtain ⟨s2, m1, m2, m3, m4⟩ := hM σ1 (rows_eq (fun k => x3 94 k (by omega) (by omega) (by omega)))
          obtain ⟨σ2, g1, g2⟩ := vm s2 1000 (by omega) m2 m3
          refine ⟨v, σ1, σ2, hX.trans b1, m1.trans g1, h.hands (fun r k y1 y2 y3 y4 y5 y6 y7 y8 y9 => ?_)⟩
          rw [g2 r k y7 (by omega) y6, m4 r k y7 (by omega) y6, x3 r k y1 y2 (by omega)]
        · obtain ⟨σa, b1, b2⟩ := vx s 1000 (by omega) (k3 _ _ h1 h3) hT
          have x3 := b2.trans hs
          have ha : Inv xs σa := h.hands (fun r k y1 y2 y3 y4 y5 y6 y7 y8 y9 => x3 r k y1 y2 (by omega))
          refine good_err2 ha (k := 2) (by decide) (hX.trans b1) (fun σ1 e => ?_)
          obtain ⟨s2, m1, m2, m3, m4⟩ := hM σ1 (by rw [e 94 (by decide)]; exact rows_eq (fun k => x3 94 k (by omega) (by omega) (by omega)))
          obtain ⟨σb, g1, g2⟩ := vm s2 1000 (by omega) m2 m3
          exact ⟨σb, m1.trans g1, fun q j x y z => (g2 q j x y z).trans (m4 q j x y z)⟩
      · refine good_err h (k := 1) (by decide) ?_ (fun σ1 e => ?_)
        · unfold f_X11_seen
          rw [within_eq, Option.bind_some, bI_1 c0, thas_n t1, Option.bind_some, bI_1 c1, has_n w1, Option.bind_some, bI_0 c2]
          rfl
        · unfold f_X12_seen
          rw [isIn_eq, Option.bind_some, bI_1 c0, isThing_n (by rw [e 94 (by decide)]; exact t2) (by omega), Option.bind_some, bI_1 c1, isWell_n (by rw [e 94 (by decide)]; exact w2) (by omega), Option.bind_some, bI_0 c2]
          rfl
    · refine good_err h (k := 1) (by decide) ?_ (fun σ1 e => ?_)
      · unfold f_X11_seen
        rw [within_eq, Option.bind_some, bI_1 c0, thas_n t1, Option.bind_some, bI_0 c1]
        rfl
      · unfold f_X12_seen
        rw [isIn_eq, Option.bind_some, bI_1 c0, isThing_n (by rw [e 94 (by decide)]; exact t2) (by omega), Option.bind_some, bI_0 c1]
        rfl
  · refine good_err h (k := 1) (by decide) ?_ (fun σ1 e => ?_)
    · unfold f_X11_seen
      rw [within_eq, Option.bind_some, bI_0 c0]
      rfl
    · unfold f_X12_seen
      rw [isIn_eq, Option.bind_some, bI_0 c0]
      rfl
