theorem p0_of {p : Int32} (h : 1 ≤ p) : 0 ≤ p := by
  rw [ile] at *
  have e1 : (1 : Int32).toInt = 1 := rfl
  have e0 : (0 : Int32).toInt = 0 := rfl
  omega
theorem Sm_of {p : Int32} {lo hi : Nat} (hl : lo < 2 ^ 31) (hh : hi < 2 ^ 31) (h1 : nI lo ≤ p) (h2 : p ≤ nI hi) : Sm p lo hi := by
  have e1 := nI_toInt hl
  have e2 := nI_toInt hh
  rw [ile] at h1 h2
  refine ⟨p.toInt.toNat, by omega, by omega, ?_⟩
  rw [ieq, nI_toInt (by omega)]
  omega
theorem WOK.setw {D D' : Nat → Int32} {m w : Nat} (h : WOK D m) (hw : w < wN D) (e : ∀ j, j < 10 + 4 * w ∨ 10 + 4 * w + 4 ≤ j → D' j = D j) (hn : WellOK D' w) : WOK D' m := by
  obtain ⟨h1, h2, h3, h4, h5, h6, h7⟩ := h
  have w1 : wN D' = wN D := wN_cong (e 1 (by omega))
  have t1 : tN D' = tN D := tN_cong (e 2 (by omega))
  refine ⟨by rw [e 0 (by omega)]; exact h1, by rw [e 1 (by omega), w1]; exact h2, by omega, by rw [e 2 (by omega), t1]; exact h4, by omega, fun v hv => ?_, fun t ht => ?_⟩
  · by_cases z : v = w
    · subst z; exact hn
    · exact (h6 v (by omega)).cong (by omega) (fun j a b => e j (by omega))
  · exact (h7 t (by omega)).cong (by omega) (fun j a b => e j (by omega))
theorem WOK.sett {D D' : Nat → Int32} {m t : Nat} (h : WOK D m) (ht : t < tN D) (e : ∀ j, j < 46 + 6 * t ∨ 46 + 6 * t + 6 ≤ j → D' j = D j) (hn : ThingOK D' t) : WOK D' m := by
  obtain ⟨h1, h2, h3, h4, h5, h6, h7⟩ := h
  have w1 : wN D' = wN D := wN_cong (e 1 (by omega))
  have t1 : tN D' = tN D := tN_cong (e 2 (by omega))
  refine ⟨by rw [e 0 (by omega)]; exact h1, by rw [e 1 (by omega), w1]; exact h2, by omega, by rw [e 2 (by omega), t1]; exact h4, by omega, fun v hv => ?_, fun u hu => ?_⟩
  · exact (h6 v (by omega)).cong (by omega) (fun j a b => e j (by omega))
  · by_cases z : u = t
    · subst z; exact hn
    · exact (h7 u (by omega)).cong (by omega) (fun j a b => e j (by omega))
theorem RW.setw {σ σ' : Sg} {a w m : Nat} {D D' : Nat → Int32} (h : RW σ a D) (hW : WOK D m) (hw : w < wN D) (e : ∀ j, j < 10 + 4 * w ∨ 10 + 4 * w + 4 ≤ j → D' j = D j) (es : ∀ r k, a ≤ r → r ≤ a + 12 → ¬ (a + 2 ≤ r ∧ r ≤ a + 5 ∧ k = w) → σ' r k = σ r k) (n0 : σ' (a + 2) w = D' (10 + 4 * w)) (n1 : σ' (a + 3) w = D' (10 + 4 * w + 1)) (n2 : σ' (a + 4) w = D' (10 + 4 * w + 2)) (n3 : σ' (a + 5) w = D' (10 + 4 * w + 3)) : RW σ' a D' := by
  obtain ⟨h1, h2, h3, h4, h5⟩ := h
  have b1 := hW.2.2.1
  have b2 := hW.2.2.2.2.1
  have w1 : wN D' = wN D := wN_cong (e 1 (by omega))
  have t1 : tN D' = tN D := tN_cong (e 2 (by omega))
  refine ⟨by rw [es _ _ (by omega) (by omega) (by omega), e 0 (by omega)]; exact h1, by rw [es _ _ (by omega) (by omega) (by omega), e 1 (by omega)]; exact h2, by rw [es _ _ (by omega) (by omega) (by omega), e 2 (by omega)]; exact h3, fun v hv => ?_, fun t ht => ?_⟩
  · by_cases z : v = w
    · subst z; exact ⟨n0, n1, n2, n3⟩
    · rw [es _ _ (by omega) (by omega) (by omega), es _ _ (by omega) (by omega) (by omega), es _ _ (by omega) (by omega) (by omega), es _ _ (by omega) (by omega) (by omega), e _ (by omega), e _ (by omega), e _ (by omega), e _ (by omega)]
      exact h4 v (by omega)
  · rw [es _ _ (by omega) (by omega) (by omega), es _ _ (by omega) (by omega) (by omega), es _ _ (by omega) (by omega) (by omega), es _ _ (by omega) (by omega) (by omega), es _ _ (by omega) (by omega) (by omega), es _ _ (by omega) (by omega) (by omega), e _ (by omega), e _ (by omega), e _ (by omega), e _ (by omega), e _ (by omega), e _ (by omega)]
    exact h5 t (by omega)
theorem RW.sett {σ σ' : Sg} {a t m : Nat} {D D' : Nat → Int32} (h : RW σ a D) (hW : WOK D m) (ht : t < tN D) (e : ∀ j, j < 46 + 6 * t ∨ 46 + 6 * t + 6 ≤ j → D' j = D j) (es : ∀ r k, a ≤ r → r ≤ a + 12 → ¬ (a + 7 ≤ r ∧ k = t) → σ' r k = σ r k) (n0 : σ' (a + 7) t = D' (46 + 6 * t)) (n1 : σ' (a + 8) t = D' (46 + 6 * t + 1)) (n2 : σ' (a + 9) t = D' (46 + 6 * t + 2)) (n3 : σ' (a + 10) t = D' (46 + 6 * t + 3)) (n4 : σ' (a + 11) t = D' (46 + 6 * t + 4)) (n5 : σ' (a + 12) t = D' (46 + 6 * t + 5)) : RW σ' a D' := by
  obtain ⟨h1, h2, h3, h4, h5⟩ := h
  have b1 := hW.2.2.1
  have b2 := hW.2.2.2.2.1
  have w1 : wN D' = wN D := wN_cong (e 1 (by omega))
  have t1 : tN D' = tN D := tN_cong (e 2 (by omega))
  refine ⟨by rw [es _ _ (by omega) (by omega) (by omega), e 0 (by omega)]; exact h1, by rw [es _ _ (by omega) (by omega) (by omega), e 1 (by omega)]; exact h2, by rw [es _ _ (by omega) (by omega) (by omega), e 2 (by omega)]; exact h3, fun v hv => ?_, fun u hu => ?_⟩
  · rw [es _ _ (by omega) (by omega) (by omega), es _ _ (by omega) (by omega) (by omega), es _ _ (by omega) (by omega) (by omega), es _ _ (by omega) (by omega) (by omega), e _ (by omega), e _ (by omega), e _ (by omega), e _ (by omega)]
    exact h4 v (by omega)
  · by_cases z : u = t
    · subst z; exact ⟨n0, n1, n2, n3, n4, n5⟩
    · rw [es _ _ (by omega) (by omega) (by omega), es _ _ (by omega) (by omega) (by omega), es _ _ (by omega) (by omega) (by omega), es _ _ (by omega) (by omega) (by omega), es _ _ (by omega) (by omega) (by omega), es _ _ (by omega) (by omega) (by omega), e _ (by omega), e _ (by omega), e _ (by omega), e _ (by omega), e _ (by omega), e _ (by omega)]
      exact h5 u (by omega)
theorem mup_o {σ : Sg} {a j r k : Nat} {v : Int32} (h : r ≠ a ∨ k ≠ j) : mup σ a j v r k = σ r k := by
  rw [mup_eq, if_neg (by omega)]
theorem mup_s {σ : Sg} {a j : Nat} {v : Int32} : mup σ a j v a j = v := by
  rw [mup_eq, if_pos ⟨rfl, rfl⟩]
theorem eq_seed {xs : Nat → Int32} {σ : Sg} (h : Inv xs σ) (p : Int32) : Good xs (f_X11_seed p σ) (f_X12_seed p) := by
  obtain ⟨h1, h2, h3, h4⟩ := h.1
  have e4 : σ 1 5 = σ 94 4 := h4.1
  refine ⟨_, _, _, rfl, ?_, h.again (σ2 := mup (mup σ 1 5 p) 94 4 p) ?_ (fun r hr => ?_) ?_ ?_⟩
  · unfold f_X12_seed
    rw [mup_ne (by decide), e4]
  · rw [mup_at, mup_ne (show 94 ≠ 1 by decide)]
    refine ⟨h1.cong (fun j hj => updn (by omega)), h2.cong (fun j hj => updn (by omega)) (by rw [wN_cong (updn (by decide))]; exact Nat.le_refl _), (h3.frame (fun r _ _ => by rw [mup_ne (by omega), mup_ne (by omega)])).cong h1 (fun j hj => updn (by omega)), ?_⟩
    obtain ⟨r1, r2, r3, r4, r5, r6, r7, r8, r9⟩ := h4
    have g : ∀ r, r ≠ 1 → r ≠ 94 → mup (mup σ 1 5 p) 94 4 p r = σ r := fun r a b => by rw [mup_ne b, mup_ne a]
    refine ⟨by rw [mup_ne (by decide), mup_at, upds, upds], by rw [g _ (by omega) (by omega), updn (by decide)]; exact r2, fun f hf => ?_, by rw [g _ (by omega) (by omega), updn (by decide)]; exact r4, fun i hi => ?_, by rw [g _ (by omega) (by omega), updn (by decide)]; exact r6, fun i hi => ?_, (r8.frame (by rw [g _ (by omega) (by omega)]) (g _ (by omega) (by omega))).cong (by omega) (fun j hj => updn (by omega)), (r9.frame (by rw [g _ (by omega) (by omega)]) (g _ (by omega) (by omega))).cong (by omega) (fun j hj => updn (by omega))⟩
    · rw [g _ (by omega) (by omega), g _ (by omega) (by omega), g _ (by omega) (by omega), updn (by omega), updn (by omega), updn (by omega)]; exact r3 f hf
    · rw [g _ (by omega) (by omega), updn (by omega)]; exact r5 i hi
    · rw [g _ (by omega) (by omega), updn (by omega)]; exact r7 i hi
  · rw [mup_ne (by unfold Keep at hr; omega), mup_ne (by unfold Keep at hr; omega)]
  · rw [mup_ne (by decide), mup_ne (by decide)]
  · rw [mup_ne (by decide), mup_ne (by decide)]
theorem eq_told {xs : Nat → Int32} {σ : Sg} (h : Inv xs σ) (p : Int32) : Good xs (f_X11_told p σ) (f_X12_told p) := by
  by_cases c : 1 ≤ p ∧ p ≤ 5
  · obtain ⟨k, hk, rfl⟩ := nI_getL (n := 5) (by decide) (p0_of c.1) c.2
    refine ⟨σ 92 k, σ, σ, ?_, ?_, h⟩
    · unfold f_X11_told
      rw [within_eq]
      simp only [Option.bind_some]
      rw [bI_1 c, pick_at (by omega) (by omega)]
      rfl
    · unfold f_X12_told
      rw [isIn_eq]
      simp only [Option.bind_some]
      rw [bI_1 c, gdI (by omega) (by omega), clI (by omega), h.2.1 k (by omega)]
  · refine good_err h (k := 1) (by decide) ?_ (fun σ1 _ => ?_)
    · unfold f_X11_told
      rw [within_eq]
      simp only [Option.bind_some]
      rw [bI_0 c]
      rfl
    · unfold f_X12_told
      rw [isIn_eq]
      simp only [Option.bind_some]
      rw [bI_0 c]
      rfl
/-- of the start -/
theorem Inv.base {xs : Nat → Int32} {σ : Sg} (h : Inv xs σ) : σ 32 4 = nI (wN (σ 94)) ∧ σ 94 1 = nI (wN (σ 94)) ∧ wN (σ 94) ≤ 9 ∧ σ 37 6 = nI (tN (σ 94)) ∧ σ 94 2 = nI (tN (σ 94)) ∧ tN (σ 94) ≤ 10 := by
  obtain ⟨⟨h1, h2, h3, h4⟩, -⟩ := h
  obtain ⟨a1, a2, a3, a4, a5, a6, a7⟩ := h1
  obtain ⟨b1, b2, b3, b4, b5⟩ := h3
  exact ⟨b2.trans a2, a2, a3, b3.trans a4, a4, a5⟩
theorem eq_going {xs : Nat → Int32} {σ : Sg} (h : Inv xs σ) (p0 p1 p2 : Int32) : Good xs (f_X11_going p0 p1 p2 σ) (f_X12_going p0 p1 p2) := by
  obtain ⟨w1, w2, w3, t1, t2, t3⟩ := h.base
  by_cases c1 : 0 ≤ p0 ∧ p0 < nI (wN (σ 94))
  · by_cases c2 : (p1 = -1 ∨ (0 ≤ p1 ∧ p1 < nI (wN (σ 94)))) ∧ (1 ≤ p2 ∧ p2 ≤ 30)
    · obtain ⟨w, hw, rfl⟩ := nI_get (by omega) c1.1 c1.2
      have hrow := (h.1.2.2.1.2.2.2.1 w hw)
      have c3 : p1 = -1 ∨ ∃ j, j < wN (σ 94) ∧ p1 = nI j := by
        rcases c2.1 with z | z
        · exact Or.inl z
        · exact Or.inr (nI_get (by omega) z.1 z.2)
      obtain ⟨y, y1, y2, y3⟩ := Sm_of (lo := 1) (hi := 30) (by decide) (by decide) c2.2.1 c2.2.2
      refine ⟨σ 33 w, mup (mup σ 33 w p1) 34 w p2, mup (mup (mup (mup σ 33 w p1) 34 w p2) 94 (10 + 4 * w) p1) 94 (10 + 4 * w + 1) p2, ?_, ?_, ?_⟩
      · unfold f_X11_going
        rw [has_n w1, allows_n w1]
        simp only [Option.bind_some]
        rw [bI_1 c1, bI_1 c2, leadsTo_at w1 hw w3, lead_at (by omega)]
        rfl
      · unfold f_X12_going
        have e2 : (mup (mup σ 33 w p1) 34 w p2) 94 1 = nI (wN (σ 94)) := by rw [mup_o (by omega), mup_o (by omega)]; exact w2
        rw [isWell_n e2 (by omega), mayGo_n e2 (by omega)]
        simp only [Option.bind_some]
        rw [bI_1 c1, bI_1 c2]
        have e3 := itsWell_at (w := w) (c := 0) (σ := mup (mup σ 33 w p1) 34 w p2) (by omega) (by omega)
        rw [show nI 0 = 0 from rfl] at e3
        rw [e3, leads_at (by omega)]
        simp only [Option.bind_some]
        rw [mup_o (by omega), mup_o (by omega), hrow.1]
        rfl
      · refine h.again ?_ (fun r hr => ?_) ?_ ?_
        · obtain ⟨h1, h2, h3, h4⟩ := h.1
          have eD : ∀ j, j < 10 + 4 * w ∨ 10 + 4 * w + 4 ≤ j → mup (mup (mup (mup σ 33 w p1) 34 w p2) 94 (10 + 4 * w) p1) 94 (10 + 4 * w + 1) p2 94 j = σ 94 j := fun j hj => by
            rw [mup_o (by omega), mup_o (by omega), mup_o (by omega), mup_o (by omega)]
          have eR : ∀ r, r ≠ 33 → r ≠ 34 → r ≠ 94 → mup (mup (mup (mup σ 33 w p1) 34 w p2) 94 (10 + 4 * w) p1) 94 (10 + 4 * w + 1) p2 r = σ r := fun r a b c => by
            rw [mup_ne c, mup_ne c, mup_ne b, mup_ne a]
          have n0 : mup (mup (mup (mup σ 33 w p1) 34 w p2) 94 (10 + 4 * w) p1) 94 (10 + 4 * w + 1) p2 94 (10 + 4 * w) = p1 := by rw [mup_o (by omega), mup_s]
          have n1 : mup (mup (mup (mup σ 33 w p1) 34 w p2) 94 (10 + 4 * w) p1) 94 (10 + 4 * w + 1) p2 94 (10 + 4 * w + 1) = p2 := by rw [mup_s]
          have n2 : mup (mup (mup (mup σ 33 w p1) 34 w p2) 94 (10 + 4 * w) p1) 94 (10 + 4 * w + 1) p2 94 (10 + 4 * w + 2) = σ 94 (10 + 4 * w + 2) := by rw [mup_o (by omega), mup_o (by omega), mup_o (by omega), mup_o (by omega)]
          have n3 : mup (mup (mup (mup σ 33 w p1) 34 w p2) 94 (10 + 4 * w) p1) 94 (10 + 4 * w + 1) p2 94 (10 + 4 * w + 3) = σ 94 (10 + 4 * w + 3) := by rw [mup_o (by omega), mup_o (by omega), mup_o (by omega), mup_o (by omega)]
          have hwell := h1.2.2.2.2.2.1 w hw
          have wn : wN (mup (mup (mup (mup σ 33 w p1) 34 w p2) 94 (10 + 4 * w) p1) 94 (10 + 4 * w + 1) p2 94) = wN (σ 94) := wN_cong (eD 1 (by omega))
          refine ⟨h1.setw hw eD ⟨by rw [n0, wn]; exact c3, by rw [n1]; exact ⟨y, y1, y2, y3⟩, by rw [n2]; exact hwell.2.2.1, by rw [n3]; exact hwell.2.2.2⟩, h2.cong (fun j hj => eD j (by omega)) (by rw [wn]; exact Nat.le_refl _), ?_, (h4.frame (fun r _ _ _ _ => eR r (by omega) (by omega) (by omega))).cong h2 (fun j hj => eD j (by omega))⟩
          refine h3.setw h1 hw eD (fun r k a b c => ?_) ?_ ?_ ?_ ?_
          · rw [mup_o (by omega), mup_o (by omega), mup_o (by omega), mup_o (by omega)]
          · rw [n0, mup_o (by omega), mup_o (by omega), mup_o (by omega), mup_s]
          · rw [n1, mup_o (by omega), mup_o (by omega), mup_s]
          · rw [n2, mup_o (by omega), mup_o (by omega), mup_o (by omega), mup_o (by omega)]; exact hrow.2.2.1
          · rw [n3, mup_o (by omega), mup_o (by omega), mup_o (by omega), mup_o (by omega)]; exact hrow.2.2.2
        · unfold Keep at hr
          rw [mup_ne (by omega), mup_ne (by omega), mup_ne (by omega), mup_ne (by omega)]
        · rw [mup_o (by omega), mup_o (by omega), mup_o (by omega), mup_o (by omega)]
        · rw [mup_o (by omega), mup_o (by omega), mup_o (by omega), mup_o (by omega)]
    · refine good_err h (k := 1) (by decide) ?_ (fun σ1 e => ?_)
      · unfold f_X11_going
        rw [has_n w1, allows_n w1]
        simp only [Option.bind_some]
        rw [bI_1 c1, bI_0 c2]
        rfl
      · unfold f_X12_going
        have e2 : σ1 94 1 = nI (wN (σ 94)) := by rw [e 94 (by decide)]; exact w2
        rw [isWell_n e2 (by omega), mayGo_n e2 (by omega)]
        simp only [Option.bind_some]
        rw [bI_1 c1, bI_0 c2]
        rfl
  · refine good_err h (k := 1) (by decide) ?_ (fun σ1 e => ?_)
    · unfold f_X11_going
      rw [has_n w1]
      simp only [Option.bind_some]
      rw [bI_0 c1]
      rfl
    · unfold f_X12_going
      have e2 : σ1 94 1 = nI (wN (σ 94)) := by rw [e 94 (by decide)]; exact w2
      rw [isWell_n e2 (by omega)]
      simp only [Option.bind_some]
      rw [bI_0 c1]
      rfl
