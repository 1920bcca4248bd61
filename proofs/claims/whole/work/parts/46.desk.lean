theorem Inv.desk {xs : Nat → Int32} {σ σ2 : Sg} (h : Inv xs σ) (eT : ∀ j, j ≤ 2 ∨ (10 ≤ j ∧ j < 106) → σ2 94 j = σ 94 j) (eR : ∀ r, (r = 0 ∨ 15 < r) → r ≠ 94 → σ2 r = σ r) (hD : DOK (σ2 94)) (hR : RD σ2 1 (σ2 94)) : Inv xs σ2 := by
  obtain ⟨h1, h2, h3, h4⟩ := h.1
  exact h.again ⟨h1.cong eT, hD, (h3.frame (fun r _ _ => eR r (by omega) (by omega))).cong h1 eT, hR⟩ (fun r hr => eR r (by unfold Keep at hr; omega) (by unfold Keep at hr; omega)) (by rw [eR 93 (by omega) (by omega)]) (by rw [eR 93 (by omega) (by omega)])
/-- the texts stay -/
theorem RD.texts {σ σ2 : Sg} {b : Nat} {D D2 : Nat → Int32} (h : RD σ b D) (e0 : ∀ j, j = 142 ∨ j = 143 ∨ (164 ≤ j ∧ j < 264) → D2 j = D j) (e1 : ∀ k, σ2 (b + 5) k = σ (b + 5) k) (e2 : ∀ k, σ2 (b + 6) k = σ (b + 6) k) (e3 : ∀ k, σ2 (b + 8) k = σ (b + 8) k) (e4 : ∀ k, σ2 (b + 9) k = σ (b + 9) k) : TR σ2 (b + 5) D2 0 ∧ TR σ2 (b + 8) D2 1 :=
  ⟨(h.2.2.2.2.2.2.2.1.frame (e1 2) (rows_eq e2)).cong (by omega) (fun j hj => e0 j (by omega)), (h.2.2.2.2.2.2.2.2.frame (e3 2) (rows_eq e4)).cong (by omega) (fun j hj => e0 j (by omega))⟩
theorem Inv.dk {xs : Nat → Int32} {σ : Sg} (h : Inv xs σ) : (σ 2 3 = nI (fN (σ 94)) ∧ σ 94 3 = nI (fN (σ 94)) ∧ fN (σ 94) ≤ 12) ∧ (σ 12 1 = nI (pN (σ 94)) ∧ σ 94 5 = nI (pN (σ 94)) ∧ pN (σ 94) ≤ 50) ∧ (σ 14 1 = nI (aN (σ 94)) ∧ σ 94 6 = nI (aN (σ 94)) ∧ aN (σ 94) ≤ 20) := by
  obtain ⟨⟨h1, h2, h3, h4⟩, -⟩ := h
  obtain ⟨a1, a2, a3, a4, a5, a6, a7, a8⟩ := h2
  obtain ⟨b1, b2, b3, b4, b5, b6, b7, b8⟩ := h4
  exact ⟨⟨b2.trans a1, a1, a2⟩, ⟨b4.trans a4, a4, a5⟩, ⟨b6.trans a7, a7, a8⟩⟩
theorem eq_forget {xs : Nat → Int32} {σ : Sg} (h : Inv xs σ) : Good xs (f_X11_forget σ) f_X12_forget := by
  obtain ⟨h1, h2, h3, h4⟩ := h.1
  obtain ⟨⟨f1, f2, f3⟩, ⟨p1, p2, p3⟩, ⟨a1, a2, a3⟩⟩ := h.dk
  refine ⟨σ 2 3, mup σ 2 3 0, mup (mup σ 2 3 0) 94 3 0, rfl, ?_, ?_⟩
  · unfold f_X12_forget
    rw [mup_o (by omega), f1, f2]
  · have eF : fN (mup (mup σ 2 3 0) 94 3 0 94) = 0 := fN_of (n := 0) (by simp (disch := omega) only [mup_s]; rfl) (by omega)
    have eP : pN (mup (mup σ 2 3 0) 94 3 0 94) = pN (σ 94) := by unfold pN; simp (disch := omega) only [mup_o]
    have eA : aN (mup (mup σ 2 3 0) 94 3 0 94) = aN (σ 94) := by unfold aN; simp (disch := omega) only [mup_o]
    refine h.desk (fun j hj => by simp (disch := omega) only [mup_o]) (fun r a b => by rw [mup_ne b, mup_ne (by omega)]) ?_ ?_
    · obtain ⟨b1, b2, b3, b4, b5, b6, b7, b8⟩ := h2
      refine ⟨by rw [eF]; simp (disch := omega) only [mup_s]; rfl, by omega, fun f hf => by omega, by rw [eP]; simp (disch := omega) only [mup_o]; exact b4, by omega, fun i hi => by simp (disch := omega) only [mup_o]; exact b6 i (by omega), by rw [eA]; simp (disch := omega) only [mup_o]; exact b7, by omega⟩
    · obtain ⟨r1, r2, r3, r4, r5, r6, r7, r8⟩ := id h4
      refine ⟨by simp (disch := omega) only [mup_o]; exact r1, by simp (disch := omega) only [mup_o, mup_s], fun f hf => by omega, by simp (disch := omega) only [mup_o]; exact r4, fun i hi => by simp (disch := omega) only [mup_o]; exact r5 i (by omega), by simp (disch := omega) only [mup_o]; exact r6, fun i hi => by simp (disch := omega) only [mup_o]; exact r7 i (by omega), h4.texts (fun j hj => by simp (disch := omega) only [mup_o]) (fun k => by simp (disch := omega) only [mup_o]) (fun k => by simp (disch := omega) only [mup_o]) (fun k => by simp (disch := omega) only [mup_o]) (fun k => by simp (disch := omega) only [mup_o])⟩
theorem eq_tell {xs : Nat → Int32} {σ : Sg} (h : Inv xs σ) (p : Int32) : Good xs (f_X11_tell p σ) (f_X12_tell p) := by
  obtain ⟨h1, h2, h3, h4⟩ := h.1
  obtain ⟨⟨f1, f2, f3⟩, ⟨p1, p2, p3⟩, ⟨a1, a2, a3⟩⟩ := h.dk
  generalize hn : aN (σ 94) = n at a1 a2 a3
  by_cases c : n < 20
  · refine ⟨nI (n + 1), mup (mup σ 15 n p) 14 1 (nI (n + 1)), mup (mup (mup (mup σ 15 n p) 14 1 (nI (n + 1))) 94 (144 + n) p) 94 6 (nI (n + 1)), ?_, ?_, ?_⟩
    · unfold f_X11_tell f_X4_append
      rw [if_pos (by rw [a1]; exact nI_lt c (by decide)), a1, lay_at (by omega) (by omega)]
      simp (disch := omega) only [Option.bind_some, mup_o, mup_s]
      rw [a1, nIp1]
    · unfold f_X12_tell
      have e9 : mup (mup σ 15 n p) 14 1 (nI (n + 1)) 94 6 = nI n := by simp (disch := omega) only [mup_o]; exact a2
      rw [e9, if_neg (by rw [show (20 : Int32) = nI 20 from rfl, nI_eq (by omega) (by decide)]; omega), ixA, gdI (by omega) (by omega), clI (by omega)]
      simp (disch := omega) only [mup_o, mup_s]
      rw [a2, nIp1]
    · generalize hs : mup (mup (mup (mup σ 15 n p) 14 1 (nI (n + 1))) 94 (144 + n) p) 94 6 (nI (n + 1)) = σ2
      have e : ∀ r k, (r ≠ 15 ∨ k ≠ n) → (r ≠ 14 ∨ k ≠ 1) → (r ≠ 94 ∨ (k ≠ 144 + n ∧ k ≠ 6)) → σ2 r k = σ r k := fun r k a b c => by
        rw [← hs]; simp (disch := omega) only [mup_o]
      have v1 : σ2 94 6 = nI (n + 1) := by rw [← hs, mup_s]
      have v2 : σ2 94 (144 + n) = p := by rw [← hs]; simp (disch := omega) only [mup_o, mup_s]
      have v3 : σ2 14 1 = nI (n + 1) := by rw [← hs]; simp (disch := omega) only [mup_o, mup_s]
      have v4 : σ2 15 n = p := by rw [← hs]; simp (disch := omega) only [mup_o, mup_s]
      have eF : fN (σ2 94) = fN (σ 94) := by unfold fN; rw [e 94 3 (by omega) (by omega) (by omega)]
      have eP : pN (σ2 94) = pN (σ 94) := by unfold pN; rw [e 94 5 (by omega) (by omega) (by omega)]
      have eA : aN (σ2 94) = n + 1 := aN_of v1 (by omega)
      have eW : wN (σ2 94) = wN (σ 94) := wN_cong (e 94 1 (by omega) (by omega) (by omega))
      refine h.desk (fun j hj => e 94 j (by omega) (by omega) (by omega)) (fun r a b => rows_eq (fun k => e r k (by omega) (by omega) (by omega))) ?_ ?_
      · obtain ⟨b1, b2, b3, b4, b5, b6, b7, b8⟩ := h2
        refine ⟨by rw [eF, e _ _ (by omega) (by omega) (by omega)]; exact b1, by omega, fun f hf => ?_, by rw [eP, e _ _ (by omega) (by omega) (by omega)]; exact b4, by omega, fun i hi => by rw [e _ _ (by omega) (by omega) (by omega)]; exact b6 i (by omega), by rw [eA, v1], by omega⟩
        rw [eW, e 94 _ (by omega) (by omega) (by omega), e 94 _ (by omega) (by omega) (by omega), e 94 _ (by omega) (by omega) (by omega)]
        exact b3 f (by omega)
      · obtain ⟨r1, r2, r3, r4, r5, r6, r7, r8⟩ := id h4
        refine ⟨by rw [e _ _ (by omega) (by omega) (by omega), e _ _ (by omega) (by omega) (by omega)]; exact r1, by rw [e _ _ (by omega) (by omega) (by omega), e _ _ (by omega) (by omega) (by omega)]; exact r2, fun f hf => ?_, by rw [e _ _ (by omega) (by omega) (by omega), e _ _ (by omega) (by omega) (by omega)]; exact r4, fun i hi => ?_, by rw [v1]; exact v3, fun i hi => ?_, h4.texts (fun j hj => e _ _ (by omega) (by omega) (by omega)) (fun k => e _ _ (by omega) (by omega) (by omega)) (fun k => e _ _ (by omega) (by omega) (by omega)) (fun k => e _ _ (by omega) (by omega) (by omega)) (fun k => e _ _ (by omega) (by omega) (by omega))⟩
        · simp (disch := omega) only [e]; exact r3 f (by omega)
        · simp (disch := omega) only [e]; exact r5 i (by omega)
        · by_cases z : i = n
          · subst z; rw [v2]; exact v4
          · simp (disch := omega) only [e]; exact r7 i (by omega)
  · have hn20 : n = 20 := by omega
    refine good_err h (k := 4) (by decide) ?_ (fun σ1 e => ?_)
    · unfold f_X11_tell
      rw [a1, hn20, if_neg (by decide)]
      rfl
    · unfold f_X12_tell
      rw [e 94 (by decide), a2, hn20, if_pos (show nI 20 = 20 from rfl)]
      rfl
theorem eq_find {xs : Nat → Int32} {σ : Sg} (h : Inv xs σ) (p0 p1 p2 : Int32) : Good xs (f_X11_find p0 p1 p2 σ) (f_X12_find p0 p1 p2) := by
  obtain ⟨h1, h2, h3, h4⟩ := h.1
  obtain ⟨w1, w2, w3, t1, t2, t3⟩ := h.base
  obtain ⟨⟨f1, f2, f3⟩, -, -⟩ := h.dk
  generalize hn : fN (σ 94) = n at f1 f2 f3
  by_cases c0 : 0 ≤ p0 ∧ p0 < nI (wN (σ 94))
  · by_cases c1 : 0 ≤ p1 ∧ p1 < nI (wN (σ 94))
    · by_cases c2 : 1 ≤ p2 ∧ p2 ≤ 99
      · by_cases c : n < 12
        · have i0 := ixF0 n
          have i1 := ixF n 1
          have i2 := ixF n 2
          rw [show nI 1 = 1 from rfl] at i1
          rw [show nI 2 = 2 from rfl] at i2
          refine ⟨nI n, mup (mup (mup (mup σ 2 3 (nI (n + 1))) 3 n p0) 4 n p1) 5 n p2, mup (mup (mup (mup (mup (mup (mup (mup σ 2 3 (nI (n + 1))) 3 n p0) 4 n p1) 5 n p2) 94 (106 + 3 * n) p0) 94 (106 + 3 * n + 1) p1) 94 (106 + 3 * n + 2) p2) 94 3 (nI (n + 1)), ?_, ?_, ?_⟩
          · unfold f_X11_find f_X2_append
            rw [has_n w1, has_n w1, within_eq]
            simp only [Option.bind_some]
            rw [bI_1 c0, bI_1 c1, bI_1 c2, if_pos (by rw [f1]; exact nI_lt c (by decide)), f1, nIp1, lay_at (by omega) (by omega)]
            simp only [Option.bind_some]
            rw [lay_at (by omega) (by omega)]
            simp only [Option.bind_some]
            rw [lay_at (by omega) (by omega)]
            rfl
          · unfold f_X12_find
            have e9 : mup (mup (mup (mup σ 2 3 (nI (n + 1))) 3 n p0) 4 n p1) 5 n p2 94 3 = nI n := by simp (disch := omega) only [mup_o]; exact f2
            have e8 : mup (mup (mup (mup σ 2 3 (nI (n + 1))) 3 n p0) 4 n p1) 5 n p2 94 1 = nI (wN (σ 94)) := by simp (disch := omega) only [mup_o]; exact w2
            rw [isWell_n e8 (by omega), isWell_n e8 (by omega), isIn_eq]
            simp only [Option.bind_some]
            rw [bI_1 c0, bI_1 c1, bI_1 c2, e9, if_neg (by rw [show (12 : Int32) = nI 12 from rfl, nI_eq (by omega) (by decide)]; omega), i0] at *
            rw [← i0] at i1 i2
            rw [i0] at i1 i2
            rw [i1, i2]
            simp (disch := omega) only [gdI]
            simp (disch := omega) only [clI, mup_o, mup_s]
            rw [f2, nIp1, nIm1]
          · generalize hs : mup (mup (mup (mup (mup (mup (mup (mup σ 2 3 (nI (n + 1))) 3 n p0) 4 n p1) 5 n p2) 94 (106 + 3 * n) p0) 94 (106 + 3 * n + 1) p1) 94 (106 + 3 * n + 2) p2) 94 3 (nI (n + 1)) = σ2
            have e : ∀ r k, (r < 3 ∨ 5 < r ∨ k ≠ n) → (r ≠ 2 ∨ k ≠ 3) → (r ≠ 94 ∨ (k ≠ 3 ∧ (k < 106 + 3 * n ∨ 106 + 3 * n + 3 ≤ k))) → σ2 r k = σ r k := fun r k a b c => by
              rw [← hs]; simp (disch := omega) only [mup_o]
            have v1 : σ2 94 3 = nI (n + 1) := by rw [← hs, mup_s]
            have v2 : σ2 94 (106 + 3 * n) = p0 := by rw [← hs]; simp (disch := omega) only [mup_o, mup_s]
            have v3 : σ2 94 (106 + 3 * n + 1) = p1 := by rw [← hs]; simp (disch := omega) only [mup_o, mup_s]
            have v4 : σ2 94 (106 + 3 * n + 2) = p2 := by rw [← hs]; simp (disch := omega) only [mup_o, mup_s]
            have u1 : σ2 2 3 = nI (n + 1) := by rw [← hs]; simp (disch := omega) only [mup_o, mup_s]
            have u2 : σ2 3 n = p0 := by rw [← hs]; simp (disch := omega) only [mup_o, mup_s]
            have u3 : σ2 4 n = p1 := by rw [← hs]; simp (disch := omega) only [mup_o, mup_s]
            have u4 : σ2 5 n = p2 := by rw [← hs]; simp (disch := omega) only [mup_o, mup_s]
            have eF : fN (σ2 94) = n + 1 := fN_of v1 (by omega)
            have eP : pN (σ2 94) = pN (σ 94) := by unfold pN; rw [e 94 5 (by omega) (by omega) (by omega)]
            have eA : aN (σ2 94) = aN (σ 94) := by unfold aN; rw [e 94 6 (by omega) (by omega) (by omega)]
            have eW : wN (σ2 94) = wN (σ 94) := wN_cong (e 94 1 (by omega) (by omega) (by omega))
            refine h.desk (fun j hj => e 94 j (by omega) (by omega) (by omega)) (fun r a b => rows_eq (fun k => e r k (by omega) (by omega) (by omega))) ?_ ?_
            · obtain ⟨b1, b2, b3, b4, b5, b6, b7, b8⟩ := h2
              refine ⟨by rw [eF, v1], by omega, fun f hf => ?_, by rw [eP, e _ _ (by omega) (by omega) (by omega)]; exact b4, by omega, fun i hi => by rw [e _ _ (by omega) (by omega) (by omega)]; exact b6 i (by omega), by rw [eA, e _ _ (by omega) (by omega) (by omega)]; exact b7, by omega⟩
              rw [eW]
              by_cases z : f = n
              · subst z
                rw [v2, v3, v4]
                exact ⟨nI_get (by omega) c0.1 c0.2, nI_get (by omega) c1.1 c1.2, Sm_of (lo := 1) (hi := 99) (by decide) (by decide) c2.1 c2.2⟩
              · simp (disch := omega) only [e]
                exact b3 f (by omega)
            · obtain ⟨r1, r2, r3, r4, r5, r6, r7, r8⟩ := id h4
              refine ⟨by rw [e _ _ (by omega) (by omega) (by omega), e _ _ (by omega) (by omega) (by omega)]; exact r1, by rw [v1]; exact u1, fun f hf => ?_, by rw [e _ _ (by omega) (by omega) (by omega), e _ _ (by omega) (by omega) (by omega)]; exact r4, fun i hi => ?_, by rw [e _ _ (by omega) (by omega) (by omega), e _ _ (by omega) (by omega) (by omega)]; exact r6, fun i hi => ?_, h4.texts (fun j hj => e _ _ (by omega) (by omega) (by omega)) (fun k => e _ _ (by omega) (by omega) (by omega)) (fun k => e _ _ (by omega) (by omega) (by omega)) (fun k => e _ _ (by omega) (by omega) (by omega)) (fun k => e _ _ (by omega) (by omega) (by omega))⟩
              · by_cases z : f = n
                · subst z; rw [v2, v3, v4]; exact ⟨u2, u3, u4⟩
                · simp (disch := omega) only [e]; exact r3 f (by omega)
              · simp (disch := omega) only [e]; exact r5 i (by omega)
              · simp (disch := omega) only [e]; exact r7 i (by omega)
        · have hn12 : n = 12 := by omega
          refine good_err h (k := 4) (by decide) ?_ (fun σ1 e => ?_)
          · unfold f_X11_find
            rw [has_n w1, has_n w1, within_eq]
            simp only [Option.bind_some]
            rw [bI_1 c0, bI_1 c1, bI_1 c2, f1, hn12, if_neg (by decide)]
            rfl
          · unfold f_X12_find
            have e8 : σ1 94 1 = nI (wN (σ 94)) := by rw [e 94 (by decide)]; exact w2
            rw [isWell_n e8 (by omega), isWell_n e8 (by omega), isIn_eq]
            simp only [Option.bind_some]
            rw [bI_1 c0, bI_1 c1, bI_1 c2, e 94 (by decide), f2, hn12, if_pos (show nI 12 = 12 from rfl)]
            rfl
      · refine good_err h (k := 1) (by decide) ?_ (fun σ1 e => ?_)
        · unfold f_X11_find
          rw [has_n w1, has_n w1, within_eq]
          simp only [Option.bind_some]
          rw [bI_1 c0, bI_1 c1, bI_0 c2]
          rfl
        · unfold f_X12_find
          have e8 : σ1 94 1 = nI (wN (σ 94)) := by rw [e 94 (by decide)]; exact w2
          rw [isWell_n e8 (by omega), isWell_n e8 (by omega), isIn_eq]
          simp only [Option.bind_some]
          rw [bI_1 c0, bI_1 c1, bI_0 c2]
          rfl
    · refine good_err h (k := 1) (by decide) ?_ (fun σ1 e => ?_)
      · unfold f_X11_find
        rw [has_n w1, has_n w1]
        simp only [Option.bind_some]
        rw [bI_1 c0, bI_0 c1]
        rfl
      · unfold f_X12_find
        have e8 : σ1 94 1 = nI (wN (σ 94)) := by rw [e 94 (by decide)]; exact w2
        rw [isWell_n e8 (by omega), isWell_n e8 (by omega)]
        simp only [Option.bind_some]
        rw [bI_1 c0, bI_0 c1]
        rfl
  · refine good_err h (k := 1) (by decide) ?_ (fun σ1 e => ?_)
    · unfold f_X11_find
      rw [has_n w1]
      simp only [Option.bind_some]
      rw [bI_0 c0]
      rfl
    · unfold f_X12_find
      have e8 : σ1 94 1 = nI (wN (σ 94)) := by rw [e 94 (by decide)]; exact w2
      rw [isWell_n e8 (by omega)]
      simp only [Option.bind_some]
      rw [bI_0 c0]
      rfl
