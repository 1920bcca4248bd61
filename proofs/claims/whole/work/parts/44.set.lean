theorem rows_eq {σ σ2 : Sg} {r : Nat} (h : ∀ k, σ2 r k = σ r k) : σ2 r = σ r := funext h
theorem Inv.setw {xs : Nat → Int32} {σ σ2 : Sg} {w : Nat} (h : Inv xs σ) (hw : w < wN (σ 94)) (e : ∀ r k, (r < 33 ∨ 36 < r ∨ k ≠ w) → (r ≠ 94 ∨ k < 10 + 4 * w ∨ 10 + 4 * w + 4 ≤ k) → σ2 r k = σ r k) (n0 : σ2 33 w = σ2 94 (10 + 4 * w)) (n1 : σ2 34 w = σ2 94 (10 + 4 * w + 1)) (n2 : σ2 35 w = σ2 94 (10 + 4 * w + 2)) (n3 : σ2 36 w = σ2 94 (10 + 4 * w + 3)) (ok : WellOK (σ2 94) w) : Inv xs σ2 := by
  obtain ⟨h1, h2, h3, h4⟩ := h.1
  have b1 := h1.2.2.1
  have eD : ∀ j, j < 10 + 4 * w ∨ 10 + 4 * w + 4 ≤ j → σ2 94 j = σ 94 j := fun j hj => e 94 j (by omega) (by omega)
  have eR : ∀ r, r < 33 ∨ 36 < r → r ≠ 94 → σ2 r = σ r := fun r a b => rows_eq (fun k => e r k (by omega) (by omega))
  have wn : wN (σ2 94) = wN (σ 94) := wN_cong (eD 1 (by omega))
  refine h.again ⟨h1.setw hw eD ok, h2.cong (fun j hj => eD j (by omega)) (by omega), h3.setw h1 hw eD (fun r k a b c => e r k (by omega) (by omega)) n0 n1 n2 n3, (h4.frame (fun r _ _ _ _ => eR r (by omega) (by omega))).cong h2 (fun j hj => eD j (by omega))⟩ (fun r hr => eR r (by unfold Keep at hr; omega) (by unfold Keep at hr; omega)) (by rw [eR 93 (by omega) (by omega)]) (by rw [eR 93 (by omega) (by omega)])
theorem Inv.sett {xs : Nat → Int32} {σ σ2 : Sg} {t : Nat} (h : Inv xs σ) (ht : t < tN (σ 94)) (e : ∀ r k, (r < 38 ∨ 43 < r ∨ k ≠ t) → (r ≠ 94 ∨ k < 46 + 6 * t ∨ 46 + 6 * t + 6 ≤ k) → σ2 r k = σ r k) (n0 : σ2 38 t = σ2 94 (46 + 6 * t)) (n1 : σ2 39 t = σ2 94 (46 + 6 * t + 1)) (n2 : σ2 40 t = σ2 94 (46 + 6 * t + 2)) (n3 : σ2 41 t = σ2 94 (46 + 6 * t + 3)) (n4 : σ2 42 t = σ2 94 (46 + 6 * t + 4)) (n5 : σ2 43 t = σ2 94 (46 + 6 * t + 5)) (ok : ThingOK (σ2 94) t) : Inv xs σ2 := by
  obtain ⟨h1, h2, h3, h4⟩ := h.1
  have b1 := h1.2.2.2.2.1
  have eD : ∀ j, j < 46 + 6 * t ∨ 46 + 6 * t + 6 ≤ j → σ2 94 j = σ 94 j := fun j hj => e 94 j (by omega) (by omega)
  have eR : ∀ r, r < 38 ∨ 43 < r → r ≠ 94 → σ2 r = σ r := fun r a b => rows_eq (fun k => e r k (by omega) (by omega))
  have wn : wN (σ2 94) = wN (σ 94) := wN_cong (eD 1 (by omega))
  refine h.again ⟨h1.sett ht eD ok, h2.cong (fun j hj => eD j (by omega)) (by omega), h3.sett h1 ht eD (fun r k a b c => e r k (by omega) (by omega)) n0 n1 n2 n3 n4 n5, (h4.frame (fun r _ _ _ _ => eR r (by omega) (by omega))).cong h2 (fun j hj => eD j (by omega))⟩ (fun r hr => eR r (by unfold Keep at hr; omega) (by unfold Keep at hr; omega)) (by rw [eR 93 (by omega) (by omega)]) (by rw [eR 93 (by omega) (by omega)])
theorem Good.mk {xs : Nat → Int32} {A : Option (Int32 × Sg)} {B : Sg → Option (Int32 × Sg)} {r : Int32} {σ1 σ2 : Sg} (hA : A = some (r, σ1)) (hB : B σ1 = some (r, σ2)) (hI : Inv xs σ2) : Good xs A B := ⟨r, σ1, σ2, hA, hB, hI⟩
theorem Sm1 {x : Int32} {lo hi : Nat} (k : Nat) (h1 : lo ≤ k) (h2 : k ≤ hi) (h3 : x = nI k) : Sm x lo hi := ⟨k, h1, h2, h3⟩
theorem eq_set {xs : Nat → Int32} {σ : Sg} (h : Inv xs σ) (p0 p1 p2 : Int32) : Good xs (f_X11_set p0 p1 p2 σ) (f_X12_set p0 p1 p2) := by
  obtain ⟨w1, w2, w3, t1, t2, t3⟩ := h.base
  by_cases c1 : 0 ≤ p0 ∧ p0 < nI (wN (σ 94))
  · by_cases c2 : 0 ≤ p1 ∧ p1 ≤ 1
    · have c2a : ¬ p1 < 0 := fun z => by have := c2.1; rw [ile] at this; rw [ilt] at z; omega
      obtain ⟨w, hw, rfl⟩ := nI_get (by omega) c1.1 c1.2
      have hrow := (h.1.2.2.1.2.2.2.1 w hw)
      have hwell := h.1.1.2.2.2.2.2.1 w hw
      obtain ⟨k, hk, rfl⟩ := nI_getL (n := 1) (by decide) c2.1 c2.2
      match k, hk with
      | 0, _ =>
        have e0 : nI 0 = (0 : Int32) := rfl
        rw [e0] at c2 c2a ⊢
        by_cases c3 : 0 ≤ p2 ∧ p2 ≤ 99
        · refine ⟨σ 35 w, mup σ 35 w p2, mup (mup σ 35 w p2) 94 (10 + 4 * w + 2) p2, ?_, ?_, ?_⟩
          · unfold f_X11_set c_X11_set_41 c_X11_set_80
            rw [has_n w1, within_eq]
            simp only [Option.bind_some]
            rw [bI_1 c1, if_neg c2a, if_pos c2.2, if_pos trivial, bI_1 c3, if_pos trivial, pick_at (by omega) (by omega), lay_at (by omega) (by omega)]
            rfl
          · unfold f_X12_set c_X12_set_32
            have e2 : (mup σ 35 w p2) 94 1 = nI (wN (σ 94)) := by rw [mup_o (by omega)]; exact w2
            rw [isWell_n e2 (by omega), isIn_eq, isIn_eq]
            simp only [Option.bind_some]
            rw [bI_1 c1, bI_1 c2, if_pos trivial, bI_1 c3]
            have e3 := itsWell_at (w := w) (c := 2) (σ := mup σ 35 w p2) (by omega) (by omega)
            have e4 := ixW w 2
            rw [show nI 2 = 2 from rfl] at e3 e4
            rw [show (2 : Int32) + 0 = 2 from rfl, e3]
            simp only [Option.bind_some]
            rw [e4, show nI (10 + 4 * w + 2) + 0 = nI (10 + 4 * w + 2) from nI_add _ 0, gdI (by omega) (by omega), clI (by omega)]
            rw [mup_o (by omega), hrow.2.2.1]
          · refine h.setw hw (fun r k a b => ?_) ?_ ?_ ?_ ?_ ⟨?_, ?_, ?_, ?_⟩
            · simp (disch := omega) only [mup_o]
            · simp (disch := omega) only [mup_o]; exact hrow.1
            · simp (disch := omega) only [mup_o]; exact hrow.2.1
            · simp (disch := omega) only [mup_o, mup_s]
            · simp (disch := omega) only [mup_o]; exact hrow.2.2.2
            · rw [wN_cong (D := σ 94) (by simp (disch := omega) only [mup_o])]
              simp (disch := omega) only [mup_o]; exact hwell.1
            · simp (disch := omega) only [mup_o]; exact hwell.2.1
            · simp (disch := omega) only [mup_s]; exact Sm_of (lo := 0) (hi := 99) (by decide) (by decide) c3.1 c3.2
            · simp (disch := omega) only [mup_o]; exact hwell.2.2.2
        · refine good_err h (k := 1) (by decide) ?_ (fun σ1 e => ?_)
          · unfold f_X11_set c_X11_set_41
            rw [has_n w1, within_eq]
            simp only [Option.bind_some]
            rw [bI_1 c1, if_neg c2a, if_pos c2.2, if_pos trivial, bI_0 c3]
            rfl
          · unfold f_X12_set c_X12_set_32
            have e2 : σ1 94 1 = nI (wN (σ 94)) := by rw [e 94 (by decide)]; exact w2
            rw [isWell_n e2 (by omega), isIn_eq, isIn_eq]
            simp only [Option.bind_some]
            rw [bI_1 c1, bI_1 c2, if_pos trivial, bI_0 c3]
            rfl
      | 1, _ =>
        have e0 : nI 1 = (1 : Int32) := rfl
        rw [e0] at c2 c2a ⊢
        by_cases c3 : 0 ≤ p2 ∧ p2 ≤ 1
        · refine ⟨σ 36 w, mup σ 36 w p2, mup (mup σ 36 w p2) 94 (10 + 4 * w + 3) p2, ?_, ?_, ?_⟩
          · unfold f_X11_set c_X11_set_41 c_X11_set_80
            rw [has_n w1, within_eq]
            simp only [Option.bind_some]
            rw [bI_1 c1, if_neg c2a, if_pos c2.2, if_neg one_ne, within_eq]
            simp only [Option.bind_some]
            rw [bI_1 c3, if_neg one_ne, pick_at (by omega) (by omega), lay_at (by omega) (by omega)]
            rfl
          · unfold f_X12_set c_X12_set_32
            have e2 : (mup σ 36 w p2) 94 1 = nI (wN (σ 94)) := by rw [mup_o (by omega)]; exact w2
            rw [isWell_n e2 (by omega), isIn_eq]
            simp only [Option.bind_some]
            rw [bI_1 c1, bI_1 c2, if_neg one_ne, isIn_eq]
            simp only [Option.bind_some]
            rw [bI_1 c3]
            have e3 := itsWell_at (w := w) (c := 3) (σ := mup σ 36 w p2) (by omega) (by omega)
            have e4 := ixW w 2
            rw [show nI 3 = 3 from rfl] at e3
            rw [show nI 2 = 2 from rfl] at e4
            rw [show (2 : Int32) + 1 = 3 from rfl, e3]
            simp only [Option.bind_some]
            rw [e4, show nI (10 + 4 * w + 2) + 1 = nI (10 + 4 * w + 3) from nI_add _ 1, gdI (by omega) (by omega), clI (by omega)]
            rw [mup_o (by omega), hrow.2.2.2]
          · refine h.setw hw (fun r k a b => ?_) ?_ ?_ ?_ ?_ ⟨?_, ?_, ?_, ?_⟩
            · simp (disch := omega) only [mup_o]
            · simp (disch := omega) only [mup_o]; exact hrow.1
            · simp (disch := omega) only [mup_o]; exact hrow.2.1
            · simp (disch := omega) only [mup_o]; exact hrow.2.2.1
            · simp (disch := omega) only [mup_o, mup_s]
            · rw [wN_cong (D := σ 94) (by simp (disch := omega) only [mup_o])]
              simp (disch := omega) only [mup_o]; exact hwell.1
            · simp (disch := omega) only [mup_o]; exact hwell.2.1
            · simp (disch := omega) only [mup_o]; exact hwell.2.2.1
            · simp (disch := omega) only [mup_s]; exact Sm_of (lo := 0) (hi := 1) (by decide) (by decide) c3.1 c3.2
        · refine good_err h (k := 1) (by decide) ?_ (fun σ1 e => ?_)
          · unfold f_X11_set c_X11_set_41
            rw [has_n w1, within_eq]
            simp only [Option.bind_some]
            rw [bI_1 c1, if_neg c2a, if_pos c2.2, if_neg one_ne, within_eq]
            simp only [Option.bind_some]
            rw [bI_0 c3]
            rfl
          · unfold f_X12_set c_X12_set_32
            have e2 : σ1 94 1 = nI (wN (σ 94)) := by rw [e 94 (by decide)]; exact w2
            rw [isWell_n e2 (by omega), isIn_eq]
            simp only [Option.bind_some]
            rw [bI_1 c1, bI_1 c2, if_neg one_ne, isIn_eq]
            simp only [Option.bind_some]
            rw [bI_0 c3]
            rfl
    · refine good_err h (k := 1) (by decide) ?_ (fun σ1 e => ?_)
      · unfold f_X11_set
        rw [has_n w1]
        simp only [Option.bind_some]
        rw [bI_1 c1]
        by_cases c3 : p1 < 0
        · rw [if_pos c3]; rfl
        · rw [if_neg c3, if_neg (fun z => c2 ⟨by rw [ile]; rw [ilt] at c3; omega, z⟩)]; rfl
      · unfold f_X12_set
        have e2 : σ1 94 1 = nI (wN (σ 94)) := by rw [e 94 (by decide)]; exact w2
        rw [isWell_n e2 (by omega), isIn_eq]
        simp only [Option.bind_some]
        rw [bI_1 c1, bI_0 c2]
        rfl
  · refine good_err h (k := 1) (by decide) ?_ (fun σ1 e => ?_)
    · unfold f_X11_set
      rw [has_n w1]
      simp only [Option.bind_some]
      rw [bI_0 c1]
      rfl
    · unfold f_X12_set
      have e2 : σ1 94 1 = nI (wN (σ 94)) := by rw [e 94 (by decide)]; exact w2
      rw [isWell_n e2 (by omega)]
      simp only [Option.bind_some]
      rw [bI_0 c1]
      rfl
theorem eq_let {xs : Nat → Int32} {σ : Sg} (h : Inv xs σ) (p0 p1 : Int32) : Good xs (f_X11_let p0 p1 σ) (f_X12_let p0 p1) := by
  obtain ⟨w1, w2, w3, t1, t2, t3⟩ := h.base
  by_cases c1 : 0 ≤ p0 ∧ p0 < nI (tN (σ 94))
  · by_cases c2 : 0 ≤ p1 ∧ p1 < nI (wN (σ 94))
    · obtain ⟨t, ht, rfl⟩ := nI_get (by omega) c1.1 c1.2
      obtain ⟨w, hw, rfl⟩ := nI_get (by omega) c2.1 c2.2
      have hrow := (h.1.2.2.1.2.2.2.2 t ht)
      have hth := h.1.1.2.2.2.2.2.2 t ht
      by_cases c3 : σ 40 t = 2
      · apply Good.mk
        · unfold f_X11_let
          rw [thas_n t1, has_n w1]
          simp only [Option.bind_some]
          rw [bI_1 c1, bI_1 c2, pick_at (by omega) (by omega)]
          simp only [Option.bind_some]
          rw [if_pos c3, place_at (by omega)]
          rfl
        · unfold f_X12_let
          rw [isThing_n (n := tN (σ 94)) (by simp (disch := omega) only [mup_o]; exact t2) (by omega), isWell_n (n := wN (σ 94)) (by simp (disch := omega) only [mup_o]; exact w2) (by omega)]
          simp only [Option.bind_some]
          rw [bI_1 c1, bI_1 c2, isNow_at (by omega)]
          simp only [Option.bind_some]
          rw [if_pos (by simp (disch := omega) only [mup_o]; rw [← hrow.2.2.1]; exact c3), puts_at (by omega)]
          rfl
        · refine h.sett ht (fun r k a b => ?_) ?_ ?_ ?_ ?_ ?_ ?_ ⟨?_, ?_, ?_, ?_, ?_, ?_⟩
          · simp (disch := omega) only [mup_o]
          · simp (disch := omega) only [mup_o]; exact hrow.1
          · simp (disch := omega) only [mup_o]; exact hrow.2.1
          · simp (disch := omega) only [mup_o, mup_s]
          · simp (disch := omega) only [mup_o, mup_s]
          · simp (disch := omega) only [mup_o, mup_s]
          · simp (disch := omega) only [mup_o]; exact hrow.2.2.2.2.2
          · simp (disch := omega) only [mup_o]; exact hth.1
          · simp (disch := omega) only [mup_o]; exact hth.2.1
          · simp (disch := omega) only [mup_o, mup_s]; exact Sm1 0 (by omega) (by omega) rfl
          · refine Or.inr ⟨w, ?_, ?_⟩
            · rw [wN_cong (D := σ 94) (by simp (disch := omega) only [mup_o])]; exact hw
            · simp (disch := omega) only [mup_o, mup_s]
          · refine Or.inr ⟨?_, ?_⟩
            · simp (disch := omega) only [mup_o, mup_s]; decide
            · simp (disch := omega) only [mup_s]
          · simp (disch := omega) only [mup_o]; exact hth.2.2.2.2.2
      · refine good_err h (k := 3) (by decide) ?_ (fun σ1 e => ?_)
        · unfold f_X11_let
          rw [thas_n t1, has_n w1]
          simp only [Option.bind_some]
          rw [bI_1 c1, bI_1 c2, pick_at (by omega) (by omega)]
          simp only [Option.bind_some]
          rw [if_neg c3]
          rfl
        · unfold f_X12_let
          have e94 := e 94 (by decide)
          rw [isThing_n (n := tN (σ 94)) (by rw [e94]; exact t2) (by omega), isWell_n (n := wN (σ 94)) (by rw [e94]; exact w2) (by omega)]
          simp only [Option.bind_some]
          rw [bI_1 c1, bI_1 c2, isNow_at (by omega)]
          simp only [Option.bind_some]
          rw [if_neg (by rw [e94, ← hrow.2.2.1]; exact c3)]
          rfl
    · refine good_err h (k := 1) (by decide) ?_ (fun σ1 e => ?_)
      · unfold f_X11_let
        rw [thas_n t1, has_n w1]
        simp only [Option.bind_some]
        rw [bI_1 c1, bI_0 c2]
        rfl
      · unfold f_X12_let
        have e94 := e 94 (by decide)
        rw [isThing_n (n := tN (σ 94)) (by rw [e94]; exact t2) (by omega), isWell_n (n := wN (σ 94)) (by rw [e94]; exact w2) (by omega)]
        simp only [Option.bind_some]
        rw [bI_1 c1, bI_0 c2]
        rfl
  · refine good_err h (k := 1) (by decide) ?_ (fun σ1 e => ?_)
    · unfold f_X11_let
      rw [thas_n t1]
      simp only [Option.bind_some]
      rw [bI_0 c1]
      rfl
    · unfold f_X12_let
      have e94 := e 94 (by decide)
      rw [isThing_n (n := tN (σ 94)) (by rw [e94]; exact t2) (by omega)]
      simp only [Option.bind_some]
      rw [bI_0 c1]
      rfl
