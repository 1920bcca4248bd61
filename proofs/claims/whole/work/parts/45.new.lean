theorem tN_of {D : Nat → Int32} {n : Nat} (h : D 2 = nI n) (hn : n < 1000) : tN D = n := by unfold tN; rw [h, clI (by omega)]
theorem wN_of {D : Nat → Int32} {n : Nat} (h : D 1 = nI n) (hn : n < 1000) : wN D = n := by unfold wN; rw [h, clI (by omega)]
theorem fN_of {D : Nat → Int32} {n : Nat} (h : D 3 = nI n) (hn : n < 1000) : fN D = n := by unfold fN; rw [h, clI (by omega)]
theorem pN_of {D : Nat → Int32} {n : Nat} (h : D 5 = nI n) (hn : n < 1000) : pN D = n := by unfold pN; rw [h, clI (by omega)]
theorem aN_of {D : Nat → Int32} {n : Nat} (h : D 6 = nI n) (hn : n < 1000) : aN D = n := by unfold aN; rw [h, clI (by omega)]
theorem Inv.newt {xs : Nat → Int32} {σ σ2 : Sg} {t : Nat} (h : Inv xs σ) (ht : t = tN (σ 94)) (h10 : t < 10) (e : ∀ r k, (r ≠ 37 ∨ k ≠ 6) → (r < 38 ∨ 43 < r ∨ k ≠ t) → (r ≠ 94 ∨ (k ≠ 2 ∧ (k < 46 + 6 * t ∨ 46 + 6 * t + 6 ≤ k))) → σ2 r k = σ r k) (c1 : σ2 94 2 = nI (t + 1)) (c2 : σ2 37 6 = nI (t + 1)) (n0 : σ2 38 t = σ2 94 (46 + 6 * t)) (n1 : σ2 39 t = σ2 94 (46 + 6 * t + 1)) (n2 : σ2 40 t = σ2 94 (46 + 6 * t + 2)) (n3 : σ2 41 t = σ2 94 (46 + 6 * t + 3)) (n4 : σ2 42 t = σ2 94 (46 + 6 * t + 4)) (n5 : σ2 43 t = σ2 94 (46 + 6 * t + 5)) (ok : ThingOK (σ2 94) t) : Inv xs σ2 := by
  obtain ⟨h1, h2, h3, h4⟩ := h.1
  obtain ⟨a1, a2, a3, a4, a5, a6, a7⟩ := id h1
  have eD : ∀ j, j ≠ 2 → (j < 46 + 6 * t ∨ 46 + 6 * t + 6 ≤ j) → σ2 94 j = σ 94 j := fun j ha hb => e 94 j (by omega) (by omega) (by omega)
  have eR : ∀ r, r < 37 ∨ 43 < r → r ≠ 94 → σ2 r = σ r := fun r a b => rows_eq (fun k => e r k (by omega) (by omega) (by omega))
  have wn : wN (σ2 94) = wN (σ 94) := wN_cong (eD 1 (by omega) (by omega))
  have tn : tN (σ2 94) = t + 1 := tN_of c1 (by omega)
  have hW : WOK (σ2 94) 9999 := by
    refine ⟨by rw [eD 0 (by omega) (by omega)]; exact a1, by rw [eD 1 (by omega) (by omega), wn]; exact a2, by omega, by rw [c1, tn], by omega, fun w hw => ?_, fun u hu => ?_⟩
    · exact (a6 w (by omega)).cong (by omega) (fun j x y => eD j (by omega) (by omega))
    · by_cases z : u = t
      · subst z; exact ok
      · exact (a7 u (by omega)).cong (by omega) (fun j x y => eD j (by omega) (by omega))
  have hR : RW σ2 31 (σ2 94) := by
    obtain ⟨b1, b2, b3, b4, b5⟩ := h3
    refine ⟨by rw [eR _ (by omega) (by omega), eD 0 (by omega) (by omega)]; exact b1, by rw [eR _ (by omega) (by omega), eD 1 (by omega) (by omega)]; exact b2, by rw [c1]; exact c2, fun w hw => ?_, fun u hu => ?_⟩
    · simp (disch := omega) only [e]
      exact b4 w (by omega)
    · by_cases z : u = t
      · subst z; exact ⟨n0, n1, n2, n3, n4, n5⟩
      · simp (disch := omega) only [e]
        exact b5 u (by omega)
  exact h.again ⟨hW, h2.cong (fun j hj => eD j (by omega) (by omega)) (by omega), hR, (h4.frame (fun r _ _ _ _ => eR r (by omega) (by omega))).cong h2 (fun j hj => eD j (by omega) (by omega))⟩ (fun r hr => eR r (by unfold Keep at hr; omega) (by unfold Keep at hr; omega)) (by rw [eR 93 (by omega) (by omega)]) (by rw [eR 93 (by omega) (by omega)])
theorem Inv.neww {xs : Nat → Int32} {σ σ2 : Sg} {w : Nat} (h : Inv xs σ) (hw : w = wN (σ 94)) (h9 : w < 9) (e : ∀ r k, (r ≠ 32 ∨ k ≠ 4) → (r < 33 ∨ 36 < r ∨ k ≠ w) → (r ≠ 94 ∨ (k ≠ 1 ∧ (k < 10 + 4 * w ∨ 10 + 4 * w + 4 ≤ k))) → σ2 r k = σ r k) (c1 : σ2 94 1 = nI (w + 1)) (c2 : σ2 32 4 = nI (w + 1)) (n0 : σ2 33 w = σ2 94 (10 + 4 * w)) (n1 : σ2 34 w = σ2 94 (10 + 4 * w + 1)) (n2 : σ2 35 w = σ2 94 (10 + 4 * w + 2)) (n3 : σ2 36 w = σ2 94 (10 + 4 * w + 3)) (ok : WellOK (σ2 94) w) : Inv xs σ2 := by
  obtain ⟨h1, h2, h3, h4⟩ := h.1
  obtain ⟨a1, a2, a3, a4, a5, a6, a7⟩ := id h1
  have eD : ∀ j, j ≠ 1 → (j < 10 + 4 * w ∨ 10 + 4 * w + 4 ≤ j) → σ2 94 j = σ 94 j := fun j ha hb => e 94 j (by omega) (by omega) (by omega)
  have eR : ∀ r, r < 32 ∨ 36 < r → r ≠ 94 → σ2 r = σ r := fun r a b => rows_eq (fun k => e r k (by omega) (by omega) (by omega))
  have tn : tN (σ2 94) = tN (σ 94) := tN_cong (eD 2 (by omega) (by omega))
  have wn : wN (σ2 94) = w + 1 := wN_of c1 (by omega)
  have hW : WOK (σ2 94) 9999 := by
    refine ⟨by rw [eD 0 (by omega) (by omega)]; exact a1, by rw [c1, wn], by omega, by rw [eD 2 (by omega) (by omega), tn]; exact a4, by omega, fun v hv => ?_, fun u hu => ?_⟩
    · by_cases z : v = w
      · subst z; exact ok
      · exact (a6 v (by omega)).cong (by omega) (fun j x y => eD j (by omega) (by omega))
    · exact (a7 u (by omega)).cong (by omega) (fun j x y => eD j (by omega) (by omega))
  have hR : RW σ2 31 (σ2 94) := by
    obtain ⟨b1, b2, b3, b4, b5⟩ := h3
    refine ⟨by rw [eR _ (by omega) (by omega), eD 0 (by omega) (by omega)]; exact b1, by rw [c1]; exact c2, by rw [eR _ (by omega) (by omega), eD 2 (by omega) (by omega)]; exact b3, fun v hv => ?_, fun u hu => ?_⟩
    · by_cases z : v = w
      · subst z; exact ⟨n0, n1, n2, n3⟩
      · simp (disch := omega) only [e]
        exact b4 v (by omega)
    · simp (disch := omega) only [e]
      exact b5 u (by omega)
  exact h.again ⟨hW, h2.cong (fun j hj => eD j (by omega) (by omega)) (by omega), hR, (h4.frame (fun r _ _ _ _ => eR r (by omega) (by omega))).cong h2 (fun j hj => eD j (by omega) (by omega))⟩ (fun r hr => eR r (by unfold Keep at hr; omega) (by unfold Keep at hr; omega)) (by rw [eR 93 (by omega) (by omega)]) (by rw [eR 93 (by omega) (by omega)])
theorem nIp1 (n : Nat) : nI n + 1 = nI (n + 1) := nI_1 n
theorem nIm1 (n : Nat) : nI (n + 1) - 1 = nI n := nI_pred n
theorem eq_well {xs : Nat → Int32} {σ : Sg} (h : Inv xs σ) : Good xs (f_X11_well σ) f_X12_well := by
  obtain ⟨w1, w2, w3, t1, t2, t3⟩ := h.base
  generalize hw : wN (σ 94) = w at w1 w2 w3
  by_cases c : w < 9
  · have e0 := ixW w 0
    have e1 := ixW w 1
    have e2 := ixW w 2
    have e3 := ixW w 3
    rw [show nI 0 = 0 from rfl] at e0
    rw [show nI 1 = 1 from rfl] at e1
    rw [show nI 2 = 2 from rfl] at e2
    rw [show nI 3 = 3 from rfl] at e3
    apply Good.mk
    · unfold f_X11_well f_X9_dig
      rw [if_pos (by rw [w1]; exact nI_lt c (by decide)), w1, lead_at (by omega)]
      simp only [Option.bind_some]
      rw [lay_at (by omega) (by omega)]
      simp only [Option.bind_some]
      rw [lay_at (by omega) (by omega)]
      simp only [Option.bind_some]
      rfl
    · unfold f_X12_well
      have e9 : mup (mup (mup (mup (mup σ 32 4 (nI w + 1)) (32 + 1) w (-1)) (32 + 2) w 1) (32 + 3) w 0) (32 + 4) w 0 94 1 = nI w := by
        simp (disch := omega) only [mup_o]; exact w2
      rw [e9, if_neg (by rw [show (9 : Int32) = nI 9 from rfl, nI_eq (by omega) (by decide)]; omega), e0, e1, e2, e3]
      simp (disch := omega) only [gdI]
      simp (disch := omega) only [clI, mup_o, mup_s, e9, nIp1, nIm1]
      rw [w2]
      simp (disch := omega) only [nIp1, nIm1]
      rfl
    · have hq : (nI w : Int32) = nI w := rfl
      refine h.neww hw.symm c (fun r k a b c => ?_) ?_ ?_ ?_ ?_ ?_ ?_ ⟨?_, ?_, ?_, ?_⟩
      all_goals (simp (disch := omega) only [Nat.add_zero, mup_o, mup_s, nIp1])
      · exact Or.inl trivial
      · exact Sm1 1 (by omega) (by omega) rfl
      · exact Sm1 0 (by omega) (by omega) rfl
      · exact Sm1 0 (by omega) (by omega) rfl
  · have hw9 : w = 9 := by omega
    refine good_err h (k := 4) (by decide) ?_ (fun σ1 e => ?_)
    · unfold f_X11_well
      rw [w1, hw9, if_neg (by decide)]
      rfl
    · unfold f_X12_well
      rw [e 94 (by decide), w2, hw9, if_pos (show nI 9 = 9 from rfl)]
      rfl

theorem eq_thing {xs : Nat → Int32} {σ : Sg} (h : Inv xs σ) (p0 p1 : Int32) : Good xs (f_X11_thing p0 p1 σ) (f_X12_thing p0 p1) := by
  obtain ⟨w1, w2, w3, t1, t2, t3⟩ := h.base
  generalize hw : tN (σ 94) = t at t1 t2 t3
  have hkind : ∀ s : Sg, f_X11_isKind p0 s = some (if 0 ≤ p0 ∧ p0 ≤ 6 then 1 else 0) := by
    intro s
    unfold f_X11_isKind
    rw [within_eq]
    simp only [Option.bind_some]
    split <;> rfl
  by_cases c1 : 0 ≤ p0 ∧ p0 ≤ 6
  · by_cases c2 : 0 ≤ p1 ∧ p1 ≤ 30
    · by_cases c : t < 10
      · have e0 := ixT t 0
        have e1 := ixT t 1
        have e2 := ixT t 2
        have e3 := ixT t 3
        have e4 := ixT t 4
        have e5 := ixT t 5
        rw [show nI 0 = 0 from rfl] at e0
        rw [show nI 1 = 1 from rfl] at e1
        rw [show nI 2 = 2 from rfl] at e2
        rw [show nI 3 = 3 from rfl] at e3
        rw [show nI 4 = 4 from rfl] at e4
        rw [show nI 5 = 5 from rfl] at e5
        apply Good.mk
        · unfold f_X11_thing f_X7_make
          rw [hkind, within_eq]
          simp only [Option.bind_some]
          rw [bI_1 c1, bI_1 c2, if_pos (by rw [t1]; exact nI_lt c (by decide)), t1, lay_at (by omega) (by omega)]
          simp only [Option.bind_some]
          rw [lay_at (by omega) (by omega)]
          simp only [Option.bind_some]
          rw [lay_at (by omega) (by omega)]
          simp only [Option.bind_some]
          rw [place_at (by omega)]
          simp only [Option.bind_some]
          rfl
        · unfold f_X12_thing
          rw [isIn_eq, isIn_eq]
          simp only [Option.bind_some]
          rw [bI_1 c1, bI_1 c2]
          have e9 : mup (mup (mup (mup (mup (mup (mup σ 37 6 (nI t + 1)) (37 + 1) t p0) (37 + 2) t p1) (37 + 6) t 0) (37 + 3) t 2) (37 + 4) t (-1)) (37 + 5) t 0 94 2 = nI t := by
            simp (disch := omega) only [mup_o]; exact t2
          rw [e9, if_neg (by rw [show (10 : Int32) = nI 10 from rfl, nI_eq (by omega) (by decide)]; omega), e0, e1, e2, e3, e4, e5]
          simp (disch := omega) only [gdI]
          simp (disch := omega) only [clI, mup_o, mup_s, e9, nIp1, nIm1]
          rw [t2]
          simp (disch := omega) only [nIp1, nIm1]
          rfl
        · refine h.newt hw.symm c (fun r k a b c => ?_) ?_ ?_ ?_ ?_ ?_ ?_ ?_ ?_ ⟨?_, ?_, ?_, Or.inl ⟨?_, ?_⟩, Or.inr ⟨?_, ?_⟩, ?_⟩
          all_goals (simp (disch := omega) only [Nat.add_zero, mup_o, mup_s, nIp1])
          · exact Sm_of (lo := 0) (hi := 6) (by decide) (by decide) c1.1 c1.2
          · exact Sm_of (lo := 0) (hi := 30) (by decide) (by decide) c2.1 c2.2
          · exact Sm1 2 (by omega) (by omega) rfl
          · decide
          · exact Sm1 0 (by omega) (by omega) rfl
      · have hw9 : t = 10 := by omega
        refine good_err h (k := 4) (by decide) ?_ (fun σ1 e => ?_)
        · unfold f_X11_thing
          rw [hkind, within_eq]
          simp only [Option.bind_some]
          rw [bI_1 c1, bI_1 c2, t1, hw9, if_neg (by decide)]
          rfl
        · unfold f_X12_thing
          rw [isIn_eq, isIn_eq]
          simp only [Option.bind_some]
          rw [bI_1 c1, bI_1 c2, e 94 (by decide), t2, hw9, if_pos (show nI 10 = 10 from rfl)]
          rfl
    · refine good_err h (k := 1) (by decide) ?_ (fun σ1 e => ?_)
      · unfold f_X11_thing
        rw [hkind, within_eq]
        simp only [Option.bind_some]
        rw [bI_1 c1, bI_0 c2]
        rfl
      · unfold f_X12_thing
        rw [isIn_eq, isIn_eq]
        simp only [Option.bind_some]
        rw [bI_1 c1, bI_0 c2]
        rfl
  · refine good_err h (k := 1) (by decide) ?_ (fun σ1 e => ?_)
    · unfold f_X11_thing
      rw [hkind]
      simp only [Option.bind_some]
      rw [bI_0 c1]
      rfl
    · unfold f_X12_thing
      rw [isIn_eq]
      simp only [Option.bind_some]
      rw [bI_0 c1]
      rfl
theorem eq_fish {xs : Nat → Int32} {σ : Sg} (h : Inv xs σ) (p0 : Int32) : Good xs (f_X11_fish p0 σ) (f_X12_fish p0) := by
  obtain ⟨w1, w2, w3, t1, t2, t3⟩ := h.base
  by_cases c1 : 0 ≤ p0 ∧ p0 < nI (tN (σ 94))
  · obtain ⟨t, ht, rfl⟩ := nI_get (by omega) c1.1 c1.2
    have hrow := (h.1.2.2.1.2.2.2.2 t ht)
    have hth := h.1.1.2.2.2.2.2.2 t ht
    by_cases c3 : σ 40 t = 0
    · have e1 := ixT t 3
      rw [show nI 3 = 3 from rfl] at e1
      have hin : ∃ j, j < wN (σ 94) ∧ σ 94 (46 + 6 * t + 3) = nI j := by
        rcases hth.2.2.2.1 with ⟨z1, z2⟩ | z
        · rw [← hrow.2.2.1] at z1
          rw [show σ (31 + 9) t = σ 40 t from rfl, c3] at z1
          exact absurd z1 (by decide)
        · exact z
      apply Good.mk
      · unfold f_X11_fish
        rw [thas_n t1]
        simp only [Option.bind_some]
        rw [bI_1 c1, pick_at (by omega) (by omega)]
        simp only [Option.bind_some]
        rw [if_pos c3, pick_at (by omega) (by omega)]
        simp only [Option.bind_some]
        rw [place_at (by omega)]
        simp only [Option.bind_some]
        rfl
      · unfold f_X12_fish
        rw [isThing_n (n := tN (σ 94)) (by simp (disch := omega) only [mup_o]; exact t2) (by omega)]
        simp only [Option.bind_some]
        rw [bI_1 c1, isNow_at (by omega)]
        simp only [Option.bind_some]
        rw [if_pos (by simp (disch := omega) only [mup_o]; rw [← hrow.2.2.1]; exact c3), e1, gdI (by omega) (by omega), clI (by omega), puts_at (by omega)]
        simp (disch := omega) only [mup_o, Option.bind_some]
        rw [← hrow.2.2.2.1]
      · refine h.sett ht (fun r k a b => ?_) ?_ ?_ ?_ ?_ ?_ ?_ ⟨?_, ?_, ?_, Or.inr ?_, Or.inr ⟨?_, ?_⟩, ?_⟩
        all_goals (try rw [wN_cong (D := σ 94) (by simp (disch := omega) only [mup_o])])
        all_goals (simp (disch := omega) only [mup_o, mup_s])
        · exact hrow.1
        · exact hrow.2.1
        · exact hrow.2.2.2.2.2
        · exact hth.1
        · exact hth.2.1
        · exact Sm1 2 (by omega) (by omega) rfl
        · rw [← hrow.2.2.2.1] at hin; exact hin
        · decide
        · exact hth.2.2.2.2.2
    · refine good_err h (k := 3) (by decide) ?_ (fun σ1 e => ?_)
      · unfold f_X11_fish
        rw [thas_n t1]
        simp only [Option.bind_some]
        rw [bI_1 c1, pick_at (by omega) (by omega)]
        simp only [Option.bind_some]
        rw [if_neg c3]
        rfl
      · unfold f_X12_fish
        have e94 := e 94 (by decide)
        rw [isThing_n (n := tN (σ 94)) (by rw [e94]; exact t2) (by omega)]
        simp only [Option.bind_some]
        rw [bI_1 c1, isNow_at (by omega)]
        simp only [Option.bind_some]
        rw [if_neg (by rw [e94, ← hrow.2.2.1]; exact c3)]
        rfl
  · refine good_err h (k := 1) (by decide) ?_ (fun σ1 e => ?_)
    · unfold f_X11_fish
      rw [thas_n t1]
      simp only [Option.bind_some]
      rw [bI_0 c1]
      rfl
    · unfold f_X12_fish
      have e94 := e 94 (by decide)
      rw [isThing_n (n := tN (σ 94)) (by rw [e94]; exact t2) (by omega)]
      simp only [Option.bind_some]
      rw [bI_0 c1]
      rfl
