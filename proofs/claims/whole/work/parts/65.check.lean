theorem check_go {τ : Sg} {D0 W : Nat → Int32} {G : Nat → Int32 → Int32 → Int32 → Int32 → Int32} {n t : Nat} (hG : ∀ A B C F, Sm (G 0 A B C F) 0 30) (gx : GX τ G) (gd : GD D0 G) (hn : n ≤ 20) : ∀ j i D m, WOK D m → m ≤ 50000 + i → n - i = j → i ≤ n → t < tN D → ∃ v, (∀ (σ : Sg) (f : Nat), j < f → RW σ 44 D → TXs σ τ → (∀ i, i < n → σ 15 i = W i) → ∃ σ', c_X11_check_55 f (nI t) (nI n) (nI i) σ = some (v, σ') ∧ XF 44 σ' σ) ∧ (∀ (σ : Sg) (f : Nat), j < f → Row σ 95 D → TDs σ D0 → (∀ i, i < n → σ 94 (144 + i) = W i) → ∃ σ', c_X12_check_43 f (nI t) (nI n) (nI i) σ = some (v, σ') ∧ HF σ' σ) := by
  intro j
  induction j with
  | zero =>
    intro i D m hW hm hj hi ht
    have hle : nI n ≤ nI i := nI_le (by omega) (by omega)
    refine ⟨0, fun σ f hf hR hT _ => ⟨σ, ?_, fun _ _ _ _ _ => rfl⟩, fun σ f hf hr hT _ => ⟨σ, ?_, fun _ _ _ _ _ => rfl⟩⟩
    · obtain ⟨f, rfl⟩ : ∃ k, f = k + 1 := ⟨f - 1, by omega⟩
      rw [c_X11_check_55, if_pos hle]
    · obtain ⟨f, rfl⟩ : ∃ k, f = k + 1 := ⟨f - 1, by omega⟩
      rw [c_X12_check_43, if_pos hle]
  | succ j ih =>
    intro i D m hW hm hj hi ht
    have hlt : ¬ nI n ≤ nI i := by rw [nI_le_iff (by omega) (by omega)]; omega
    obtain ⟨D1, d1, d3, dx, dm⟩ := one_day hG gx gd hW (by omega)
    have tn : tN D1 = tN D := tN_cong (d3 2 (by omega))
    have hX : ∀ (σ : Sg) (f : Nat), RW σ 44 D → TXs σ τ → (∀ i, i < n → σ 15 i = W i) → ∃ σ1, RW σ1 44 D1 ∧ XF 44 σ1 σ ∧ c_X11_check_55 (f + 1) (nI t) (nI n) (nI i) σ = (if wo D1 t = W i then c_X11_check_55 f (nI t) (nI n) (nI (i + 1)) σ1 else some (1 + nI i, σ1)) := fun σ f hR hT hw => by
      obtain ⟨σ1, f1, f2, f3⟩ := dx 44 σ (by omega) hR hT
      refine ⟨σ1, f2, f3, ?_⟩
      have g := wellOf_eq (a := 44) (t := t) d1 f2 (by omega)
      rw [c_X11_check_55, if_neg hlt, f1, Option.bind_some, show (50 : Nat) = 44 + 6 from rfl, g, Option.bind_some, pick_at (by omega) (by omega), Option.bind_some, nIp1, f3 15 i (by omega) (by omega) (by omega), hw i (by omega)]
    have hM : ∀ (σ : Sg) (f : Nat), Row σ 95 D → TDs σ D0 → (∀ i, i < n → σ 94 (144 + i) = W i) → ∃ σ1, Row σ1 95 D1 ∧ MF 95 σ1 σ ∧ c_X12_check_43 (f + 1) (nI t) (nI n) (nI i) σ = (if wo D1 t = W i then c_X12_check_43 f (nI t) (nI n) (nI (i + 1)) σ1 else some (1 + nI i, σ1)) := fun σ f hr hT hw => by
      obtain ⟨σ1, f1, f2, f3⟩ := dm 95 σ (Or.inr rfl) hr hT
      refine ⟨σ1, f2, f3, ?_⟩
      rw [c_X12_check_43, if_neg hlt, f1, Option.bind_some, inWhich_eq d1 f2 (by omega), Option.bind_some, ixA, gdI (by omega) (by omega), clI (by omega), nIp1, f3 94 (144 + i) (by omega) (by omega) (by omega), hw i (by omega)]
    by_cases z : wo D1 t = W i
    · obtain ⟨v, vx, vm⟩ := ih (i + 1) D1 (m + 1) d1 (by omega) (by omega) (by omega) (by omega)
      refine ⟨v, fun σ f hf hR hT hw => ?_, fun σ f hf hr hT hw => ?_⟩
      · obtain ⟨f, rfl⟩ : ∃ k, f = k + 1 := ⟨f - 1, by omega⟩
        obtain ⟨σ1, a1, a2, a3⟩ := hX σ f hR hT hw
        obtain ⟨σ', b1, b2⟩ := vx σ1 f (by omega) a1 (hT.keep (by omega) a2) (fun i hi => (a2 15 i (by omega) (by omega) (by omega)).trans (hw i hi))
        exact ⟨σ', by rw [a3, if_pos z]; exact b1, b2.trans a2⟩
      · obtain ⟨f, rfl⟩ : ∃ k, f = k + 1 := ⟨f - 1, by omega⟩
        obtain ⟨σ1, a1, a2, a3⟩ := hM σ f hr hT hw
        obtain ⟨σ', b1, b2⟩ := vm σ1 f (by omega) a1 (hT.keep a2) (fun i hi => (a2 94 (144 + i) (by omega) (by omega) (by omega)).trans (hw i hi))
        exact ⟨σ', by rw [a3, if_pos z]; exact b1, fun q k x y w => (b2 q k x y w).trans (a2 q k x y (Or.inl w))⟩
    · refine ⟨1 + nI i, fun σ f hf hR hT hw => ?_, fun σ f hf hr hT hw => ?_⟩
      · obtain ⟨f, rfl⟩ : ∃ k, f = k + 1 := ⟨f - 1, by omega⟩
        obtain ⟨σ1, a1, a2, a3⟩ := hX σ f hR hT hw
        exact ⟨σ1, by rw [a3, if_neg z], a2⟩
      · obtain ⟨f, rfl⟩ : ∃ k, f = k + 1 := ⟨f - 1, by omega⟩
        obtain ⟨σ1, a1, a2, a3⟩ := hM σ f hr hT hw
        exact ⟨σ1, by rw [a3, if_neg z], fun q k x y w => a2 q k x y (Or.inl w)⟩
theorem Inv.unwait {xs : Nat → Int32} {σ : Sg} (h : Inv xs σ) : Inv xs (mup (mup σ 14 1 0) 94 6 0) := by
  obtain ⟨h1, h2, h3, h4⟩ := h.1
  obtain ⟨⟨f1, f2, f3⟩, ⟨p1, p2, p3⟩, ⟨a1, a2, a3⟩⟩ := h.dk
  have eF : fN (mup (mup σ 14 1 0) 94 6 0 94) = fN (σ 94) := by unfold fN; simp (disch := omega) only [mup_o]
  have eP : pN (mup (mup σ 14 1 0) 94 6 0 94) = pN (σ 94) := by unfold pN; simp (disch := omega) only [mup_o]
  have eW : wN (mup (mup σ 14 1 0) 94 6 0 94) = wN (σ 94) := by unfold wN; simp (disch := omega) only [mup_o]
  have eA : aN (mup (mup σ 14 1 0) 94 6 0 94) = 0 := by unfold aN; rw [mup_s]; rfl
  refine h.desk (fun j hj => by simp (disch := omega) only [mup_o]) (fun r a b => by rw [mup_ne b, mup_ne (by omega)]) ?_ ?_
  · obtain ⟨b1, b2, b3, b4, b5, b6, b7, b8⟩ := h2
    refine ⟨by rw [eF]; simp (disch := omega) only [mup_o]; exact b1, by omega, fun f hf => by simp (disch := omega) only [mup_o, eW]; exact b3 f (by omega), by rw [eP]; simp (disch := omega) only [mup_o]; exact b4, by omega, fun i hi => by simp (disch := omega) only [mup_o]; exact b6 i (by omega), by rw [eA, mup_s]; rfl, by omega⟩
  · obtain ⟨r1, r2, r3, r4, r5, r6, r7, r8⟩ := id h4
    refine ⟨by simp (disch := omega) only [mup_o]; exact r1, by simp (disch := omega) only [mup_o]; exact r2, fun f hf => by simp (disch := omega) only [mup_o]; exact r3 f (by omega), by simp (disch := omega) only [mup_o]; exact r4, fun i hi => by simp (disch := omega) only [mup_o]; exact r5 i (by omega), by simp (disch := omega) only [mup_o, mup_s], fun i hi => by omega, h4.texts (fun j hj => by simp (disch := omega) only [mup_o]) (fun k => by simp (disch := omega) only [mup_o]) (fun k => by simp (disch := omega) only [mup_o]) (fun k => by simp (disch := omega) only [mup_o]) (fun k => by simp (disch := omega) only [mup_o])⟩
theorem eq_check {xs : Nat → Int32} {σ : Sg} (h : Inv xs σ) (p0 : Int32) : Good xs (f_X11_check p0 σ) (f_X12_check p0) := by
  obtain ⟨w1, w2, w3, t1, t2, t3⟩ := h.base
  obtain ⟨-, -, ⟨a1, a2, a3⟩⟩ := h.dk
  have hz := h.unwait
  have eR : ∀ r, r ≠ 94 → mup (mup σ 14 1 0) 94 6 0 r = mup σ 14 1 0 r := fun r hr => mup_ne hr
  have t1' : mup σ 14 1 0 37 6 = nI (tN (σ 94)) := by rw [mup_o (by omega)]; exact t1
  by_cases c1 : 0 ≤ p0 ∧ p0 < nI (tN (σ 94))
  · obtain ⟨t, ht, rfl⟩ := nI_get (by omega) c1.1 c1.2
    obtain ⟨h1, h2, h3, h4⟩ := hz.1
    obtain ⟨G, hG, gx, gd⟩ := gives_ex h4.2.2.2.2.2.2.2.1 h4.2.2.2.2.2.2.2.2
    obtain ⟨s, k1, k2, k3⟩ := wcopy (a := 44) (r0 := 31) (x := 6) (y := 9) (z := 6) (u := 9) (mup σ 14 1 0) (by omega)
    have hs : XF 44 s (mup σ 14 1 0) := fun q k _ _ hq => k2 q k (by omega)
    have hT : TXs s (mup (mup σ 14 1 0) 94 6 0) := TXs.keep (a := 44) (σ := mup σ 14 1 0) ⟨by rw [eR _ (by omega)], fun _ _ => by rw [eR _ (by omega)], by rw [eR _ (by omega)], fun _ _ => by rw [eR _ (by omega)]⟩ (by omega) hs
    have hR : RW s 44 (mup (mup σ 14 1 0) 94 6 0 94) := k3 _ _ h1 (h3.frame (fun r _ _ => (eR r (by omega)).symm))
    have tn : tN (mup (mup σ 14 1 0) 94 6 0 94) = tN (σ 94) := by unfold tN; simp (disch := omega) only [mup_o]
    obtain ⟨v, vx, vm⟩ := check_go (n := aN (σ 94)) (t := t) (W := fun i => σ 94 (144 + i)) hG gx gd a3 (aN (σ 94)) 0 _ 9999 h1 (by omega) (by omega) (by omega) (by omega)
    obtain ⟨σ1, b1, b2⟩ := vx s 1000 (by omega) hR hT (fun i hi => by rw [hs 15 i (by omega) (by omega) (by omega), mup_o (by omega)]; exact h.1.2.2.2.2.2.2.2.2.2.1 i hi)
    have x3 := b2.trans hs
    have e94 : ∀ k, σ1 94 k = σ 94 k := fun k => by rw [x3 94 k (by omega) (by omega) (by omega), mup_o (by omega)]
    have er : mup σ1 94 6 0 94 = mup (mup σ 14 1 0) 94 6 0 94 := rows_eq (fun k => by
      by_cases z : k = 6
      · rw [mup_t ⟨rfl, z⟩, mup_t ⟨rfl, z⟩]
      · rw [mup_o (by omega), mup_o (by omega), mup_o (by omega), e94])
    obtain ⟨s2, m1, m2, m3⟩ := mcopy (r0 := 94) (r1 := 95) (by omega) (mup σ1 94 6 0)
    obtain ⟨σ2, g1, g2⟩ := vm s2 1000 (by omega) (fun j hj => by rw [m3 j (by omega), er]) (fun j _ => by rw [m2 _ _ (by omega), er]) (fun i hi => by rw [m2 _ _ (by omega), mup_o (by omega), e94])
    refine ⟨v, σ1, σ2, ?_, ?_, hz.hands (fun r k y1 y2 y3 y4 y5 y6 y7 y8 y9 => ?_)⟩
    · unfold f_X11_check
      rw [thas_n t1', Option.bind_some, bI_1 c1, k1, Option.bind_some, a1]
      exact b1
    · unfold f_X12_check
      rw [isThing_n (n := tN (σ 94)) (by rw [mup_o (by omega), e94]; exact t2) (by omega), Option.bind_some, bI_1 c1, m1, Option.bind_some, e94, a2]
      exact g1
    · rw [g2 r k y7 (by omega) y6, m2 r k (Or.inl y6)]
      by_cases z : r = 94
      · rw [z, er]
      · rw [mup_ne z, x3 r k y1 y2 (by omega), eR r z]
  · have ea : mup σ 14 1 0 97 1 = mup σ 14 1 0 92 1 := by rw [mup_o (by omega), mup_o (by omega)]; exact (h.2.1 1 (by omega)).symm
    refine ⟨(-1000000000 : Int32) - nI 1, mup (mup σ 14 1 0) 92 1 (mup σ 14 1 0 92 1 + 1), mup (mup (mup (mup σ 14 1 0) 92 1 (mup σ 14 1 0 92 1 + 1)) 94 6 0) 97 1 (mup σ 14 1 0 92 1 + 1), ?_, ?_, (hz.errs 1 (mup σ 14 1 0 92 1 + 1)).hands (fun r k y1 y2 y3 y4 y5 y6 y7 y8 y9 => ?_)⟩
    · unfold f_X11_check
      rw [thas_n t1', Option.bind_some, bI_0 c1]
      refine Eq.trans (congrArg (fun o => Option.bind o _) (error_eq (k := 1) (by omega) _)) ?_
      rfl
    · unfold f_X12_check
      rw [isThing_n (n := tN (σ 94)) (by rw [mup_o (by omega), mup_o (by omega), mup_o (by omega)]; exact t2) (by omega), Option.bind_some, bI_0 c1]
      refine Eq.trans (congrArg (fun o => Option.bind o _) (finds_eq (k := 1) (by omega) _)) ?_
      rw [Option.bind_some, mup_o (a := 94) (by omega), mup_o (a := 92) (by omega), ea]
    · simp only [mup_eq]
      repeat' split
      all_goals (first | rfl | (exfalso; omega))
