def nx (b st : Int32) : Int32 := if b = 0 then (if st = 1 then 1 else 0) else 1
def nm (b w : Int32) : Int32 := if b = 0 then (if 0 ≤ w then 0 else 1) else 1
theorem xround1 {τ : Sg} {D D1 : Nat → Int32} {m t i : Nat} {p : Int32} (d1 : WOK D1 m) (ht : t < tN D1) (hi : i ≤ 200) (dx : ∀ (a : Nat) (σ : Sg), 11 < a → RW σ a D → TXs σ τ → ∃ σ', f_X10_goBy a 6 9 1 σ = some σ' ∧ RW σ' a D1 ∧ XF a σ' σ) (σ : Sg) (f : Nat) (b : Int32) (hR : RW σ 44 D) (hT : TXs σ τ) : ∃ σ1, RW σ1 44 D1 ∧ XF 44 σ1 σ ∧ c_X11_round_59 (f + 1) (nI t) p b (nI i) σ = (if wo D1 t = p ∧ nx b (D1 (46 + 6 * t + 2)) ≠ 0 then some (nI i, σ1) else c_X11_round_59 f (nI t) p (nx b (D1 (46 + 6 * t + 2))) (nI (i + 1)) σ1) := by
  obtain ⟨σ1, f1, f2, f3⟩ := dx 44 σ (by omega) hR hT
  refine ⟨σ1, f2, f3, ?_⟩
  have b5 := d1.2.2.2.2.1
  have g := wellOf_eq (a := 44) (t := t) d1 f2 ht
  have hl : ¬ (200 : Int32) < nI i := by rw [show (200 : Int32) = nI 200 from rfl, nI_lt_iff (by omega) (by omega)]; omega
  have h9 : σ1 53 t = D1 (46 + 6 * t + 2) := (f2.2.2.2.2 t ht).2.2.1
  have key : ∀ s0 : Int32, c_X11_round_102 (c_X11_round_59 f) (nI t) p (nI i) s0 σ1 = (if wo D1 t = p ∧ s0 ≠ 0 then some (nI i, σ1) else c_X11_round_59 f (nI t) p s0 (nI (i + 1)) σ1) := fun s0 => by
    unfold c_X11_round_102 c_X11_round_125
    rw [nIp1]
    by_cases y : s0 = 0
    · rw [if_pos y, if_neg (fun z => z.2 y)]
    · rw [if_neg y, show (50 : Nat) = 44 + 6 from rfl, g, Option.bind_some]
      by_cases u : wo D1 t = p
      · rw [if_pos u, if_pos ⟨u, y⟩]
      · rw [if_neg u, if_neg (fun z => u z.1)]
  rw [c_X11_round_59, if_neg hl, f1, Option.bind_some]
  unfold c_X11_round_97
  unfold nx
  by_cases z : b = 0
  · rw [if_pos z, if_pos z, pick_at (by omega) (by omega), Option.bind_some, h9]
    by_cases y : D1 (46 + 6 * t + 2) = 1
    · rw [if_pos y, if_pos y, key]
    · rw [if_neg y, if_neg y, key]
  · rw [if_neg z, if_neg z, key]
theorem mround1 {D0 D D1 : Nat → Int32} {m t i : Nat} {p : Int32} (d1 : WOK D1 m) (ht : t < tN D1) (hi : i ≤ 200) (dm : ∀ (r : Nat) (σ : Sg), (r = 94 ∨ r = 95) → Row σ r D → TDs σ D0 → ∃ σ', f_X12_goesBy r σ = some σ' ∧ Row σ' r D1 ∧ MF r σ' σ) (σ : Sg) (f : Nat) (b : Int32) (hr : Row σ 95 D) (hT : TDs σ D0) : ∃ σ1, Row σ1 95 D1 ∧ MF 95 σ1 σ ∧ c_X12_round_117 (f + 1) (nI t) p b (nI i) σ = (if wo D1 t = p ∧ nm b (wo D1 t) ≠ 0 then some (nI i, σ1) else c_X12_round_117 f (nI t) p (nm b (wo D1 t)) (nI (i + 1)) σ1) := by
  obtain ⟨σ1, f1, f2, f3⟩ := dm 95 σ (Or.inr rfl) hr hT
  refine ⟨σ1, f2, f3, ?_⟩
  have b5 := d1.2.2.2.2.1
  have g := inWhich_eq (t := t) d1 f2 ht
  have hl : ¬ (200 : Int32) < nI i := by rw [show (200 : Int32) = nI 200 from rfl, nI_lt_iff (by omega) (by omega)]; omega
  have key : ∀ s0 : Int32, c_X12_round_153 (c_X12_round_117 f) (nI t) p (nI i) s0 σ1 = (if wo D1 t = p ∧ s0 ≠ 0 then some (nI i, σ1) else c_X12_round_117 f (nI t) p s0 (nI (i + 1)) σ1) := fun s0 => by
    unfold c_X12_round_153 c_X12_round_173
    rw [nIp1]
    by_cases y : s0 = 0
    · rw [if_pos y, if_neg (fun z => z.2 y)]
    · rw [if_neg y, g, Option.bind_some]
      by_cases u : wo D1 t = p
      · rw [if_pos u, if_pos ⟨u, y⟩]
      · rw [if_neg u, if_neg (fun z => u z.1)]
  rw [c_X12_round_117, if_neg hl, f1, Option.bind_some]
  unfold c_X12_round_148
  unfold nm
  by_cases z : b = 0
  · rw [if_pos z, if_pos z, g, Option.bind_some]
    by_cases y : 0 ≤ wo D1 t
    · rw [if_pos y, if_pos y, key]
    · rw [if_neg y, if_neg y, key]
  · rw [if_neg z, if_neg z, key]
theorem round_go {τ : Sg} {D0 : Nat → Int32} {G : Nat → Int32 → Int32 → Int32 → Int32 → Int32} {t w : Nat} (hG : ∀ A B C F, Sm (G 0 A B C F) 0 30) (gx : GX τ G) (gd : GD D0 G) (hw9 : w < 9) : ∀ j i D m bx bm, (bx = bm ∨ D (46 + 6 * t + 2) = 2) → WOK D m → m ≤ 50000 + i → 201 - i = j → i ≤ 201 → t < tN D → (∃ v, (∀ (σ : Sg) (f : Nat), j < f → RW σ 44 D → TXs σ τ → ∃ σ', c_X11_round_59 f (nI t) (nI w) bx (nI i) σ = some (v, σ') ∧ XF 44 σ' σ) ∧ (∀ (σ : Sg) (f : Nat), j < f → Row σ 95 D → TDs σ D0 → ∃ σ', c_X12_round_117 f (nI t) (nI w) bm (nI i) σ = some (v, σ') ∧ HF σ' σ)) ∨ ((∀ (σ : Sg) (f : Nat), j < f → RW σ 44 D → TXs σ τ → ∃ σ', (c_X11_round_59 f (nI t) (nI w) bx (nI i) σ = (f_X11_error (nI 2) σ').bind fun q => some (q.1, q.2)) ∧ XF 44 σ' σ) ∧ (∀ (σ : Sg) (f : Nat), j < f → Row σ 95 D → TDs σ D0 → ∃ σ', (c_X12_round_117 f (nI t) (nI w) bm (nI i) σ = (f_X12_finds (nI 2) σ').bind fun q => some (q.1, q.2)) ∧ HF σ' σ)) := by
  intro j
  induction j with
  | zero =>
    intro i D m bx bm hb hW hm hj hi ht
    have hl : (200 : Int32) < nI i := by rw [show (200 : Int32) = nI 200 from rfl, nI_lt_iff (by omega) (by omega)]; omega
    refine Or.inr ⟨fun σ f hf hR hT => ⟨σ, ?_, fun _ _ _ _ _ => rfl⟩, fun σ f hf hr hT => ⟨σ, ?_, fun _ _ _ _ _ => rfl⟩⟩
    · obtain ⟨f, rfl⟩ : ∃ k, f = k + 1 := ⟨f - 1, by omega⟩
      rw [c_X11_round_59, if_pos hl]
      rfl
    · obtain ⟨f, rfl⟩ : ∃ k, f = k + 1 := ⟨f - 1, by omega⟩
      rw [c_X12_round_117, if_pos hl]
      rfl
  | succ j ih =>
    intro i D m bx bm hb hW hm hj hi ht
    obtain ⟨D1, d1, d3, d4, dx, dm⟩ := one_day3 hG gx gd hW (by omega)
    have tn : tN D1 = tN D := tN_cong (d3 2 (by omega))
    have hX := fun σ f hR hT => xround1 (p := nI w) d1 (t := t) (i := i) (by omega) (by omega) dx σ f bx hR hT
    have hM := fun σ f hr hT => mround1 (p := nI w) d1 (t := t) (i := i) (by omega) (by omega) dm σ f bm hr hT
    have p0 : ¬ (-1 : Int32) = nI w := fun z => absurd (z ▸ nI_pos' (show w < 2 ^ 31 by omega) : (0 : Int32) ≤ -1) (by decide)
    have rel : D1 (46 + 6 * t + 2) ≠ 0 → wo D1 t = -1 := fun z => by unfold wo; rw [if_neg z]
    have same : D1 (46 + 6 * t + 2) ≠ 2 → nx bx (D1 (46 + 6 * t + 2)) = nm bm (wo D1 t) := fun z => by
      have eb : bx = bm := by
        rcases hb with y | y
        · exact y
        · exact absurd (d4 t y) z
      subst eb
      by_cases c0 : D1 (46 + 6 * t + 2) = 0
      · obtain ⟨w', hw', e3⟩ := at_in d1 (by omega) c0
        have b1 := d1.2.2.1
        have ew : wo D1 t = nI w' := by unfold wo; rw [if_pos c0, e3]
        unfold nx nm
        rw [c0, ew, if_neg (by decide : ¬ (0 : Int32) = 1), if_pos (nI_pos' (show w' < 2 ^ 31 by omega))]
      · have c1 : D1 (46 + 6 * t + 2) = 1 := by
          obtain ⟨-, -, ⟨k, k1, k2, k3⟩, -⟩ := d1.2.2.2.2.2.2 t (by omega)
          rw [k3] at c0 z ⊢
          have : k ≠ 0 := fun y => c0 (by rw [y]; rfl)
          have : k ≠ 2 := fun y => z (by rw [y]; rfl)
          rw [show k = 1 by omega]
          rfl
        unfold nx nm
        rw [c1, rel (by rw [c1]; decide), if_pos rfl, if_neg (by decide : ¬ (0 : Int32) ≤ -1)]
    by_cases stop : wo D1 t = nI w ∧ nx bx (D1 (46 + 6 * t + 2)) ≠ 0
    · have c2 : D1 (46 + 6 * t + 2) ≠ 2 := fun y => p0 ((rel (by rw [y]; decide)).symm.trans stop.1)
      have stop2 : wo D1 t = nI w ∧ nm bm (wo D1 t) ≠ 0 := ⟨stop.1, by rw [← same c2]; exact stop.2⟩
      refine Or.inl ⟨nI i, fun σ f hf hR hT => ?_, fun σ f hf hr hT => ?_⟩
      · obtain ⟨f, rfl⟩ : ∃ k, f = k + 1 := ⟨f - 1, by omega⟩
        obtain ⟨σ1, a1, a2, a3⟩ := hX σ f hR hT
        exact ⟨σ1, by rw [a3, if_pos stop], a2⟩
      · obtain ⟨f, rfl⟩ : ∃ k, f = k + 1 := ⟨f - 1, by omega⟩
        obtain ⟨σ1, a1, a2, a3⟩ := hM σ f hr hT
        exact ⟨σ1, by rw [a3, if_pos stop2], fun q k x y w => a2 q k x y (Or.inl w)⟩
    · have stop2 : ¬ (wo D1 t = nI w ∧ nm bm (wo D1 t) ≠ 0) := fun z => by
        have c2 : D1 (46 + 6 * t + 2) ≠ 2 := fun y => p0 ((rel (by rw [y]; decide)).symm.trans z.1)
        exact stop ⟨z.1, by rw [same c2]; exact z.2⟩
      have hb1 : nx bx (D1 (46 + 6 * t + 2)) = nm bm (wo D1 t) ∨ D1 (46 + 6 * t + 2) = 2 := by
        by_cases c2 : D1 (46 + 6 * t + 2) = 2
        · exact Or.inr c2
        · exact Or.inl (same c2)
      rcases ih (i + 1) D1 (m + 1) _ _ hb1 d1 (by omega) (by omega) (by omega) (by omega) with ⟨v, vx, vm⟩ | ⟨vx, vm⟩
      · refine Or.inl ⟨v, fun σ f hf hR hT => ?_, fun σ f hf hr hT => ?_⟩
        · obtain ⟨f, rfl⟩ : ∃ k, f = k + 1 := ⟨f - 1, by omega⟩
          obtain ⟨σ1, a1, a2, a3⟩ := hX σ f hR hT
          obtain ⟨σ', b1, b2⟩ := vx σ1 f (by omega) a1 (hT.keep (by omega) a2)
          exact ⟨σ', by rw [a3, if_neg stop]; exact b1, b2.trans a2⟩
        · obtain ⟨f, rfl⟩ : ∃ k, f = k + 1 := ⟨f - 1, by omega⟩
          obtain ⟨σ1, a1, a2, a3⟩ := hM σ f hr hT
          obtain ⟨σ', b1, b2⟩ := vm σ1 f (by omega) a1 (hT.keep a2)
          exact ⟨σ', by rw [a3, if_neg stop2]; exact b1, fun q k x y w => (b2 q k x y w).trans (a2 q k x y (Or.inl w))⟩
      · refine Or.inr ⟨fun σ f hf hR hT => ?_, fun σ f hf hr hT => ?_⟩
        · obtain ⟨f, rfl⟩ : ∃ k, f = k + 1 := ⟨f - 1, by omega⟩
          obtain ⟨σ1, a1, a2, a3⟩ := hX σ f hR hT
          obtain ⟨σ', b1, b2⟩ := vx σ1 f (by omega) a1 (hT.keep (by omega) a2)
          exact ⟨σ', by rw [a3, if_neg stop]; exact b1, b2.trans a2⟩
        · obtain ⟨f, rfl⟩ : ∃ k, f = k + 1 := ⟨f - 1, by omega⟩
          obtain ⟨σ1, a1, a2, a3⟩ := hM σ f hr hT
          obtain ⟨σ', b1, b2⟩ := vm σ1 f (by omega) a1 (hT.keep a2)
          exact ⟨σ', by rw [a3, if_neg stop2]; exact b1, fun q k x y w => (b2 q k x y w).trans (a2 q k x y (Or.inl w))⟩
theorem eq_round {xs : Nat → Int32} {σ : Sg} (h : Inv xs σ) (p0 p1 : Int32) : Good xs (f_X11_round p0 p1 σ) (f_X12_round p0 p1) := by
  obtain ⟨w1, w2, w3, t1, t2, t3⟩ := h.base
  obtain ⟨h1, h2, h3, h4⟩ := h.1
  by_cases c1 : 0 ≤ p0 ∧ p0 < nI (tN (σ 94))
  · by_cases c2 : 0 ≤ p1 ∧ p1 < nI (wN (σ 94))
    · obtain ⟨t, ht, rfl⟩ := nI_get (by omega) c1.1 c1.2
      obtain ⟨w, hw, rfl⟩ := nI_get (by omega) c2.1 c2.2
      obtain ⟨G, hG, gx, gd⟩ := gives_ex (τ := σ) (D := σ 94) h4.2.2.2.2.2.2.2.1 h4.2.2.2.2.2.2.2.2
      obtain ⟨s, k1, k2, k3⟩ := wcopy (a := 44) (r0 := 31) (x := 6) (y := 9) (z := 6) (u := 9) σ (by omega)
      obtain ⟨s', l1, l2, l3⟩ := xlone h1 hw ht (k3 _ _ h1 h3)
      have hs : XF 44 s' σ := l3.trans (fun q k _ _ hq => k2 q k (by omega))
      have hT : TXs s' σ := TXs.keep (a := 44) ⟨rfl, fun _ _ => rfl, rfl, fun _ _ => rfl⟩ (by omega) hs
      have hX : f_X11_round (nI t) (nI w) σ = c_X11_round_59 1000 (nI t) (nI w) 0 (nI 1) s' := by
        unfold f_X11_round
        rw [thas_n t1, Option.bind_some, bI_1 c1, has_n w1, Option.bind_some, bI_1 c2, k1, Option.bind_some, l1, Option.bind_some]
        rfl
      have hM : ∀ σ1 : Sg, σ1 94 = σ 94 → ∃ s2, f_X12_round (nI t) (nI w) σ1 = c_X12_round_117 1000 (nI t) (nI w) 0 (nI 1) s2 ∧ Row s2 95 (lone (σ 94) t (nI w)) ∧ TDs s2 (σ 94) ∧ HF s2 σ1 := fun σ1 e => by
        obtain ⟨s2, a1, a2, a3⟩ := mcopy (r0 := 94) (r1 := 95) (by omega) σ1
        obtain ⟨s3, b1, b2, b3⟩ := mlone h1 hw ht (σ := s2) (fun j hj => by rw [a3 j (by omega), e])
        refine ⟨s3, ?_, b2, TDs.keep (fun j _ => by rw [a2 _ _ (by omega), e]) b3, fun q k x y z => (b3 q k x y (Or.inl z)).trans (a2 q k (Or.inl z))⟩
        unfold f_X12_round
        rw [isThing_n (by rw [e]; exact t2) (by omega), Option.bind_some, bI_1 c1, isWell_n (by rw [e]; exact w2) (by omega), Option.bind_some, bI_1 c2, a1, Option.bind_some]
        exact b1
      have tl : tN (lone (σ 94) t (nI w)) = tN (σ 94) := tN_cong (lone_o (by omega) (by omega))
      rcases round_go (t := t) (w := w) hG gx gd (by omega) 200 1 (lone (σ 94) t (nI w)) 9999 0 0 (Or.inl rfl) (lone_W h1 hw) (by omega) (by omega) (by omega) (by omega) with ⟨v, vx, vm⟩ | ⟨vx, vm⟩
      · obtain ⟨σ1, b1, b2⟩ := vx s' 1000 (by omega) l2 hT
        have x3 := b2.trans hs
        obtain ⟨s2, m1, m2, m3, m4⟩ := hM σ1 (rows_eq (fun k => x3 94 k (by omega) (by omega) (by omega)))
        obtain ⟨σ2, g1, g2⟩ := vm s2 1000 (by omega) m2 m3
        refine ⟨v, σ1, σ2, hX.trans b1, m1.trans g1, h.hands (fun r k y1 y2 y3 y4 y5 y6 y7 y8 y9 => ?_)⟩
        rw [g2 r k y7 (by omega) y6, m4 r k y7 (by omega) y6, x3 r k y1 y2 (by omega)]
      · obtain ⟨σa, b1, b2⟩ := vx s' 1000 (by omega) l2 hT
        have x3 := b2.trans hs
        have ha : Inv xs σa := h.hands (fun r k y1 y2 y3 y4 y5 y6 y7 y8 y9 => x3 r k y1 y2 (by omega))
        refine good_err2 ha (k := 2) (by decide) (hX.trans b1) (fun σ1 e => ?_)
        obtain ⟨s2, m1, m2, m3, m4⟩ := hM σ1 (by rw [e 94 (by decide)]; exact rows_eq (fun k => x3 94 k (by omega) (by omega) (by omega)))
        obtain ⟨σb, g1, g2⟩ := vm s2 1000 (by omega) m2 m3
        exact ⟨σb, m1.trans g1, fun q j x y z => (g2 q j x y z).trans (m4 q j x y z)⟩
    · refine good_err h (k := 1) (by decide) ?_ (fun σ1 e => ?_)
      · unfold f_X11_round
        rw [thas_n t1, Option.bind_some, bI_1 c1, has_n w1, Option.bind_some, bI_0 c2]
        rfl
      · unfold f_X12_round
        rw [isThing_n (by rw [e 94 (by decide)]; exact t2) (by omega), Option.bind_some, bI_1 c1, isWell_n (by rw [e 94 (by decide)]; exact w2) (by omega), Option.bind_some, bI_0 c2]
        rfl
  · refine good_err h (k := 1) (by decide) ?_ (fun σ1 e => ?_)
    · unfold f_X11_round
      rw [thas_n t1, Option.bind_some, bI_0 c1]
      rfl
    · unfold f_X12_round
      rw [isThing_n (by rw [e 94 (by decide)]; exact t2) (by omega), Option.bind_some, bI_0 c1]
      rfl
