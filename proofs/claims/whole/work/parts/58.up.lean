theorem spent_x (q : Nat) (hq : q ≤ 2000000) : (if nI q < (999999 : Int32) then nI q else (999999 : Int32)) = nI (if q < 999999 then q else 999999) := by
  rw [show (999999 : Int32) = nI 999999 from rfl]
  simp (disch := omega) only [nI_lt_iff]
  by_cases z : q < 999999
  · rw [if_pos z, if_pos z]
  · rw [if_neg z, if_neg z]
theorem spent_m (q : Nat) (hq : q ≤ 2000000) (σ : Sg) : f_X12_held (nI q) 0 999999 σ = some (nI (if q < 999999 then q else 999999)) := by
  unfold f_X12_held
  rw [show (999999 : Int32) = nI 999999 from rfl, if_pos (nI_pos' (by omega))]
  simp (disch := omega) only [nI_le_iff]
  by_cases z : q < 999999
  · rw [if_pos z, if_pos (by omega)]
  · rw [if_neg z]
    by_cases y : q ≤ 999999
    · rw [if_pos y, show q = 999999 by omega]
    · rw [if_neg y]
/-- the days left of thing t -/
theorem up_eq {τ : Sg} {D0 D : Nat → Int32} {G : Nat → Int32 → Int32 → Int32 → Int32 → Int32} {m t : Nat} (gx : GX τ G) (gd : GD D0 G) (hW : WOK D m) (ht : t < tN D) (hb : D (46 + 6 * t + 2) = 1) : ∃ D', WOK D' m ∧ (∀ j, j < 46 + 6 * t ∨ 46 + 6 * t + 6 ≤ j → D' j = D j) ∧ (∀ (a : Nat) (σ : Sg), 11 < a → RW σ a D → TXs σ τ → ∃ σ', f_X10_comeNearer a 6 9 (nI t) σ = some σ' ∧ RW σ' a D' ∧ XF a σ' σ) ∧ (∀ (r : Nat) (σ : Sg) (n : Nat) (x2 : Int32), (r = 94 ∨ r = 95) → Row σ r D → TDs σ D0 → (x2 >>> (nI t &&& 31)) &&& 1 = 1 → ∃ σ', c_X12_goesBy_108 r (n + 1) x2 (nI t) σ = c_X12_goesBy_108 r n x2 (nI (t + 1)) σ' ∧ Row σ' r D' ∧ MF r σ' σ) := by
  have b1 := hW.2.2.1
  have b2 := hW.2.2.2.2.1
  obtain ⟨g0, g1, -, h4, h5, ⟨sp, sp1, sp2, sp3⟩⟩ := hW.2.2.2.2.2.2 t ht
  obtain ⟨w, hw, h3⟩ : ∃ j, j < wN D ∧ D (46 + 6 * t + 3) = nI j := by
    rcases h4 with ⟨z, -⟩ | z
    · exact absurd (hb.symm.trans z) (by decide)
    · exact z
  obtain ⟨l, l1, l2, l3⟩ : Sm (D (46 + 6 * t + 4)) 1 200 := by
    rcases h5 with ⟨-, z⟩ | ⟨z, -⟩
    · exact z
    · exact absurd hb z
  obtain ⟨-, -, ⟨to, to1, to2, to3⟩, ⟨fi, fi1, fi2, fi3⟩⟩ := hW.2.2.2.2.2.1 w hw
  obtain ⟨l, rfl⟩ : ∃ z, l = z + 1 := ⟨l - 1, by omega⟩
  have i4 : (46 : Int32) + (6 : Int32) * nI t + 4 = nI (46 + 6 * t + 4) := ixT t 4
  have i5 : (46 : Int32) + (6 : Int32) * nI t + 5 = nI (46 + 6 * t + 5) := ixT t 5
  have hM : ∀ (r : Nat) (σ : Sg) (n : Nat) (x2 : Int32), Row σ r D → (x2 >>> (nI t &&& 31)) &&& 1 = 1 → c_X12_goesBy_108 r (n + 1) x2 (nI t) σ = (if 0 < nI l then c_X12_goesBy_108 r n x2 (nI (t + 1)) (mup σ r (46 + 6 * t + 4) (nI l)) else (f_X12_goesUp r (nI t) (mup σ r (46 + 6 * t + 4) (nI l))).bind fun q25 => c_X12_goesBy_108 r n x2 (nI (t + 1)) q25) := fun r σ n x2 hr hx => by
    have hlt : ¬ σ r 2 ≤ nI t := by
      rw [hr 2 (by omega), hW.2.2.2.1]
      exact nI_ge ht (by omega)
    rw [c_X12_goesBy_108, if_neg hlt, if_pos hx, i4, gdI (by omega) (by omega), gdI (by omega) (by omega), gdI (by omega) (by omega), clI (by omega), hr (46 + 6 * t + 4) (by omega), l3, nIm1, mup_s]
    unfold c_X12_goesBy_159
    rw [nIp1]
  have hX : ∀ (a : Nat) (σ : Sg), RW σ a D → f_X10_comeNearer a 6 9 (nI t) σ = (if nI l ≤ 0 then ((f_X11_lay ((a + 6) + 6) 10 (nI t) (nI (if sp + to < 999999 then sp + to else 999999)) σ).bind fun q9 => ((f_X11_pick ((a + 1) + 4) 9 (nI w) q9).bind fun q10 => (if q10 = 0 then (c_X10_comeNearer_129 a 6 9 (nI t) (nI w) q9) else ((f_X11_pick ((a + 6) + 1) 10 (nI t) q9).bind fun q12 => ((f_X10_gives a 6 9 (1 : Int32) (nI w) q12 (q9 a 4) (nI (if sp + to < 999999 then sp + to else 999999)) q9).bind fun q13 => (if q13.1 = 0 then (c_X10_comeNearer_129 a 6 9 (nI t) (nI w) q13.2) else (c_X10_comeNearer_130 a 6 9 (nI t) (nI w) (1 : Int32) q13.2))))))) else ((f_X7_place (a + 6) (nI t) (1 : Int32) (nI w) (nI l) σ).bind fun q15 => (some q15))) := fun a σ hR => by
    obtain ⟨r0, r1, r2, r3, r4, r5⟩ := hR.2.2.2.2 t ht
    obtain ⟨u0, u1, u2, u3⟩ := hR.2.2.2.1 w hw
    have q3 : σ (a + 6 + 4) t = nI w := r3.trans h3
    have q4 : σ (a + 6 + 5) t = nI (l + 1) := r4.trans l3
    have q5 : σ (a + 6 + 6) t = nI sp := r5.trans sp3
    have v2 : σ (a + 1 + 3) w = nI to := u2.trans to3
    unfold f_X10_comeNearer
    rw [pick_at (by omega) (by omega), Option.bind_some, pick_at (by omega) (by omega), Option.bind_some, pick_at (by omega) (by omega), Option.bind_some, q3, q4, q5, pick_at (by omega) (by omega), Option.bind_some, v2, nIm1, nIa, spent_x _ (by omega)]
  by_cases z : l = 0
  · subst z
    generalize hs : (if sp + to < 999999 then sp + to else 999999) = s at hX
    have hs9 : s ≤ 999999 := by rw [← hs]; split <;> omega
    have hWs : WOK (upd D (46 + 6 * t + 5) (nI s)) m := by
      refine hW.sett ht (fun j hj => updn (by omega)) ⟨?_, ?_, ?_, ?_, ?_, ?_⟩
      · rw [updn (by omega)]; exact g0
      · rw [updn (by omega)]; exact g1
      · rw [updn (by omega), hb]; exact ⟨1, by omega, by omega, rfl⟩
      · rw [updn (by omega), updn (by omega), wN_cong (D := D) (updn (by omega))]; exact h4
      · rw [updn (by omega), updn (by omega)]; exact h5
      · rw [upds]; exact ⟨s, by omega, hs9, rfl⟩
    have wn : wN (upd D (46 + 6 * t + 5) (nI s)) = wN D := wN_cong (updn (by omega))
    have tn : tN (upd D (46 + 6 * t + 5) (nI s)) = tN D := tN_cong (updn (by omega))
    have hRs : ∀ (a : Nat) (σ : Sg), RW σ a D → RW (mup σ (a + 6 + 6) t (nI s)) a (upd D (46 + 6 * t + 5) (nI s)) := fun a σ hR => by
      obtain ⟨r0, r1, r2, r3, r4, r5⟩ := hR.2.2.2.2 t ht
      refine hR.sett hW ht (fun j hj => updn (by omega)) (fun r k x1 x2 x3 => mup_o (by omega)) ?_ ?_ ?_ ?_ ?_ ?_
      · rw [updn (by omega), mup_o (by omega)]; exact r0
      · rw [updn (by omega), mup_o (by omega)]; exact r1
      · rw [updn (by omega), mup_o (by omega)]; exact r2
      · rw [updn (by omega), mup_o (by omega)]; exact r3
      · rw [updn (by omega), mup_o (by omega)]; exact r4
      · rw [upds, mup_t (by omega)]
    have hU : ∀ (r : Nat) (σ : Sg), (r = 94 ∨ r = 95) → Row σ r D → f_X12_goesUp r (nI t) (mup σ r (46 + 6 * t + 4) (nI 0)) = (if nI fi = (1 : Int32) then ((f_X12_gives (1 : Int32) (nI w) (D (46 + 6 * t)) (D 0) (nI s) (mup (mup σ r (46 + 6 * t + 4) (nI 0)) r (46 + 6 * t + 5) (nI s))).bind fun q13 => (if q13.1 = 0 then (c_X12_goesUp_75 r (nI t) (nI w) q13.2) else (c_X12_goesUp_76 r (nI t) (nI w) (1 : Int32) q13.2))) else (c_X12_goesUp_75 r (nI t) (nI w) (mup (mup σ r (46 + 6 * t + 4) (nI 0)) r (46 + 6 * t + 5) (nI s)))) := fun r σ hr0 hr => by
      generalize hσ : mup σ r (46 + 6 * t + 4) (nI 0) = σ1
      have e1 : ∀ j, j < 106 → j ≠ 46 + 6 * t + 4 → σ1 r j = D j := fun j x y => by rw [← hσ, mup_o (by omega)]; exact hr j x
      have a3 := aThing_at (r := r) (t := t) (c := 3) (σ := σ1) (by omega) (by omega)
      have a5 := aThing_at (r := r) (t := t) (c := 5) (σ := σ1) (by omega) (by omega)
      have c2 := aWell_at (r := r) (w := w) (c := 2) (σ := σ1) (by omega) (by omega)
      have a0 := aThing_at (r := r) (t := t) (c := 0) (σ := mup σ1 r (46 + 6 * t + 5) (nI s)) (by omega) (by omega)
      have c3 := aWell_at (r := r) (w := w) (c := 3) (σ := mup σ1 r (46 + 6 * t + 5) (nI s)) (by omega) (by omega)
      rw [e1 _ (by omega) (by omega), h3, show nI 3 = (3 : Int32) from rfl] at a3
      rw [e1 _ (by omega) (by omega), sp3, show nI 5 = (5 : Int32) from rfl] at a5
      rw [e1 _ (by omega) (by omega), to3, show nI 2 = (2 : Int32) from rfl] at c2
      rw [mup_o (by omega), e1 _ (by omega) (by omega), show nI 0 = (0 : Int32) from rfl] at a0
      have a0' : f_X12_aThing r (nI t) 0 (mup σ1 r (46 + 6 * t + 5) (nI s)) = some (D (46 + 6 * t)) := a0
      rw [mup_o (by omega), e1 _ (by omega) (by omega), fi3, show nI 3 = (3 : Int32) from rfl] at c3
      have d0 : mup σ1 r (46 + 6 * t + 5) (nI s) r 0 = D 0 := by rw [mup_o (by omega)]; exact e1 0 (by omega) (by omega)
      unfold f_X12_goesUp
      rw [a3, Option.bind_some, a5, Option.bind_some, c2, Option.bind_some, nIa, spent_m _ (by omega), hs, Option.bind_some, i5, gdI (by omega) (by omega), clI (by omega), c3, Option.bind_some, a0', Option.bind_some, d0]
    have hRowS : ∀ (r : Nat) (σ : Sg), Row σ r D → Row (mup (mup σ r (46 + 6 * t + 4) (nI 0)) r (46 + 6 * t + 5) (nI s)) r (upd (upd D (46 + 6 * t + 5) (nI s)) (46 + 6 * t + 4) (nI 0)) := fun r σ hr j hj => by
      by_cases c5 : j = 46 + 6 * t + 5
      · subst c5; rw [mup_s, updn (by omega), upds]
      · rw [mup_o (by omega)]
        by_cases c4 : j = 46 + 6 * t + 4
        · subst c4; rw [mup_s, upds]
        · rw [mup_o (by omega), updn c4, updn c5]; exact hr j hj
    have pp : ∀ x : Int32, plc (upd (upd D (46 + 6 * t + 5) (nI s)) (46 + 6 * t + 4) (nI 0)) t x (nI w) 0 = plc (upd D (46 + 6 * t + 5) (nI s)) t x (nI w) 0 := fun x => by
      funext j
      by_cases c4 : j = 46 + 6 * t + 4
      · subst c4; rw [plc_4, plc_4]
      · by_cases c2 : j = 46 + 6 * t + 2
        · subst c2; rw [plc_2, plc_2]
        · by_cases c3 : j = 46 + 6 * t + 3
          · subst c3; rw [plc_3, plc_3]
          · rw [plc_o ⟨c2, c3, c4⟩, plc_o ⟨c2, c3, c4⟩, updn c4]
    have fin : ∀ x : Int32, (x = 0 ∨ x = 2) → (∀ (a : Nat) (σ : Sg), 11 < a → RW σ a D → TXs σ τ → ∃ f11, f_X10_comeNearer a 6 9 (nI t) σ = (f_X7_place (a + 6) (nI t) x (nI w) 0 (mrow (mup σ (a + 6 + 6) t (nI s)) 11 f11)).bind fun q => some q) → (∀ (r : Nat) (σ : Sg), (r = 94 ∨ r = 95) → Row σ r D → TDs σ D0 → ∃ σ1, Hnd σ1 (mup (mup σ r (46 + 6 * t + 4) (nI 0)) r (46 + 6 * t + 5) (nI s)) ∧ f_X12_goesUp r (nI t) (mup σ r (46 + 6 * t + 4) (nI 0)) = (f_X12_puts r (nI t) x (nI w) 0 σ1).bind fun q => some q) → ∃ D', WOK D' m ∧ (∀ j, j < 46 + 6 * t ∨ 46 + 6 * t + 6 ≤ j → D' j = D j) ∧ (∀ (a : Nat) (σ : Sg), 11 < a → RW σ a D → TXs σ τ → ∃ σ', f_X10_comeNearer a 6 9 (nI t) σ = some σ' ∧ RW σ' a D' ∧ XF a σ' σ) ∧ (∀ (r : Nat) (σ : Sg) (n : Nat) (x2 : Int32), (r = 94 ∨ r = 95) → Row σ r D → TDs σ D0 → (x2 >>> (nI t &&& 31)) &&& 1 = 1 → ∃ σ', c_X12_goesBy_108 r (n + 1) x2 (nI t) σ = c_X12_goesBy_108 r n x2 (nI (t + 1)) σ' ∧ Row σ' r D' ∧ MF r σ' σ) := by
      intro x hx fx fm
      refine ⟨plc (upd D (46 + 6 * t + 5) (nI s)) t x (nI w) 0, plc_W hWs (by omega) ?_ (Or.inr ⟨w, by omega, rfl⟩) (Or.inr ⟨?_, rfl⟩), fun j hj => ?_, fun a σ ha hR hT => ?_, fun r σ n x2 hr0 hr hT hx2 => ?_⟩
      · rcases hx with rfl | rfl
        · exact ⟨0, by omega, by omega, rfl⟩
        · exact ⟨2, by omega, by omega, rfl⟩
      · rcases hx with rfl | rfl <;> decide
      · rw [plc_o (by omega), updn (by omega)]
      · obtain ⟨f11, hf⟩ := fx a σ ha hR hT
        obtain ⟨σ', p1, p2, p3⟩ := xplace (t := t) (x := x) (y := nI w) (z := 0) hWs ((hRs a σ hR).frame (σ' := mrow (mup σ (a + 6 + 6) t (nI s)) 11 f11) (fun q _ _ => mrow_ne (by omega))) (by omega)
        refine ⟨σ', by rw [hf, p1]; rfl, p2, fun q k h8 h11 hq => ?_⟩
        rw [p3 q k hq, mrow_ne h11, mup_o (by omega)]
      · obtain ⟨σ1, hh, hf⟩ := fm r σ hr0 hr hT
        obtain ⟨σ', p1, p2, p3⟩ := mplace (σ := σ1) (r := r) (t := t) (x := x) (y := nI w) (z := 0) ((hRowS r σ hr).frame (fun q _ => hh r q (by omega) (by omega))) (by omega)
        rw [pp] at p2
        refine ⟨σ', ?_, p2, fun q k h98 h93 hq => ?_⟩
        · rw [hM r σ n x2 hr hx2, if_neg (by decide), hf, p1]; rfl
        · rw [p3 q k hq, hh q k h98 h93, mup_o (by omega), mup_o (by omega)]
    have hXp : ∀ (a : Nat) (σ : Sg), RW σ a D → f_X10_comeNearer a 6 9 (nI t) σ = (if nI fi = 0 then (c_X10_comeNearer_129 a 6 9 (nI t) (nI w) (mup σ (a + 6 + 6) t (nI s))) else ((f_X10_gives a 6 9 (1 : Int32) (nI w) (D (46 + 6 * t)) (D 0) (nI s) (mup σ (a + 6 + 6) t (nI s))).bind fun q13 => (if q13.1 = 0 then (c_X10_comeNearer_129 a 6 9 (nI t) (nI w) q13.2) else (c_X10_comeNearer_130 a 6 9 (nI t) (nI w) (1 : Int32) q13.2)))) := fun a σ hR => by
      obtain ⟨r0, r1, r2, r3, r4, r5⟩ := hR.2.2.2.2 t ht
      obtain ⟨u0, u1, u2, u3⟩ := hR.2.2.2.1 w hw
      have v3 : σ (a + 1 + 4) w = nI fi := u3.trans fi3
      have q0 : σ (a + 6 + 1) t = D (46 + 6 * t) := r0
      rw [hX a σ hR, if_pos (by decide), lay_at (by omega) (by omega), Option.bind_some, pick_at (by omega) (by omega), Option.bind_some, pick_at (by omega) (by omega), Option.bind_some, mup_o (by omega), mup_o (by omega), mup_o (by omega), v3, q0, hR.1]
    by_cases cf : fi = 0
    · refine fin 0 (Or.inl rfl) (fun a σ ha hR hT => ⟨mup σ (a + 6 + 6) t (nI s) 11, ?_⟩) (fun r σ hr0 hr hT => ⟨_, fun _ _ _ _ => rfl, ?_⟩)
      · rw [hXp a σ hR, cf, if_pos (by decide), mrow_self]
        rfl
      · rw [hU r σ hr0 hr, cf, if_neg (by decide)]
        rfl
    · have cf1 : fi = 1 := by omega
      by_cases cg : G 1 (nI w) (D (46 + 6 * t)) (D 0) (nI s) = 0
      · refine fin 0 (Or.inl rfl) (fun a σ ha hR hT => ?_) (fun r σ hr0 hr hT => ?_)
        · obtain ⟨f, hf⟩ := gx (mup σ (a + 6 + 6) t (nI s)) (by rw [mup_o (by omega)]; exact hT.1) (fun i hi => by rw [mup_o (by omega)]; exact hT.2.1 i hi) (by rw [mup_o (by omega)]; exact hT.2.2.1) (fun i hi => by rw [mup_o (by omega)]; exact hT.2.2.2 i hi) 1 (by omega) a (nI w) (D (46 + 6 * t)) (D 0) (nI s)
          refine ⟨f, ?_⟩
          rw [show nI 1 = (1 : Int32) from rfl] at hf
          rw [hXp a σ hR, cf1, if_neg (by decide), hf, Option.bind_some, if_pos cg]
          rfl
        · obtain ⟨σ1, hf, hh⟩ := gd (mup (mup σ r (46 + 6 * t + 4) (nI 0)) r (46 + 6 * t + 5) (nI s)) (fun j hj => by rw [mup_o (by omega), mup_o (by omega)]; exact hT j hj) 1 (by omega) (nI w) (D (46 + 6 * t)) (D 0) (nI s)
          refine ⟨σ1, hh, ?_⟩
          rw [show nI 1 = (1 : Int32) from rfl] at hf
          rw [hU r σ hr0 hr, cf1, if_pos (by decide), hf, Option.bind_some, if_pos cg]
          rfl
      · refine fin 2 (Or.inr rfl) (fun a σ ha hR hT => ?_) (fun r σ hr0 hr hT => ?_)
        · obtain ⟨f, hf⟩ := gx (mup σ (a + 6 + 6) t (nI s)) (by rw [mup_o (by omega)]; exact hT.1) (fun i hi => by rw [mup_o (by omega)]; exact hT.2.1 i hi) (by rw [mup_o (by omega)]; exact hT.2.2.1) (fun i hi => by rw [mup_o (by omega)]; exact hT.2.2.2 i hi) 1 (by omega) a (nI w) (D (46 + 6 * t)) (D 0) (nI s)
          refine ⟨f, ?_⟩
          rw [show nI 1 = (1 : Int32) from rfl] at hf
          rw [hXp a σ hR, cf1, if_neg (by decide), hf, Option.bind_some, if_neg cg]
          rfl
        · obtain ⟨σ1, hf, hh⟩ := gd (mup (mup σ r (46 + 6 * t + 4) (nI 0)) r (46 + 6 * t + 5) (nI s)) (fun j hj => by rw [mup_o (by omega), mup_o (by omega)]; exact hT j hj) 1 (by omega) (nI w) (D (46 + 6 * t)) (D 0) (nI s)
          refine ⟨σ1, hh, ?_⟩
          rw [show nI 1 = (1 : Int32) from rfl] at hf
          rw [hU r σ hr0 hr, cf1, if_pos (by decide), hf, Option.bind_some, if_neg cg]
          rfl
  · have hpos : 0 < nI l := nI_lt (a := 0) (by omega) (by omega)
    refine ⟨plc D t 1 (nI w) (nI l), plc_W hW ht ⟨1, by omega, by omega, rfl⟩ (Or.inr ⟨w, hw, rfl⟩) (Or.inl ⟨rfl, l, by omega, by omega, rfl⟩), fun j hj => plc_o (by omega), fun a σ ha hR hT => ?_, fun r σ n x2 hr0 hr hT hx2 => ?_⟩
    · obtain ⟨σ', p1, p2, p3⟩ := xplace (x := 1) (y := nI w) (z := nI l) hW hR ht
      refine ⟨σ', ?_, p2, fun q k _ _ hq => p3 q k hq⟩
      rw [hX a σ hR, if_neg (nI_gt0 (by omega) (by omega)), p1]
      rfl
    · refine ⟨mup σ r (46 + 6 * t + 4) (nI l), ?_, fun j hj => ?_, fun q k h98 h93 hq => mup_o (by omega)⟩
      · rw [hM r σ n x2 hr hx2, if_pos hpos]
      · by_cases c4 : j = 46 + 6 * t + 4
        · subst c4; rw [plc_4, mup_s]
        · rw [mup_o (by omega), hr j hj]
          by_cases c2 : j = 46 + 6 * t + 2
          · subst c2; rw [plc_2]; exact hb
          · by_cases c3 : j = 46 + 6 * t + 3
            · subst c3; rw [plc_3]; exact h3
            · rw [plc_o ⟨c2, c3, c4⟩]
