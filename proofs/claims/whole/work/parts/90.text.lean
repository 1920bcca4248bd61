theorem Inv.textd {xs : Nat → Int32} {σ σ2 : Sg} (h : Inv xs σ) (e : ∀ r k, (r ≠ 12 ∨ k ≠ 1) → (r < 6 ∨ 11 < r) → (r < 70 ∨ 72 < r) → (r ≠ 93 ∨ k < 5 ∨ 10 < k) → (r ≠ 94 ∨ (k ≠ 5 ∧ (k < 142 ∨ (143 < k ∧ k < 164) ∨ 264 ≤ k))) → σ2 r k = σ r k) (v1 : σ2 12 1 = 0) (v2 : σ2 94 5 = 0) (t0 : TR σ2 6 (σ2 94) 0) (t1 : TR σ2 9 (σ2 94) 1) : Inv xs σ2 := by
  obtain ⟨h1, h2, h3, h4⟩ := h.1
  obtain ⟨⟨f1, f2, f3⟩, ⟨p1, p2, p3⟩, ⟨a1, a2, a3⟩⟩ := h.dk
  have eF : fN (σ2 94) = fN (σ 94) := by unfold fN; rw [e 94 3 (by omega) (by omega) (by omega) (by omega) (by omega)]
  have eP : pN (σ2 94) = 0 := pN_of v2 (by omega)
  have eA : aN (σ2 94) = aN (σ 94) := by unfold aN; rw [e 94 6 (by omega) (by omega) (by omega) (by omega) (by omega)]
  have eW : wN (σ2 94) = wN (σ 94) := wN_cong (e 94 1 (by omega) (by omega) (by omega) (by omega) (by omega))
  refine h.desk2 (fun j hj => e 94 j (by omega) (by omega) (by omega) (by omega) (by omega)) (fun r k x1 x2 x3 x4 x5 => e r k (by omega) (by omega) (by omega) x4 (by omega)) ?_ ?_
  · obtain ⟨b1, b2, b3, b4, b5, b6, b7, b8⟩ := h2
    refine ⟨?_, by omega, fun f hf => ?_, by rw [eP]; exact v2, by omega, fun i hi => by omega, ?_, by omega⟩
    · rw [eF, e 94 3 (by omega) (by omega) (by omega) (by omega) (by omega)]; exact b1
    · rw [eW, e 94 _ (by omega) (by omega) (by omega) (by omega) (by omega), e 94 _ (by omega) (by omega) (by omega) (by omega) (by omega), e 94 _ (by omega) (by omega) (by omega) (by omega) (by omega)]
      exact b3 f (by omega)
    · rw [eA, e 94 6 (by omega) (by omega) (by omega) (by omega) (by omega)]; exact b7
  · obtain ⟨r1, r2, r3, r4, r5, r6, r7, r8⟩ := id h4
    refine ⟨?_, ?_, fun f hf => ?_, by rw [v2]; exact v1, fun i hi => by omega, ?_, fun i hi => ?_, t0, t1⟩
    · rw [e 94 4 (by omega) (by omega) (by omega) (by omega) (by omega), e _ _ (by omega) (by omega) (by omega) (by omega) (by omega)]; exact r1
    · rw [e 94 3 (by omega) (by omega) (by omega) (by omega) (by omega), e _ _ (by omega) (by omega) (by omega) (by omega) (by omega)]; exact r2
    · rw [e 94 _ (by omega) (by omega) (by omega) (by omega) (by omega), e 94 _ (by omega) (by omega) (by omega) (by omega) (by omega), e 94 _ (by omega) (by omega) (by omega) (by omega) (by omega), e _ _ (by omega) (by omega) (by omega) (by omega) (by omega), e _ _ (by omega) (by omega) (by omega) (by omega) (by omega), e _ _ (by omega) (by omega) (by omega) (by omega) (by omega)]
      exact r3 f (by omega)
    · rw [e 94 6 (by omega) (by omega) (by omega) (by omega) (by omega), e _ _ (by omega) (by omega) (by omega) (by omega) (by omega)]; exact r6
    · rw [e 94 _ (by omega) (by omega) (by omega) (by omega) (by omega), e _ _ (by omega) (by omega) (by omega) (by omega) (by omega)]; exact r7 i (by omega)
theorem isUse_n {u : Nat} (hu : u ≤ 1) (σ : Sg) : f_X11_isUse (nI u) σ = some 1 := by
  obtain rfl | rfl : u = 0 ∨ u = 1 := by omega
  · rfl
  · rfl
theorem text_use {xs : Nat → Int32} {σ : Sg} (h : Inv xs σ) {u : Nat} (hu : u ≤ 1) : Good xs (f_X11_text (nI u) σ) (f_X12_text (nI u)) := by
  obtain ⟨h1, h2, h3, h4⟩ := h.1
  obtain ⟨-, ⟨p1, p2, p3⟩, -⟩ := h.dk
  have r5 := h4.2.2.2.2.1
  generalize hn : pN (σ 94) = n at p1 p2 p3 r5
  generalize hs : mup (mup (mup σ 70 2 (nI u)) 70 3 0) 71 2 0 = sX
  have o1 : ∀ r k, (r ≠ 70 ∨ (k ≠ 2 ∧ k ≠ 3)) → (r ≠ 71 ∨ k ≠ 2) → sX r k = σ r k := fun r k a b => by rw [← hs, mup_o (by omega), mup_o (by omega), mup_o (by omega)]
  have hXS : XS (fun i => σ 94 (264 + i)) n u 0 0 sX := by
    refine ⟨?_, ?_, ?_, fun i hi => ?_, ?_⟩
    · rw [← hs]; simp (disch := omega) only [mup_o, mup_s]
    · rw [← hs]; simp (disch := omega) only [mup_o, mup_s]; rfl
    · rw [o1 _ _ (by omega) (by omega)]; exact p1
    · rw [o1 _ _ (by omega) (by omega)]; exact r5 i hi
    · rw [← hs]; simp (disch := omega) only [mup_s]; rfl
  have hXK : ∀ {q : Sg}, XK q sX → ∀ r k, r ≠ 72 → (r ≠ 70 ∨ (k ≠ 2 ∧ k ≠ 3)) → (r ≠ 71 ∨ k ≠ 2) → q r k = σ r k := fun hq r k a b c => (hq r k a (by omega) c).trans (o1 r k b c)
  have hF : f_X3_faultFor (nI u) σ = (f_X3_reads 64 (nI 0) (nI 0) sX).bind fun q1 => (if q1.1 = 0 then (some ((q1.2 70 3), q1.2)) else (if (q1.2 70 3) = (q1.2 12 1) then (some ((-1 : Int32), q1.2)) else (some ((q1.2 70 3), q1.2)))) := by
    unfold f_X3_faultFor
    rw [hs]
    rfl
  have isI : ∀ τ : Sg, f_X12_isIn (nI u).toInt64 (0 : Int32).toInt64 (1 : Int32).toInt64 τ = some 1 := fun τ => by
    rw [isIn_eq, if_pos ⟨nI_pos' (by omega), by rw [show (1 : Int32) = nI 1 from rfl, nI_le_iff (by omega) (by omega)]; exact hu⟩]
  -- a fault
  have bad : ∀ pf q, pf ≤ 50 → f_X3_faultFor (nI u) σ = some (nI pf, q) → XK q sX → (∀ τ : Sg, (∀ i, i < n → τ 94 (264 + i) = σ 94 (264 + i)) → ∃ v σw, f_X12_worked (nI 264) (nI n) (nI u) τ = some (v, σw) ∧ σw 93 8 = nI pf ∧ WF σw τ) → Good xs (f_X11_text (nI u) σ) (f_X12_text (nI u)) := fun pf q hpf e1 e2 e3 => by
    have e4 := hXK e2
    have f1 : ∀ r k, (r ≠ 12 ∨ k ≠ 1) → (r < 70 ∨ 72 < r) → mup q 12 1 0 r k = σ r k := fun r k a b => by rw [mup_o (by omega), e4 r k (by omega) (by omega) (by omega)]
    obtain ⟨v, σw, g1, g2, g3⟩ := e3 (mup (mup q 12 1 0) 94 5 0) (fun i hi => by rw [mup_o (by omega), f1 _ _ (by omega) (by omega)])
    have g4 : ∀ r k, (r ≠ 12 ∨ k ≠ 1) → (r < 70 ∨ 72 < r) → (r ≠ 93 ∨ k < 5 ∨ 10 < k) → (r ≠ 94 ∨ k ≠ 5) → σw r k = σ r k := fun r k a b c d => by rw [g3 r k c, mup_o (by omega), f1 r k a b]
    refine ⟨(-10 : Int32) - nI pf, mup q 12 1 0, σw, ?_, ?_, h.textd (fun r k x1 x2 x3 x4 x5 => g4 r k x1 x3 x4 (by omega)) ?_ ?_ ?_ ?_⟩
    · unfold f_X11_text
      rw [isUse_n hu, Option.bind_some, if_neg one_ne, e1, Option.bind_some, if_neg (nI_pos (by omega))]
    · unfold f_X12_text
      rw [isI, Option.bind_some, if_neg one_ne, f1 94 5 (by omega) (by omega), p2]
      refine Eq.trans (congrArg (fun o => Option.bind o _) g1) ?_
      rw [Option.bind_some]
      have a8 : ¬ σw 93 8 < 0 := by rw [g2]; exact nI_pos (by omega)
      rw [if_neg a8]
      dsimp only
      rw [g2]
    · rw [g3 12 1 (by omega), mup_o (by omega), mup_s]
    · rw [g3 94 5 (by omega), mup_s]
    · exact (TR.frame h4.2.2.2.2.2.2.2.1 (g4 6 2 (by omega) (by omega) (by omega) (by omega)) (rows_eq (fun k => g4 7 k (by omega) (by omega) (by omega) (by omega)))).cong (by omega) (fun j hj => g4 94 j (by omega) (by omega) (by omega) (by omega))
    · exact (TR.frame h4.2.2.2.2.2.2.2.2 (g4 9 2 (by omega) (by omega) (by omega) (by omega)) (rows_eq (fun k => g4 10 k (by omega) (by omega) (by omega) (by omega)))).cong (by omega) (fun j hj => g4 94 j (by omega) (by omega) (by omega) (by omega))
  rcases text_out (B := fun i => σ 94 (264 + i)) p3 hu with ⟨p', cd, V, ok⟩ | ⟨pf, bd⟩
  · obtain ⟨q, e1, e2⟩ := ok.2.2.2.2.1 sX 0 hXS (by omega)
    have q3 : q 70 3 = nI p' := e2.1
    have q12 : q 12 1 = nI n := by rw [hXK e2.2.2.2.2 12 1 (by omega) (by omega) (by omega)]; exact p1
    have hp' := ok.2.1
    by_cases z : p' = n
    · subst z
      have hf : f_X3_faultFor (nI u) σ = some (-1, q) := by
        have : q 70 3 = q 12 1 := by rw [q3, q12]
        rw [hF, e1, Option.bind_some, if_neg one_ne, if_pos this]
      have e4 := hXK e2.2.2.2.2
      have hln : cd.length ≤ 50 := by have := ok.2.2.1; omega
      have hcopy : ∃ σ1, f_X11_text (nI u) σ = some (1, σ1) ∧ (∀ r k, (r ≠ 12 ∨ k ≠ 1) → (r < 70 ∨ 72 < r) → r ≠ 6 + 3 * u → r ≠ 6 + 3 * u + 1 → σ1 r k = σ r k) ∧ σ1 12 1 = 0 ∧ σ1 (6 + 3 * u) 2 = nI cd.length ∧ (∀ j, j < cd.length → σ1 (6 + 3 * u + 1) j = cd.getD j 0) := by
        have cp1 : ∀ s0, f_X6_copyFrom s0 71 (mup q 12 1 0) = some (mup (cp (mup q 12 1 0) 72 (s0 + 1) 50) s0 2 (cp (mup q 12 1 0) 72 (s0 + 1) 50 71 2)) := fun s0 => by
          unfold f_X6_copyFrom
          rw [copyRow_eq _ (by omega), Option.bind_some]
        refine ⟨mup (cp (mup q 12 1 0) 72 (6 + 3 * u + 1) 50) (6 + 3 * u) 2 (cp (mup q 12 1 0) 72 (6 + 3 * u + 1) 50 71 2), ?_, fun r k a b c d => ?_, ?_, ?_, fun j hj => ?_⟩
        · unfold f_X11_text
          rw [isUse_n hu, Option.bind_some, if_neg one_ne, hf, Option.bind_some, if_pos n1lt]
          unfold c_X11_text_63
          obtain rfl | rfl : u = 0 ∨ u = 1 := by omega
          · rw [if_pos (show nI 0 = (0 : Int32) from rfl), cp1 6]
            rfl
          · rw [if_neg (by decide), cp1 9]
            rfl
        · rw [mup_o (by omega), cp_o (by omega), mup_o (by omega), e4 r k (by omega) (by omega) (by omega)]
        · rw [mup_o (by omega), cp_o (by omega), mup_s]
        · rw [mup_s, cp_o (by omega), mup_o (by omega), e2.2.1, Nat.zero_add]
        · rw [mup_o (by omega), cp_s (by omega), mup_o (by omega)]
          have := e2.2.2.2.1 j hj
          rw [Nat.zero_add] at this
          exact this
      obtain ⟨σ1, c1, c2, c3, c4, c5⟩ := hcopy
      have e94 : ∀ k, σ1 94 k = σ 94 k := fun k => c2 94 k (by omega) (by omega) (by omega) (by omega)
      obtain ⟨σw, g1, g2, g3⟩ := worked_ok (base := 264) hu p3 (by omega) ok (mup σ1 94 5 0) (fun i hi => by rw [mup_o (by omega), e94])
      rw [if_pos (Nat.le_refl _)] at g1
      obtain ⟨σ2, l1, l2, l3⟩ := mtext_go p3 hu p' 0 1000 (mup σw 94 (142 + u) (nI p')) (by omega) (by omega) (by omega)
      have w4 : ∀ r k, (r ≠ 93 ∨ k < 5 ∨ 10 < k) → (r ≠ 94 ∨ k ≠ 5) → σw r k = σ1 r k := fun r k a b => by rw [g3 r k a, mup_o (by omega)]
      have w5 : ∀ r k, (r ≠ 93 ∨ k < 5 ∨ 10 < k) → (r ≠ 94 ∨ (k ≠ 5 ∧ k ≠ 142 + u ∧ (k < 164 + 50 * u ∨ 164 + 50 * u + p' ≤ k))) → σ2 r k = σ1 r k := fun r k a b => by rw [l3 r k (by omega), mup_o (by omega), w4 r k a (by omega)]
      have d1 : σ2 94 (142 + u) = nI p' := by rw [l3 _ _ (by omega), mup_s]
      have d2 : ∀ i, i < p' → σ2 94 (164 + 50 * u + i) = σ 94 (264 + i) := fun i hi => by
        rw [l2 i (by omega) hi, mup_o (by omega), w4 _ _ (by omega) (by omega), e94]
      have hT : TR σ2 (6 + 3 * u) (σ2 94) u := by
        refine Or.inr ?_
        rw [d1, w5 (6 + 3 * u) 2 (by omega) (by omega), c4]
        exact TRx_of hu p3 ok (fun j hj => by rw [w5 _ _ (by omega) (by omega)]; exact c5 j hj) (fun i hi => d2 i hi)
      refine ⟨1, σ1, σ2, c1, ?_, h.textd (fun r k x1 x2 x3 x4 x5 => ?_) ?_ ?_ ?_ ?_⟩
      · unfold f_X12_text
        have ix : (142 : Int32) + nI u = nI (142 + u) := nIa 142 u
        rw [isI, Option.bind_some, if_neg one_ne, e94, p2]
        refine Eq.trans (congrArg (fun o => Option.bind o _) g1) ?_
        have a8 : σw 93 8 < 0 := by rw [g2]; exact n1lt
        rw [Option.bind_some, if_pos a8, ix, gdI (by omega) (by omega), clI (by omega)]
        exact l1
      · rw [w5 r k x4 (by omega), c2 r k x1 x3 (by omega) (by omega)]
      · rw [w5 12 1 (by omega) (by omega)]; exact c3
      · rw [l3 94 5 (by omega), mup_o (by omega), g3 94 5 (by omega), mup_s]
      · obtain rfl | rfl : u = 0 ∨ u = 1 := by omega
        · exact hT
        · refine (TR.frame h4.2.2.2.2.2.2.2.1 ?_ (rows_eq (fun k => ?_))).cong (by omega) (fun j hj => ?_)
          · rw [w5 _ _ (by omega) (by omega), c2 _ _ (by omega) (by omega) (by omega) (by omega)]
          · rw [w5 _ _ (by omega) (by omega), c2 _ _ (by omega) (by omega) (by omega) (by omega)]
          · rw [w5 _ _ (by omega) (by omega), e94]
      · obtain rfl | rfl : u = 0 ∨ u = 1 := by omega
        · refine (TR.frame h4.2.2.2.2.2.2.2.2 ?_ (rows_eq (fun k => ?_))).cong (by omega) (fun j hj => ?_)
          · rw [w5 _ _ (by omega) (by omega), c2 _ _ (by omega) (by omega) (by omega) (by omega)]
          · rw [w5 _ _ (by omega) (by omega), c2 _ _ (by omega) (by omega) (by omega) (by omega)]
          · rw [w5 _ _ (by omega) (by omega), e94]
        · exact hT
    · refine bad p' q (by omega) ?_ e2.2.2.2.2 (fun τ hτ => ?_)
      · have : ¬ q 70 3 = q 12 1 := by rw [q3, q12, nI_eq_iff (by omega) (by omega)]; exact z
        rw [hF, e1, Option.bind_some, if_neg one_ne, if_neg this]
        dsimp only
        rw [q3]
      · obtain ⟨σw, g1, g2, g3⟩ := worked_ok (base := 264) hu p3 (by omega) ok τ hτ
        rw [if_neg (by omega)] at g1
        exact ⟨0, mup σw 93 8 (nI p'), g1, by rw [mup_s], fun r k a => by rw [mup_o (by omega)]; exact g3 r k a⟩
  · obtain ⟨q, e1, e2, e3⟩ := bd.2.1 sX 0 hXS (by omega)
    refine bad pf q (by have := bd.1; omega) ?_ e3 (fun τ hτ => worked_bad (base := 264) hu p3 (by omega) bd τ hτ)
    rw [hF, e1, Option.bind_some, if_pos rfl]
    dsimp only
    rw [e2]
theorem eq_text {xs : Nat → Int32} {σ : Sg} (h : Inv xs σ) (p : Int32) : Good xs (f_X11_text p σ) (f_X12_text p) := by
  by_cases c : 0 ≤ p ∧ p ≤ 1
  · obtain ⟨u, u0, hu, rfl⟩ := Sm_of (lo := 0) (hi := 1) (by decide) (by decide) c.1 c.2
    exact text_use h hu
  · have n0 : ¬ p = 0 := fun z => c (by rw [z]; decide)
    have n1 : ¬ p = 1 := fun z => c (by rw [z]; decide)
    refine good_err h (k := 1) (by decide) ?_ (fun σ1 e => ?_)
    · unfold f_X11_text f_X11_isUse
      rw [if_neg n0, if_neg n1, Option.bind_some, if_pos rfl]
      rfl
    · unfold f_X12_text
      rw [isIn_eq, Option.bind_some, bI_0 c]
      rfl
