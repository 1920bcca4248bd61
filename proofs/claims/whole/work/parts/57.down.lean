def XF (a : Nat) (σ' σ : Sg) : Prop := ∀ q k, q ≠ 8 → q ≠ 11 → (q < a ∨ a + 12 < q) → σ' q k = σ q k
def MF (r : Nat) (σ' σ : Sg) : Prop := ∀ q k, q ≠ 98 → (q ≠ 93 ∨ k < 5 ∨ 10 < k) → (q ≠ r ∨ 106 ≤ k) → σ' q k = σ q k
/-- thing t placed -/
def plc (D : Nat → Int32) (t : Nat) (x y z : Int32) : Nat → Int32 := upd (upd (upd D (46 + 6 * t + 2) x) (46 + 6 * t + 3) y) (46 + 6 * t + 4) z
theorem plc_o {D : Nat → Int32} {t j : Nat} {x y z : Int32} (h : j ≠ 46 + 6 * t + 2 ∧ j ≠ 46 + 6 * t + 3 ∧ j ≠ 46 + 6 * t + 4) : plc D t x y z j = D j := by
  unfold plc
  rw [updn h.2.2, updn h.2.1, updn h.1]
theorem plc_2 (D : Nat → Int32) (t : Nat) (x y z : Int32) : plc D t x y z (46 + 6 * t + 2) = x := by
  unfold plc
  rw [updn (by omega), updn (by omega), upds]
theorem plc_3 (D : Nat → Int32) (t : Nat) (x y z : Int32) : plc D t x y z (46 + 6 * t + 3) = y := by
  unfold plc
  rw [updn (by omega), upds]
theorem plc_4 (D : Nat → Int32) (t : Nat) (x y z : Int32) : plc D t x y z (46 + 6 * t + 4) = z := by
  unfold plc
  rw [upds]
theorem plc_W {D : Nat → Int32} {m t : Nat} {x y z : Int32} (hW : WOK D m) (ht : t < tN D) (h2 : Sm x 0 2) (h3 : (x = 2 ∧ y = -1) ∨ ∃ j, j < wN D ∧ y = nI j) (h4 : (x = 1 ∧ Sm z 1 200) ∨ (x ≠ 1 ∧ z = 0)) : WOK (plc D t x y z) m := by
  have b2 := hW.2.2.2.2.1
  obtain ⟨g0, g1, -, -, -, g5⟩ := hW.2.2.2.2.2.2 t ht
  refine hW.sett ht (fun j hj => plc_o (by omega)) ⟨?_, ?_, ?_, ?_, ?_, ?_⟩
  · rw [plc_o (by omega)]; exact g0
  · rw [plc_o (by omega)]; exact g1
  · rw [plc_2]; exact h2
  · rw [plc_2, plc_3, wN_cong (D := D) (plc_o (by omega))]; exact h3
  · rw [plc_2, plc_4]; exact h4
  · rw [plc_o (by omega)]; exact g5
theorem xplace {D : Nat → Int32} {σ : Sg} {a m t : Nat} {x y z : Int32} (hW : WOK D m) (hR : RW σ a D) (ht : t < tN D) : ∃ σ', f_X7_place (a + 6) (nI t) x y z σ = some σ' ∧ RW σ' a (plc D t x y z) ∧ ∀ q k, (q < a ∨ a + 12 < q) → σ' q k = σ q k := by
  have b2 := hW.2.2.2.2.1
  obtain ⟨r0, r1, r2, r3, r4, r5⟩ := hR.2.2.2.2 t ht
  refine ⟨_, place_at (by omega), ?_, fun q k h => ?_⟩
  · refine hR.sett hW ht (fun j hj => plc_o (by omega)) (fun r k h1 h2 h3 => ?_) ?_ ?_ ?_ ?_ ?_ ?_
    · simp (disch := omega) only [mup_o]
    · rw [plc_o (by omega)]; simp (disch := omega) only [mup_o]; exact r0
    · rw [plc_o (by omega)]; simp (disch := omega) only [mup_o]; exact r1
    · rw [plc_2]; simp (disch := omega) only [mup_o, mup_t]
    · rw [plc_3]; simp (disch := omega) only [mup_o, mup_t]
    · rw [plc_4]; simp (disch := omega) only [mup_t]
    · rw [plc_o (by omega)]; simp (disch := omega) only [mup_o]; exact r5
  · simp (disch := omega) only [mup_o]
theorem mplace {D : Nat → Int32} {σ : Sg} {r t : Nat} {x y z : Int32} (hr : Row σ r D) (ht : t < 10) : ∃ σ', f_X12_puts r (nI t) x y z σ = some σ' ∧ Row σ' r (plc D t x y z) ∧ ∀ q k, (q ≠ r ∨ 106 ≤ k) → σ' q k = σ q k := by
  refine ⟨_, puts_at ht, fun j hj => ?_, fun q k h => ?_⟩
  · by_cases c2 : j = 46 + 6 * t + 2
    · subst c2; rw [plc_2]; simp (disch := omega) only [mup_o, mup_t]
    · by_cases c3 : j = 46 + 6 * t + 3
      · subst c3; rw [plc_3]; simp (disch := omega) only [mup_o, mup_t]
      · by_cases c4 : j = 46 + 6 * t + 4
        · subst c4; rw [plc_4]; simp (disch := omega) only [mup_t]
        · rw [plc_o ⟨c2, c3, c4⟩]; simp (disch := omega) only [mup_o]; exact hr j hj
  · simp (disch := omega) only [mup_o]
theorem Row.frame {σ σ' : Sg} {r : Nat} {D : Nat → Int32} (h : Row σ r D) (e : ∀ k, k < 106 → σ' r k = σ r k) : Row σ' r D := fun j hj => (e j hj).trans (h j hj)
theorem down_eq {τ : Sg} {D0 D : Nat → Int32} {G : Nat → Int32 → Int32 → Int32 → Int32 → Int32} {m t : Nat} (hG : ∀ A B C F, Sm (G 0 A B C F) 0 30) (gx : GX τ G) (gd : GD D0 G) (hW : WOK D m) (ht : t < tN D) : ∃ D', WOK D' m ∧ (∀ j, j < 46 ∨ 106 ≤ j → D' j = D j) ∧ (∀ u, D (46 + 6 * u + 2) ≠ 0 → D' (46 + 6 * u + 2) = D (46 + 6 * u + 2)) ∧ (∀ (a : Nat) (σ : Sg), 11 < a → RW σ a D → TXs σ τ → ∃ σ', f_X10_goDown a 6 9 (nI t) σ = some σ' ∧ RW σ' a D' ∧ XF a σ' σ) ∧ (∀ (r : Nat) (σ : Sg) (n : Nat) (x2 : Int32), (r = 94 ∨ r = 95) → Row σ r D → TDs σ D0 → ∃ σ', c_X12_goesBy_39 r (n + 1) x2 (nI t) σ = c_X12_goesBy_39 r n x2 (nI (t + 1)) σ' ∧ Row σ' r D' ∧ MF r σ' σ) := by
  have b1 := hW.2.2.1
  have b2 := hW.2.2.2.2.1
  have hX : ∀ (a : Nat) (σ : Sg), RW σ a D → f_X10_goDown a 6 9 (nI t) σ = ((f_X9_leadsTo (a + 1) (wo D t) σ).bind fun q2 => (if q2 < 0 then (some σ) else ((f_X10_stays a 6 9 (nI t) σ).bind fun q4 => (if q4 = 0 then ((f_X10_lasts a 6 9 (nI t) σ).bind fun q6 => ((f_X7_place (a + 6) (nI t) (1 : Int32) q2 q6.1 q6.2).bind fun q7 => (some q7))) else (some σ))))) := fun a σ hR => by
    unfold f_X10_goDown
    rw [wellOf_eq hW hR ht, Option.bind_some]
  have hM : ∀ (r : Nat) (σ : Sg) (n : Nat) (x2 : Int32), Row σ r D → c_X12_goesBy_39 r (n + 1) x2 (nI t) σ = (if D (46 + 6 * t + 2) = 0 then ((f_X12_aWell r (D (46 + 6 * t + 3)) (0 : Int32) σ).bind fun q10 => (if q10 < 0 then (c_X12_goesBy_39 r n x2 (nI (t + 1)) σ) else ((f_X12_stays r (nI t) σ).bind fun q12 => (if q12 = 0 then (((f_X12_aWell r (D (46 + 6 * t + 3)) (0 : Int32) σ).bind fun q15 => ((f_X12_lasts r (nI t) σ).bind fun q16 => ((f_X12_puts r (nI t) (1 : Int32) q15 q16.1 q16.2).bind fun q17 => (c_X12_goesBy_39 r n x2 (nI (t + 1)) q17))))) else (c_X12_goesBy_39 r n x2 (nI (t + 1)) σ))))) else (c_X12_goesBy_39 r n x2 (nI (t + 1)) σ)) := fun r σ n x2 hr => by
    have a2 := aThing_at (r := r) (t := t) (c := 2) (σ := σ) (by omega) (by omega)
    have a3 := aThing_at (r := r) (t := t) (c := 3) (σ := σ) (by omega) (by omega)
    rw [hr _ (by omega)] at a2 a3
    rw [show nI 2 = (2 : Int32) from rfl] at a2
    rw [show nI 3 = (3 : Int32) from rfl] at a3
    have hlt : ¬ σ r 2 ≤ nI t := by
      rw [hr 2 (by omega), hW.2.2.2.1]
      exact nI_ge ht (by omega)
    rw [c_X12_goesBy_39, if_neg hlt, a2, Option.bind_some, a3, Option.bind_some]
    unfold c_X12_goesBy_100
    simp only [nIp1, Option.bind_some]
  by_cases z : D (46 + 6 * t + 2) = 0
  · obtain ⟨w, hw, h3⟩ := at_in hW ht z
    have ew : wo D t = nI w := by unfold wo; rw [if_pos z, h3]
    have hXl : ∀ (a : Nat) (σ : Sg), RW σ a D → f_X9_leadsTo (a + 1) (nI w) σ = some (D (10 + 4 * w)) := fun a σ hR => by
      rw [leadsTo_at (hR.2.1.trans hW.2.1) hw b1]
      exact congrArg some (hR.2.2.2.1 w hw).1
    have hMw : ∀ (r : Nat) (σ : Sg), Row σ r D → f_X12_aWell r (nI w) 0 σ = some (D (10 + 4 * w)) := fun r σ hr => by
      have := aWell_at (r := r) (w := w) (c := 0) (σ := σ) (by omega) (by omega)
      rw [hr _ (by omega)] at this
      exact this
    obtain ⟨hl, -⟩ := hW.2.2.2.2.2.1 w hw
    rcases hl with hl | ⟨j, hj, hl⟩
    · refine ⟨D, hW, fun _ _ => rfl, fun _ _ => rfl, fun a σ ha hR hT => ⟨σ, ?_, hR, fun _ _ _ _ _ => rfl⟩, fun r σ n x2 hr0 hr hT => ⟨σ, ?_, hr, fun _ _ _ _ _ => rfl⟩⟩
      · rw [hX a σ hR, ew, hXl a σ hR, hl, Option.bind_some, if_pos n1lt]
      · rw [hM r σ n x2 hr, if_pos z, h3, hMw r σ hr, hl, Option.bind_some, if_pos n1lt]
    · obtain ⟨b, bx, bm⟩ := stays_eq hW ht z h3
      by_cases y : b = 0
      · obtain ⟨k, k1, k2, kx, km⟩ := lasts_eq hG gx gd hW ht z h3 hw hl
        refine ⟨plc D t 1 (nI j) (nI k), plc_W hW ht ⟨1, by omega, by omega, rfl⟩ (Or.inr ⟨j, hj, rfl⟩) (Or.inl ⟨rfl, k, k1, k2, rfl⟩), fun q hq => plc_o (by omega), fun u hu => ?_, fun a σ ha hR hT => ?_, fun r σ n x2 hr0 hr hT => ?_⟩
        · by_cases e : u = t
          · subst e; exact absurd z hu
          · rw [plc_o (by omega)]
        · obtain ⟨f, hf⟩ := kx a σ hR hT
          obtain ⟨σ', g1, g2, g3⟩ := xplace (x := 1) (y := nI j) (z := nI k) hW (hR.frame (σ' := mrow σ 8 f) (fun q _ _ => mrow_ne (by omega))) ht
          refine ⟨σ', ?_, g2, fun q k h8 h11 hq => by rw [g3 q k hq, mrow_ne h8]⟩
          rw [hX a σ hR, ew, hXl a σ hR, hl, Option.bind_some, if_neg (nI_pos (by omega)), bx a 6 9 σ hR, Option.bind_some, if_pos y, hf, Option.bind_some, g1, Option.bind_some]
        · obtain ⟨σ1, hf, hh⟩ := km r σ hr hT
          obtain ⟨σ', g1, g2, g3⟩ := mplace (σ := σ1) (r := r) (t := t) (x := 1) (y := nI j) (z := nI k) (hr.frame (fun q _ => hh r q (by omega) (by omega))) (by omega)
          refine ⟨σ', ?_, g2, fun q k h98 h93 hq => by rw [g3 q k hq, hh q k h98 h93]⟩
          rw [hM r σ n x2 hr, if_pos z, h3, hMw r σ hr, hl, Option.bind_some, if_neg (nI_pos (by omega)), bm r σ hr, Option.bind_some, if_pos y, Option.bind_some, hf, Option.bind_some, g1, Option.bind_some]
      · refine ⟨D, hW, fun _ _ => rfl, fun _ _ => rfl, fun a σ ha hR hT => ⟨σ, ?_, hR, fun _ _ _ _ _ => rfl⟩, fun r σ n x2 hr0 hr hT => ⟨σ, ?_, hr, fun _ _ _ _ _ => rfl⟩⟩
        · rw [hX a σ hR, ew, hXl a σ hR, hl, Option.bind_some, if_neg (nI_pos (by omega)), bx a 6 9 σ hR, Option.bind_some, if_neg y]
        · rw [hM r σ n x2 hr, if_pos z, h3, hMw r σ hr, hl, Option.bind_some, if_neg (nI_pos (by omega)), bm r σ hr, Option.bind_some, if_neg y]
  · have ew : wo D t = -1 := by unfold wo; rw [if_neg z]
    refine ⟨D, hW, fun _ _ => rfl, fun _ _ => rfl, fun a σ ha hR hT => ⟨σ, ?_, hR, fun _ _ _ _ _ => rfl⟩, fun r σ n x2 hr0 hr hT => ⟨σ, ?_, hr, fun _ _ _ _ _ => rfl⟩⟩
    · rw [hX a σ hR, ew, leadsTo_out (hR.2.1.trans hW.2.1) (fun y => absurd y.1 (by decide)), Option.bind_some, if_pos n1lt]
    · rw [hM r σ n x2 hr, if_neg z]
