/-- the well in which one is; -1 -/
def wo (D : Nat → Int32) (t : Nat) : Int32 := if D (46 + 6 * t + 2) = 0 then D (46 + 6 * t + 3) else -1
theorem wellOf_eq {σ : Sg} {a m t : Nat} {D : Nat → Int32} (hW : WOK D m) (hR : RW σ a D) (ht : t < tN D) : f_X7_wellOf (a + 6) (nI t) σ = some (wo D t) := by
  have b2 := hW.2.2.2.2.1
  obtain ⟨r0, r1, r2, r3, r4, r5⟩ := hR.2.2.2.2 t ht
  have q2 : σ (a + 6 + 3) t = D (46 + 6 * t + 2) := r2
  have q3 : σ (a + 6 + 4) t = D (46 + 6 * t + 3) := r3
  unfold f_X7_wellOf wo
  rw [pick_at (by omega) (by omega), pick_at (by omega) (by omega), q2, q3, Option.bind_some, Option.bind_some]
  by_cases z : D (46 + 6 * t + 2) = 0
  · rw [if_pos z, if_pos z]
  · rw [if_neg z, if_neg z]
theorem inWhich_eq {σ : Sg} {r m t : Nat} {D : Nat → Int32} (hW : WOK D m) (hr : Row σ r D) (ht : t < tN D) : f_X12_inWhich r (nI t) σ = some (wo D t) := by
  have b2 := hW.2.2.2.2.1
  have a2 := aThing_at (r := r) (t := t) (c := 2) (σ := σ) (by omega) (by omega)
  have a3 := aThing_at (r := r) (t := t) (c := 3) (σ := σ) (by omega) (by omega)
  rw [hr _ (by omega)] at a2 a3
  rw [show nI 2 = (2 : Int32) from rfl] at a2
  rw [show nI 3 = (3 : Int32) from rfl] at a3
  unfold f_X12_inWhich wo
  rw [a2, a3, Option.bind_some, Option.bind_some]
  by_cases z : D (46 + 6 * t + 2) = 0
  · rw [if_pos z, if_pos z]
  · rw [if_neg z, if_neg z]
theorem at_in {D : Nat → Int32} {m t : Nat} (hW : WOK D m) (ht : t < tN D) (h0 : D (46 + 6 * t + 2) = 0) : ∃ w, w < wN D ∧ D (46 + 6 * t + 3) = nI w := by
  obtain ⟨-, -, -, h4, -, -⟩ := hW.2.2.2.2.2.2 t ht
  rcases h4 with ⟨z, -⟩ | z
  · exact absurd (h0.symm.trans z) (by decide)
  · exact z
theorem detail_eq {τ : Sg} {D0 D : Nat → Int32} {G : Nat → Int32 → Int32 → Int32 → Int32 → Int32} {m t k : Nat} (hG : ∀ A B C F, Sm (G 0 A B C F) 0 30) (gx : GX τ G) (gd : GD D0 G) (hW : WOK D m) (ht : t < tN D) (hk : k ≤ 7) : ∃ v, (∀ (a : Nat) (σ : Sg), RW σ a D → TXs σ τ → ∃ f, f_X10_detail a 6 9 (nI t) (nI k) σ = some (v, mrow σ 8 f)) ∧ (∀ (r : Nat) (σ : Sg), Row σ r D → TDs σ D0 → ∃ σ', f_X12_ofIt r (nI t) (nI k) σ = some (v, σ') ∧ Hnd σ' σ) := by
  have b1 := hW.2.2.1
  have b2 := hW.2.2.2.2.1
  have hM : ∀ (r : Nat) (σ : Sg), Row σ r D → ∀ c, c ≤ 5 → f_X12_aThing r (nI t) (nI c) σ = some (D (46 + 6 * t + c)) := fun r σ hr c hc => by
    rw [aThing_at (by omega) hc, hr _ (by omega)]
  have hMw : ∀ (r : Nat) (σ : Sg), Row σ r D → ∀ w, w < wN D → f_X12_aWell r (nI w) 0 σ = some (D (10 + 4 * w)) := fun r σ hr w hw => by
    have := aWell_at (r := r) (w := w) (c := 0) (σ := σ) (by omega) (by omega)
    rw [hr _ (by omega)] at this
    exact this
  have hX : ∀ (a : Nat) (σ : Sg), RW σ a D → ∀ c, c ≤ 5 → f_X11_pick (a + 6 + (c + 1)) 10 (nI t) σ = some (D (46 + 6 * t + c)) := fun a σ hR c hc => by
    obtain ⟨r0, r1, r2, r3, r4, r5⟩ := hR.2.2.2.2 t ht
    rw [pick_at (by omega) (by omega)]
    match c, hc with
    | 0, _ => exact congrArg some r0
    | 1, _ => exact congrArg some r1
    | 2, _ => exact congrArg some r2
    | 3, _ => exact congrArg some r3
    | 4, _ => exact congrArg some r4
    | 5, _ => exact congrArg some r5
  have hO : ∀ (r : Nat) (σ : Sg), Row σ r D → ∀ q : Int32, f_X12_ofIt r (nI t) q σ = c_X12_ofIt_14 r (nI t) q (if D (46 + 6 * t + 2) = 0 then 1 else 0) σ := fun r σ hr q => by
    have g := hM r σ hr 2 (by omega)
    rw [show nI 2 = (2 : Int32) from rfl] at g
    unfold f_X12_ofIt
    rw [g, Option.bind_some]
    by_cases z : D (46 + 6 * t + 2) = 0
    · rw [if_pos z, if_pos z]
    · rw [if_neg z, if_neg z]
  match k, hk with
  | 0, _ =>
    refine ⟨D (46 + 6 * t), fun a σ hR hT => ⟨σ 8, ?_⟩, fun r σ hr hT => ⟨σ, ?_, fun _ _ _ _ => rfl⟩⟩
    · have g := hX a σ hR 0 (by omega)
      unfold f_X10_detail
      rw [wellOf_eq hW hR ht, Option.bind_some, if_pos (show nI 0 = 0 from rfl), g, mrow_self]
      rfl
    · rw [hO r σ hr]
      have g := hM r σ hr 0 (by omega)
      unfold c_X12_ofIt_14
      rw [g]
      rfl
  | 1, _ =>
    refine ⟨D (46 + 6 * t + 1), fun a σ hR hT => ⟨σ 8, ?_⟩, fun r σ hr hT => ⟨σ, ?_, fun _ _ _ _ => rfl⟩⟩
    · have g := hX a σ hR 1 (by omega)
      unfold f_X10_detail
      rw [wellOf_eq hW hR ht, Option.bind_some, if_neg (show ¬ nI 1 = 0 by decide), if_pos (show nI 1 = 1 from rfl), g, mrow_self]
      rfl
    · rw [hO r σ hr]
      have g := hM r σ hr 1 (by omega)
      unfold c_X12_ofIt_14
      rw [g]
      rfl
  | 2, _ =>
    refine ⟨D (46 + 6 * t + 2), fun a σ hR hT => ⟨σ 8, ?_⟩, fun r σ hr hT => ⟨σ, ?_, fun _ _ _ _ => rfl⟩⟩
    · have g := hX a σ hR 2 (by omega)
      unfold f_X10_detail
      rw [wellOf_eq hW hR ht, Option.bind_some, if_neg (show ¬ nI 2 = 0 by decide), if_neg (show ¬ nI 2 = 1 by decide), if_pos (show nI 2 = 2 from rfl), g, mrow_self]
      rfl
    · rw [hO r σ hr]
      have g := hM r σ hr 2 (by omega)
      unfold c_X12_ofIt_14
      rw [if_neg (show ¬ nI 2 = 4 by decide), if_neg (show ¬ nI 2 = 5 by decide), if_neg (show ¬ nI 2 = 6 by decide), if_neg (show ¬ nI 2 = 7 by decide), g]
      rfl
  | 3, _ =>
    refine ⟨D (46 + 6 * t + 3), fun a σ hR hT => ⟨σ 8, ?_⟩, fun r σ hr hT => ⟨σ, ?_, fun _ _ _ _ => rfl⟩⟩
    · have g := hX a σ hR 3 (by omega)
      unfold f_X10_detail
      rw [wellOf_eq hW hR ht, Option.bind_some, if_neg (show ¬ nI 3 = 0 by decide), if_neg (show ¬ nI 3 = 1 by decide), if_neg (show ¬ nI 3 = 2 by decide), if_pos (show nI 3 = 3 from rfl), g, mrow_self]
      rfl
    · rw [hO r σ hr]
      have g := hM r σ hr 3 (by omega)
      unfold c_X12_ofIt_14
      rw [if_neg (show ¬ nI 3 = 4 by decide), if_neg (show ¬ nI 3 = 5 by decide), if_neg (show ¬ nI 3 = 6 by decide), if_neg (show ¬ nI 3 = 7 by decide), g]
      rfl
  | 4, _ =>
    refine ⟨D (46 + 6 * t + 4), fun a σ hR hT => ⟨σ 8, ?_⟩, fun r σ hr hT => ⟨σ, ?_, fun _ _ _ _ => rfl⟩⟩
    · have g := hX a σ hR 4 (by omega)
      unfold f_X10_detail
      rw [wellOf_eq hW hR ht, Option.bind_some, if_neg (show ¬ nI 4 = 0 by decide), if_neg (show ¬ nI 4 = 1 by decide), if_neg (show ¬ nI 4 = 2 by decide), if_neg (show ¬ nI 4 = 3 by decide), if_pos (show nI 4 = 4 from rfl), g, mrow_self]
      rfl
    · rw [hO r σ hr]
      have g2 := hM r σ hr 2 (by omega)
      have g := hM r σ hr 4 (by omega)
      rw [show nI 2 = (2 : Int32) from rfl] at g2
      rw [show nI 4 = (4 : Int32) from rfl] at g
      unfold c_X12_ofIt_14
      rw [if_pos (show nI 4 = 4 from rfl), g2, Option.bind_some]
      obtain ⟨-, -, -, -, h5, -⟩ := hW.2.2.2.2.2.2 t ht
      rcases h5 with ⟨z, -⟩ | ⟨z, z2⟩
      · rw [if_pos z, g]; rfl
      · rw [if_neg z, z2]
  | 5, _ =>
    refine ⟨D (46 + 6 * t + 5), fun a σ hR hT => ⟨σ 8, ?_⟩, fun r σ hr hT => ⟨σ, ?_, fun _ _ _ _ => rfl⟩⟩
    · have g := hX a σ hR 5 (by omega)
      unfold f_X10_detail
      rw [wellOf_eq hW hR ht, Option.bind_some, if_neg (show ¬ nI 5 = 0 by decide), if_neg (show ¬ nI 5 = 1 by decide), if_neg (show ¬ nI 5 = 2 by decide), if_neg (show ¬ nI 5 = 3 by decide), if_neg (show ¬ nI 5 = 4 by decide), if_pos (show nI 5 = 5 from rfl), g, mrow_self]
      rfl
    · rw [hO r σ hr]
      have g := hM r σ hr 5 (by omega)
      unfold c_X12_ofIt_14
      rw [if_neg (show ¬ nI 5 = 4 by decide), if_pos (show nI 5 = 5 from rfl), g]
      rfl
  | 6, _ =>
    have hX6 : ∀ (a : Nat) (σ : Sg), RW σ a D → f_X10_detail a 6 9 (nI t) (nI 6) σ = ((f_X9_leadsTo (a + 1) (wo D t) σ).bind fun q8 => (if q8 < 0 then (some ((-1 : Int32), σ)) else ((f_X10_lasts a 6 9 (nI t) σ).bind fun q10 => (some (q10.1, q10.2))))) := fun a σ hR => by
      unfold f_X10_detail
      rw [wellOf_eq hW hR ht, Option.bind_some, if_neg (show ¬ nI 6 = 0 by decide), if_neg (show ¬ nI 6 = 1 by decide), if_neg (show ¬ nI 6 = 2 by decide), if_neg (show ¬ nI 6 = 3 by decide), if_neg (show ¬ nI 6 = 4 by decide), if_neg (show ¬ nI 6 = 5 by decide), if_pos (show nI 6 = 6 from rfl)]
    have hM6 : ∀ (r : Nat) (σ : Sg), Row σ r D → f_X12_ofIt r (nI t) (nI 6) σ = (if (if D (46 + 6 * t + 2) = 0 then (1 : Int32) else 0) = 0 then (some ((-1 : Int32), σ)) else ((f_X12_aThing r (nI t) (3 : Int32) σ).bind fun q6 => ((f_X12_aWell r q6 (0 : Int32) σ).bind fun q7 => (if q7 < 0 then (some ((-1 : Int32), σ)) else ((f_X12_lasts r (nI t) σ).bind fun q9 => (some (q9.1, q9.2))))))) := fun r σ hr => by
      rw [hO r σ hr]
      unfold c_X12_ofIt_14
      rw [if_neg (show ¬ nI 6 = 4 by decide), if_neg (show ¬ nI 6 = 5 by decide), if_pos (show nI 6 = 6 from rfl)]
    by_cases z : D (46 + 6 * t + 2) = 0
    · obtain ⟨w, hw, h3⟩ := at_in hW ht z
      have ew : wo D t = nI w := by unfold wo; rw [if_pos z, h3]
      have hXl : ∀ (a : Nat) (σ : Sg), RW σ a D → f_X9_leadsTo (a + 1) (nI w) σ = some (D (10 + 4 * w)) := fun a σ hR => by
        rw [leadsTo_at (hR.2.1.trans hW.2.1) hw b1]
        exact congrArg some (hR.2.2.2.1 w hw).1
      have hM3 : ∀ (r : Nat) (σ : Sg), Row σ r D → f_X12_aThing r (nI t) (3 : Int32) σ = some (nI w) := fun r σ hr => (hM r σ hr 3 (by omega)).trans (by rw [h3])
      obtain ⟨hl, -⟩ := hW.2.2.2.2.2.1 w hw
      rcases hl with hl | ⟨j, hj, hl⟩
      · refine ⟨-1, fun a σ hR hT => ⟨σ 8, ?_⟩, fun r σ hr hT => ⟨σ, ?_, fun _ _ _ _ => rfl⟩⟩
        · rw [hX6 a σ hR, ew, hXl a σ hR, hl, Option.bind_some, if_pos n1lt, mrow_self]
        · rw [hM6 r σ hr, bI_1 z, hM3 r σ hr, Option.bind_some, hMw r σ hr w hw, hl, Option.bind_some, if_pos n1lt]
      · obtain ⟨k, k1, k2, kx, km⟩ := lasts_eq hG gx gd hW ht z h3 hw hl
        refine ⟨nI k, fun a σ hR hT => ?_, fun r σ hr hT => ?_⟩
        · obtain ⟨f, hf⟩ := kx a σ hR hT
          refine ⟨f, ?_⟩
          rw [hX6 a σ hR, ew, hXl a σ hR, hl, Option.bind_some, if_neg (nI_pos (by omega)), hf, Option.bind_some]
        · obtain ⟨σ', hf, hh⟩ := km r σ hr hT
          refine ⟨σ', ?_, hh⟩
          rw [hM6 r σ hr, bI_1 z, hM3 r σ hr, Option.bind_some, hMw r σ hr w hw, hl, Option.bind_some, if_neg (nI_pos (by omega)), hf, Option.bind_some]
    · have ew : wo D t = -1 := by unfold wo; rw [if_neg z]
      refine ⟨-1, fun a σ hR hT => ⟨σ 8, ?_⟩, fun r σ hr hT => ⟨σ, ?_, fun _ _ _ _ => rfl⟩⟩
      · rw [hX6 a σ hR, ew, leadsTo_out (hR.2.1.trans hW.2.1) (fun y => absurd y.1 (by decide)), Option.bind_some, if_pos n1lt, mrow_self]
      · rw [hM6 r σ hr, bI_0 z]
  | 7, _ =>
    have hX7 : ∀ (a : Nat) (σ : Sg), RW σ a D → f_X10_detail a 6 9 (nI t) (nI 7) σ = (if wo D t < 0 then (some ((0 : Int32), σ)) else ((f_X10_stays a 6 9 (nI t) σ).bind fun q12 => (if q12 = 0 then (some ((0 : Int32), σ)) else (some ((1 : Int32), σ))))) := fun a σ hR => by
      unfold f_X10_detail
      rw [wellOf_eq hW hR ht, Option.bind_some, if_neg (show ¬ nI 7 = 0 by decide), if_neg (show ¬ nI 7 = 1 by decide), if_neg (show ¬ nI 7 = 2 by decide), if_neg (show ¬ nI 7 = 3 by decide), if_neg (show ¬ nI 7 = 4 by decide), if_neg (show ¬ nI 7 = 5 by decide), if_neg (show ¬ nI 7 = 6 by decide)]
    have hM7 : ∀ (r : Nat) (σ : Sg), Row σ r D → f_X12_ofIt r (nI t) (nI 7) σ = (if (if D (46 + 6 * t + 2) = 0 then (1 : Int32) else 0) = 0 then (some ((0 : Int32), σ)) else ((f_X12_stays r (nI t) σ).bind fun q11 => (if q11 = 0 then (some ((0 : Int32), σ)) else (some ((1 : Int32), σ))))) := fun r σ hr => by
      rw [hO r σ hr]
      unfold c_X12_ofIt_14
      rw [if_neg (show ¬ nI 7 = 4 by decide), if_neg (show ¬ nI 7 = 5 by decide), if_neg (show ¬ nI 7 = 6 by decide), if_pos (show nI 7 = 7 from rfl)]
    by_cases z : D (46 + 6 * t + 2) = 0
    · obtain ⟨w, hw, h3⟩ := at_in hW ht z
      have ew : wo D t = nI w := by unfold wo; rw [if_pos z, h3]
      obtain ⟨b, bx, bm⟩ := stays_eq hW ht z h3
      by_cases y : b = 0
      · refine ⟨0, fun a σ hR hT => ⟨σ 8, ?_⟩, fun r σ hr hT => ⟨σ, ?_, fun _ _ _ _ => rfl⟩⟩
        · rw [hX7 a σ hR, ew, if_neg (nI_pos (by omega)), bx a 6 9 σ hR, Option.bind_some, if_pos y, mrow_self]
        · rw [hM7 r σ hr, bI_1 z, bm r σ hr, Option.bind_some, if_pos y]
      · refine ⟨1, fun a σ hR hT => ⟨σ 8, ?_⟩, fun r σ hr hT => ⟨σ, ?_, fun _ _ _ _ => rfl⟩⟩
        · rw [hX7 a σ hR, ew, if_neg (nI_pos (by omega)), bx a 6 9 σ hR, Option.bind_some, if_neg y, mrow_self]
        · rw [hM7 r σ hr, bI_1 z, bm r σ hr, Option.bind_some, if_neg y]
    · have ew : wo D t = -1 := by unfold wo; rw [if_neg z]
      refine ⟨0, fun a σ hR hT => ⟨σ 8, ?_⟩, fun r σ hr hT => ⟨σ, ?_, fun _ _ _ _ => rfl⟩⟩
      · rw [hX7 a σ hR, ew, if_pos n1lt, mrow_self]
      · rw [hM7 r σ hr, bI_0 z]
theorem isDetail_eq (p : Int32) (σ : Sg) : f_X11_isDetail p σ = some (if 0 ≤ p ∧ p ≤ 7 then 1 else 0) := by
  unfold f_X11_isDetail
  rw [within_eq]
  simp only [Option.bind_some]
  split <;> rfl
theorem eq_ofThing {xs : Nat → Int32} {σ : Sg} (h : Inv xs σ) (p0 p1 : Int32) : Good xs (f_X11_ofThing p0 p1 σ) (f_X12_ofThing p0 p1) := by
  obtain ⟨w1, w2, w3, t1, t2, t3⟩ := h.base
  obtain ⟨h1, h2, h3, h4⟩ := h.1
  by_cases c0 : 0 ≤ p0 ∧ p0 < nI (tN (σ 94))
  · by_cases c1 : 0 ≤ p1 ∧ p1 ≤ 7
    · obtain ⟨t, ht, rfl⟩ := nI_get (by omega) c0.1 c0.2
      obtain ⟨k, hk, rfl⟩ := nI_getL (n := 7) (by decide) c1.1 c1.2
      obtain ⟨G, hG, gx, gd⟩ := gives_ex (τ := σ) (D := σ 94) h4.2.2.2.2.2.2.2.1 h4.2.2.2.2.2.2.2.2
      obtain ⟨v, vx, vm⟩ := detail_eq hG gx gd h1 ht hk
      obtain ⟨f, hf⟩ := vx 31 σ h3 ⟨rfl, fun _ _ => rfl, rfl, fun _ _ => rfl⟩
      obtain ⟨σ2, hm, hh⟩ := vm 94 (mrow σ 8 f) (fun j _ => by rw [mrow_ne (by omega)]) (fun j _ => by rw [mrow_ne (by omega)])
      refine ⟨v, mrow σ 8 f, σ2, ?_, ?_, ?_⟩
      · unfold f_X11_ofThing
        rw [thas_n t1, isDetail_eq, Option.bind_some, bI_1 c0, Option.bind_some, bI_1 c1, hf, Option.bind_some]
      · unfold f_X12_ofThing
        rw [isThing_n (by rw [mrow_ne (by omega)]; exact t2) (by omega), isIn_eq, Option.bind_some, bI_1 c0, Option.bind_some, bI_1 c1, hm, Option.bind_some]
      · refine h.hands (fun r k a b c d x y z v w => ?_)
        rw [hh _ _ z (by omega), mrow_ne (by omega)]
    · refine good_err h (k := 1) (by decide) ?_ (fun σ1 e => ?_)
      · unfold f_X11_ofThing
        rw [thas_n t1, isDetail_eq, Option.bind_some, bI_1 c0, Option.bind_some, bI_0 c1]
        rfl
      · unfold f_X12_ofThing
        rw [isThing_n (by rw [e 94 (by decide)]; exact t2) (by omega), isIn_eq, Option.bind_some, bI_1 c0, Option.bind_some, bI_0 c1]
        rfl
  · refine good_err h (k := 1) (by decide) ?_ (fun σ1 e => ?_)
    · unfold f_X11_ofThing
      rw [thas_n t1, Option.bind_some, bI_0 c0]
      rfl
    · unfold f_X12_ofThing
      rw [isThing_n (by rw [e 94 (by decide)]; exact t2) (by omega), Option.bind_some, bI_0 c0]
      rfl
