def TXs (σ τ : Sg) : Prop := σ 6 2 = τ 6 2 ∧ (∀ i, i < 50 → σ 7 i = τ 7 i) ∧ σ 9 2 = τ 9 2 ∧ (∀ i, i < 50 → σ 10 i = τ 10 i)
def TDs (σ : Sg) (D : Nat → Int32) : Prop := ∀ j, j = 142 ∨ j = 143 ∨ (164 ≤ j ∧ j < 264) → σ 94 j = D j
/-- only the reference's hands -/
def Hnd (σ' σ : Sg) : Prop := ∀ r k, r ≠ 98 → (r ≠ 93 ∨ k < 5 ∨ 10 < k) → σ' r k = σ r k
theorem lasts_eq {τ : Sg} {D0 D : Nat → Int32} {G : Nat → Int32 → Int32 → Int32 → Int32 → Int32} {m t w j : Nat} (hG : ∀ A B C F, Sm (G 0 A B C F) 0 30) (gx : GX τ G) (gd : GD D0 G) (hW : WOK D m) (ht : t < tN D) (h0 : D (46 + 6 * t + 2) = 0) (h3 : D (46 + 6 * t + 3) = nI w) (hw : w < wN D) (hj : D (10 + 4 * w) = nI j) : ∃ k, 1 ≤ k ∧ k ≤ 200 ∧ (∀ (a : Nat) (σ : Sg), RW σ a D → TXs σ τ → ∃ f, f_X10_lasts a 6 9 (nI t) σ = some (nI k, mrow σ 8 f)) ∧ (∀ (r : Nat) (σ : Sg), Row σ r D → TDs σ D0 → ∃ σ', f_X12_lasts r (nI t) σ = some (nI k, σ') ∧ Hnd σ' σ) := by
  have b2 := hW.2.2.2.2.1
  obtain ⟨k, k1, k2, kx, km⟩ := byKind_eq hW ht h0 h3 hw hj
  obtain ⟨g, g1, g2, g3⟩ := hG (nI w) (D (46 + 6 * t)) (D 0) (D (46 + 6 * t + 1))
  refine ⟨k + g, by omega, by omega, fun a σ hR hT => ?_, fun r σ hr hT => ?_⟩
  · obtain ⟨f, hf⟩ := gx σ hT.1 hT.2.1 hT.2.2.1 hT.2.2.2 0 (by omega) a (nI w) (D (46 + 6 * t)) (D 0) (D (46 + 6 * t + 1))
    obtain ⟨r0, r1, r2, r3, r4, r5⟩ := hR.2.2.2.2 t ht
    have q3 : σ (a + 6 + 4) t = nI w := r3.trans h3
    have q0 : σ (a + 6 + 1) t = D (46 + 6 * t) := r0
    have q1 : σ (a + 6 + 2) t = D (46 + 6 * t + 1) := r1
    refine ⟨f, ?_⟩
    unfold f_X10_lasts
    rw [pick_at (by omega) (by omega), pick_at (by omega) (by omega), pick_at (by omega) (by omega)]
    simp only [Option.bind_some]
    rw [q3, q0, q1, kx a 6 9 σ hR]
    simp only [Option.bind_some]
    rw [hR.1]
    rw [show nI 0 = (0 : Int32) from rfl, g3] at hf
    rw [hf]
    simp only [Option.bind_some]
    rw [nIa]
  · obtain ⟨σ', hf, hh⟩ := gd σ hT 0 (by omega) (nI w) (D (46 + 6 * t)) (D 0) (D (46 + 6 * t + 1))
    refine ⟨σ', ?_, hh⟩
    rw [km r σ hr]
    unfold c_X12_lasts_169
    rw [show nI 0 = (0 : Int32) from rfl, g3] at hf
    rw [hr 0 (by omega), hf]
    simp only [Option.bind_some]
    rw [nIa]
theorem own_pc {D : Nat → Int32} {m t w : Nat} (hW : WOK D m) (ht : t < tN D) (hc : D (46 + 6 * t + 2) = 0 ∧ D (46 + 6 * t + 3) = nI w) : 1 ≤ pc (bN D 0 (nI w) (tN D)) := by
  have b2 := hW.2.2.2.2.1
  have hl := bN_1024 D 0 (nI w) b2
  have hb := bN_bit D 0 (nI w) t (tN D) ht
  obtain ⟨-, g2⟩ := bc_all t (by omega) _ hl
  rw [hb] at g2
  exact g2 (decide_eq_true hc)
theorem few_x {D : Nat → Int32} {m t w mm : Nat} (hW : WOK D m) (ht : t < tN D) (hc : D (46 + 6 * t + 2) = 0 ∧ D (46 + 6 * t + 3) = nI w) (mm3 : D (46 + 6 * t + 1) = nI mm) (a x y : Nat) (σ : Sg) (hR : RW σ a D) : f_X10_waitsForMore a x y (nI t) σ = (if (3 : Int32) < nI mm then (some (0 : Int32)) else (if nI mm ≤ nI (pc (bN D 0 (nI w) (tN D)) - 1) then (some (0 : Int32)) else (some (1 : Int32)))) := by
  have b2 := hW.2.2.2.2.1
  obtain ⟨r0, r1, r2, r3, r4, r5⟩ := hR.2.2.2.2 t ht
  have q3 : σ (a + 6 + 4) t = nI w := r3.trans hc.2
  have q1 : σ (a + 6 + 2) t = nI mm := r1.trans mm3
  have ho := (others_eq hW hR 0 (nI w) ht).1
  rw [if_pos hc] at ho
  unfold f_X10_waitsForMore
  rw [pick_at (by omega) (by omega), pick_at (by omega) (by omega)]
  simp only [Option.bind_some]
  rw [q3, q1, ho]
  simp only [Option.bind_some]
theorem few_m {D : Nat → Int32} {m t w mm : Nat} (hW : WOK D m) (ht : t < tN D) (hc : D (46 + 6 * t + 2) = 0 ∧ D (46 + 6 * t + 3) = nI w) (mm3 : D (46 + 6 * t + 1) = nI mm) (r : Nat) (σ : Sg) (hr : Row σ r D) : f_X12_stays r (nI t) σ = (if (3 : Int32) < nI mm then (c_X12_stays_48 r σ (D (46 + 6 * t)) 0) else (if nI mm ≤ nI (pc (bN D 0 (nI w) (tN D)) - 1) then (c_X12_stays_48 r σ (D (46 + 6 * t)) 0) else (c_X12_stays_48 r σ (D (46 + 6 * t)) (1 : Int32)))) := by
  have b2 := hW.2.2.2.2.1
  have hq := own_pc hW ht hc
  have a0 := aThing_at (r := r) (t := t) (c := 0) (σ := σ) (by omega) (by omega)
  have a1 := aThing_at (r := r) (t := t) (c := 1) (σ := σ) (by omega) (by omega)
  have a3 := aThing_at (r := r) (t := t) (c := 3) (σ := σ) (by omega) (by omega)
  rw [hr _ (by omega)] at a0 a1 a3
  obtain ⟨k1, k2⟩ := mmany_eq hW hr 0 (nI w)
  rw [show nI 0 = (0 : Int32) from rfl, Nat.add_zero] at a0
  rw [show nI 1 = (1 : Int32) from rfl, mm3] at a1
  rw [show nI 3 = (3 : Int32) from rfl, hc.2] at a3
  have k12 : ∀ K : Int32 → Option Int32, ((f_X12_thingsIn r 0 (nI w) σ).bind fun q17 => (f_X12_many q17 σ).bind K) = K (nI (pc (bN D 0 (nI w) (tN D)))) := fun K => by
    rw [k1, Option.bind_some, k2, Option.bind_some]
  unfold f_X12_stays
  rw [a0, Option.bind_some, a1, Option.bind_some, a3, Option.bind_some, k12]
  generalize pc (bN D 0 (nI w) (tN D)) = p at hq ⊢
  obtain ⟨p, rfl⟩ : ∃ z, p = z + 1 := ⟨p - 1, by omega⟩
  rw [nIm1, Nat.add_sub_cancel]
  by_cases c1 : (3 : Int32) < nI mm
  · rw [if_pos c1, if_pos c1, c_X12_stays_47]
  · rw [if_neg c1, if_neg c1]
    by_cases c2 : nI mm ≤ nI p
    · rw [if_pos c2, if_pos c2, c_X12_stays_47]
    · rw [if_neg c2, if_neg c2]
theorem few_eq {D : Nat → Int32} {m t w : Nat} (hW : WOK D m) (ht : t < tN D) (h0 : D (46 + 6 * t + 2) = 0) (h3 : D (46 + 6 * t + 3) = nI w) : ∃ b : Int32, (b = 0 ∨ b = 1) ∧ (∀ (a x y : Nat) (σ : Sg), RW σ a D → f_X10_waitsForMore a x y (nI t) σ = some b) ∧ (∀ (r : Nat) (σ : Sg), Row σ r D → f_X12_stays r (nI t) σ = c_X12_stays_48 r σ (D (46 + 6 * t)) b) := by
  obtain ⟨-, ⟨mm, mm1, mm2, mm3⟩, -, -, -, -⟩ := hW.2.2.2.2.2.2 t ht
  have hX := few_x hW ht ⟨h0, h3⟩ mm3
  have hM := few_m hW ht ⟨h0, h3⟩ mm3
  by_cases c1 : (3 : Int32) < nI mm
  · refine ⟨0, Or.inl rfl, fun a x y σ hR => ?_, fun r σ hr => ?_⟩
    · rw [hX a x y σ hR, if_pos c1]
    · rw [hM r σ hr, if_pos c1]
  · by_cases c2 : nI mm ≤ nI (pc (bN D 0 (nI w) (tN D)) - 1)
    · refine ⟨0, Or.inl rfl, fun a x y σ hR => ?_, fun r σ hr => ?_⟩
      · rw [hX a x y σ hR, if_neg c1, if_pos c2]
      · rw [hM r σ hr, if_neg c1, if_pos c2]
    · refine ⟨1, Or.inr rfl, fun a x y σ hR => ?_, fun r σ hr => ?_⟩
      · rw [hX a x y σ hR, if_neg c1, if_neg c2]
      · rw [hM r σ hr, if_neg c1, if_neg c2]
theorem le1_lt2 (x : Int32) : x < 2 ↔ x ≤ 1 := by
  have e1 : (1 : Int32).toInt = 1 := rfl
  have e2 : (2 : Int32).toInt = 2 := rfl
  rw [ilt, ile]
  omega
theorem stays_eq {D : Nat → Int32} {m t w : Nat} (hW : WOK D m) (ht : t < tN D) (h0 : D (46 + 6 * t + 2) = 0) (h3 : D (46 + 6 * t + 3) = nI w) : ∃ b : Int32, (∀ (a x y : Nat) (σ : Sg), RW σ a D → f_X10_stays a x y (nI t) σ = some b) ∧ (∀ (r : Nat) (σ : Sg), Row σ r D → f_X12_stays r (nI t) σ = some b) := by
  have b2 := hW.2.2.2.2.1
  obtain ⟨b, hb, bx, bm⟩ := few_eq hW ht h0 h3
  obtain ⟨⟨kd, kd1, kd2, kd3⟩, -, -, -, -, -⟩ := hW.2.2.2.2.2.2 t ht
  rw [kd3] at bm
  have hX : ∀ (a x y : Nat) (σ : Sg), RW σ a D → f_X11_pick (a + 6 + 1) 10 (nI t) σ = some (nI kd) ∧ f_X10_month a x y σ = some (D 0 / 30 - D 0 / 30 / 12 * 12) ∧ σ a 4 = D 0 := fun a x y σ hR => by
    refine ⟨?_, ?_, hR.1⟩
    · rw [pick_at (by omega) (by omega), ← kd3]
      exact congrArg some (hR.2.2.2.2 t ht).1
    · unfold f_X10_month
      rw [hR.1]
  have hM : ∀ (r : Nat) (σ : Sg), Row σ r D → f_X12_month r σ = some (D 0 / 30 - D 0 / 30 / 12 * 12) ∧ σ r 0 = D 0 := fun r σ hr => by
    refine ⟨?_, hr 0 (by omega)⟩
    unfold f_X12_month
    rw [hr 0 (by omega)]
  generalize hmo : D 0 / 30 - D 0 / 30 / 12 * 12 = mo at hX hM
  match kd, kd2 with
  | 0, _ =>
    refine ⟨0, fun a x y σ hR => ?_, fun r σ hr => ?_⟩
    · unfold f_X10_stays; rw [(hX a x y σ hR).1]; rfl
    · rw [bm r σ hr]; rfl
  | 1, _ =>
    refine ⟨0, fun a x y σ hR => ?_, fun r σ hr => ?_⟩
    · unfold f_X10_stays; rw [(hX a x y σ hR).1]; rfl
    · rw [bm r σ hr]; rfl
  | 2, _ =>
    refine ⟨b, fun a x y σ hR => ?_, fun r σ hr => ?_⟩
    · unfold f_X10_stays; rw [(hX a x y σ hR).1]; simp only [Option.bind_some]
      rw [if_pos (show nI 2 = 2 from rfl), bx a x y σ hR]; simp only [Option.bind_some]
      rw [if_pos hb]
    · rw [bm r σ hr]; unfold c_X12_stays_48
      rw [if_pos (show nI 2 = 2 from rfl), if_pos hb]
  | 3, _ =>
    by_cases c1 : mo ≤ 1
    · refine ⟨1, fun a x y σ hR => ?_, fun r σ hr => ?_⟩
      · unfold f_X10_stays; rw [(hX a x y σ hR).1, (hX a x y σ hR).2.1]; simp only [Option.bind_some]
        rw [if_neg (show ¬ nI 3 = 2 by decide), if_pos (show nI 3 = 3 from rfl), if_pos c1]; rfl
      · rw [bm r σ hr]; unfold c_X12_stays_48
        rw [if_neg (show ¬ nI 3 = 2 by decide), if_pos (show nI 3 = 3 from rfl), (hM r σ hr).1]; simp only [Option.bind_some]
        rw [if_pos ((le1_lt2 mo).mpr c1)]; rfl
    · by_cases c2 : mo = 11
      · refine ⟨1, fun a x y σ hR => ?_, fun r σ hr => ?_⟩
        · unfold f_X10_stays; rw [(hX a x y σ hR).1, (hX a x y σ hR).2.1]; simp only [Option.bind_some]
          rw [if_neg (show ¬ nI 3 = 2 by decide), if_pos (show nI 3 = 3 from rfl), if_neg c1, if_pos c2]; rfl
        · rw [bm r σ hr]; unfold c_X12_stays_48
          rw [if_neg (show ¬ nI 3 = 2 by decide), if_pos (show nI 3 = 3 from rfl), (hM r σ hr).1]; simp only [Option.bind_some]
          rw [if_neg (fun z => c1 ((le1_lt2 mo).mp z)), if_pos c2]; rfl
      · refine ⟨0, fun a x y σ hR => ?_, fun r σ hr => ?_⟩
        · unfold f_X10_stays; rw [(hX a x y σ hR).1, (hX a x y σ hR).2.1]; simp only [Option.bind_some]
          rw [if_neg (show ¬ nI 3 = 2 by decide), if_pos (show nI 3 = 3 from rfl), if_neg c1, if_neg c2]
        · rw [bm r σ hr]; unfold c_X12_stays_48
          rw [if_neg (show ¬ nI 3 = 2 by decide), if_pos (show nI 3 = 3 from rfl), (hM r σ hr).1]; simp only [Option.bind_some]
          rw [if_neg (fun z => c1 ((le1_lt2 mo).mp z)), if_neg c2]
  | 4, _ =>
    refine ⟨0, fun a x y σ hR => ?_, fun r σ hr => ?_⟩
    · unfold f_X10_stays; rw [(hX a x y σ hR).1]; rfl
    · rw [bm r σ hr]; rfl
  | 5, _ =>
    refine ⟨0, fun a x y σ hR => ?_, fun r σ hr => ?_⟩
    · unfold f_X10_stays; rw [(hX a x y σ hR).1]; rfl
    · rw [bm r σ hr]; rfl
  | 6, _ =>
    by_cases c1 : b = 0
    · by_cases c2 : D 0 - D 0 / 7 * 7 = 0
      · refine ⟨1, fun a x y σ hR => ?_, fun r σ hr => ?_⟩
        · unfold f_X10_stays; rw [(hX a x y σ hR).1, bx a x y σ hR]; simp only [Option.bind_some]
          rw [(hX a x y σ hR).2.2, if_neg (show ¬ nI 6 = 2 by decide), if_neg (show ¬ nI 6 = 3 by decide), if_neg (show ¬ nI 6 = 4 by decide), if_neg (show ¬ nI 6 = 5 by decide), if_pos (show nI 6 = 6 from rfl), if_pos c1, if_pos c2]; rfl
        · rw [bm r σ hr]; unfold c_X12_stays_48
          rw [(hM r σ hr).2, if_neg (show ¬ nI 6 = 2 by decide), if_neg (show ¬ nI 6 = 3 by decide), if_neg (show ¬ nI 6 = 4 by decide), if_neg (show ¬ nI 6 = 5 by decide), if_pos (show nI 6 = 6 from rfl), if_pos c1, if_pos c2]; rfl
      · refine ⟨0, fun a x y σ hR => ?_, fun r σ hr => ?_⟩
        · unfold f_X10_stays; rw [(hX a x y σ hR).1, bx a x y σ hR]; simp only [Option.bind_some]
          rw [(hX a x y σ hR).2.2, if_neg (show ¬ nI 6 = 2 by decide), if_neg (show ¬ nI 6 = 3 by decide), if_neg (show ¬ nI 6 = 4 by decide), if_neg (show ¬ nI 6 = 5 by decide), if_pos (show nI 6 = 6 from rfl), if_pos c1, if_neg c2]
        · rw [bm r σ hr]; unfold c_X12_stays_48
          rw [(hM r σ hr).2, if_neg (show ¬ nI 6 = 2 by decide), if_neg (show ¬ nI 6 = 3 by decide), if_neg (show ¬ nI 6 = 4 by decide), if_neg (show ¬ nI 6 = 5 by decide), if_pos (show nI 6 = 6 from rfl), if_pos c1, if_neg c2]
    · refine ⟨1, fun a x y σ hR => ?_, fun r σ hr => ?_⟩
      · unfold f_X10_stays; rw [(hX a x y σ hR).1, bx a x y σ hR]; simp only [Option.bind_some]
        rw [if_neg (show ¬ nI 6 = 2 by decide), if_neg (show ¬ nI 6 = 3 by decide), if_neg (show ¬ nI 6 = 4 by decide), if_neg (show ¬ nI 6 = 5 by decide), if_pos (show nI 6 = 6 from rfl), if_neg c1]; rfl
      · rw [bm r σ hr]; unfold c_X12_stays_48
        rw [if_neg (show ¬ nI 6 = 2 by decide), if_neg (show ¬ nI 6 = 3 by decide), if_neg (show ¬ nI 6 = 4 by decide), if_neg (show ¬ nI 6 = 5 by decide), if_pos (show nI 6 = 6 from rfl), if_neg c1]; rfl
