theorem bN_lt (D : Nat → Int32) (x y : Int32) : ∀ n, bN D x y n < 2 ^ n
  | 0 => Nat.one_pos
  | n + 1 => by
    have := bN_lt D x y n
    unfold bN
    rw [Nat.pow_succ]
    split <;> omega
theorem bv_bN (D : Nat → Int32) (x y : Int32) : ∀ n, n ≤ 10 → bv D x y n = nI (bN D x y n)
  | 0, _ => rfl
  | n + 1, h => by
    have g := bv_bN D x y n (by omega)
    have l := bN_lt D x y n
    have l2 : 2 ^ n ≤ 2 ^ 9 := Nat.pow_le_pow_right (by decide) (by omega)
    unfold bv bN
    rw [g]
    by_cases c : D (46 + 6 * n + 2) = x ∧ D (46 + 6 * n + 3) = y
    · rw [if_pos c, if_pos c]
      exact orpow n (by omega) _ (by omega) l
    · rw [if_neg c, if_neg c]
theorem bN_bit (D : Nat → Int32) (x y : Int32) (t : Nat) : ∀ n, t < n → (bN D x y n).testBit t = decide (D (46 + 6 * t + 2) = x ∧ D (46 + 6 * t + 3) = y)
  | 0, h => by omega
  | n + 1, h => by
    have l := bN_lt D x y n
    unfold bN
    by_cases z : t = n
    · subst z
      by_cases c : D (46 + 6 * t + 2) = x ∧ D (46 + 6 * t + 3) = y
      · rw [if_pos c, Nat.testBit_two_pow_add_eq, Nat.testBit_lt_two_pow l]
        simp [c]
      · rw [if_neg c, Nat.testBit_lt_two_pow l]
        simp [c]
    · have g := bN_bit D x y t n (by omega)
      by_cases c : D (46 + 6 * n + 2) = x ∧ D (46 + 6 * n + 3) = y
      · rw [if_pos c, Nat.testBit_two_pow_add_gt (by omega), g]
      · rw [if_neg c, g]
theorem bN_1024 (D : Nat → Int32) (x y : Int32) {n : Nat} (h : n ≤ 10) : bN D x y n < 1024 := by
  have l := bN_lt D x y n
  have l2 : 2 ^ n ≤ 2 ^ 10 := Nat.pow_le_pow_right (by decide) h
  omega
theorem many_c (σ σ' : Sg) : ∀ n x y z, c_X12_many_4 σ n x y z = c_X12_many_4 σ' n x y z := by
  intro n
  induction n with
  | zero => intros; rfl
  | succ n ih =>
    intro x y z
    unfold c_X12_many_4
    rw [ih]
theorem many_eq {v : Nat} (h : v < 1024) (σ : Sg) : f_X12_many (nI v) σ = some (nI (pc v)) := by
  rw [← (many_all v h).1]
  unfold f_X12_many
  exact many_c _ _ _ _ _ _
theorem others_eq {σ : Sg} {a m t : Nat} {D : Nat → Int32} (hW : WOK D m) (hR : RW σ a D) (x y : Int32) (ht : t < tN D) : f_X7_others (a + 6) (nI t) x y σ = some (nI (pc (bN D x y (tN D)) - if D (46 + 6 * t + 2) = x ∧ D (46 + 6 * t + 3) = y then 1 else 0)) ∧ ((D (46 + 6 * t + 2) = x ∧ D (46 + 6 * t + 3) = y) → 1 ≤ pc (bN D x y (tN D))) := by
  have b := hW.2.2.2.2.1
  have hl := bN_1024 D x y b
  have hb := bN_bit D x y t (tN D) ht
  obtain ⟨g1, g2⟩ := bc_all t (by omega) _ hl
  rw [hb] at g1 g2
  refine ⟨?_, fun z => g2 (by simp [z])⟩
  unfold f_X7_others
  rw [bits_eq hW hR, bv_bN D x y _ b]
  simp only [Option.bind_some]
  have e : ∀ q, f_J6_bitCount_0f7a4 q σ = f_J6_bitCount_0f7a4 q (fun _ _ => 0) := fun _ => rfl
  rw [e, g1]
  simp only [Option.bind_some, decide_eq_true_eq]
theorem bv_cong {D D' : Nat → Int32} (x y : Int32) : ∀ n, n ≤ 10 → (∀ j, 46 ≤ j → j < 106 → D' j = D j) → bv D' x y n = bv D x y n
  | 0, _, _ => rfl
  | n + 1, h, e => by
    unfold bv
    rw [e _ (by omega) (by omega), e _ (by omega) (by omega), bv_cong x y n (by omega) e]
/-- the reference's row r holds D -/
def Row (σ : Sg) (r : Nat) (D : Nat → Int32) : Prop := ∀ j, j < 106 → σ r j = D j
theorem mmany_eq {σ : Sg} {r m : Nat} {D : Nat → Int32} (hW : WOK D m) (hr : Row σ r D) (x y : Int32) : f_X12_thingsIn r x y σ = some (nI (bN D x y (tN D))) ∧ f_X12_many (nI (bN D x y (tN D))) σ = some (nI (pc (bN D x y (tN D)))) := by
  have b := hW.2.2.2.2.1
  have hW' : WOK (σ r) m := hW.cong (fun j hj => hr j (by omega))
  have et : tN (σ r) = tN D := tN_cong (hr 2 (by omega))
  refine ⟨?_, many_eq (bN_1024 D x y b) σ⟩
  rw [thingsIn_eq hW', et, bv_cong x y _ b (fun j _ _ => hr j (by omega)), bv_bN D x y _ b]
/-- what one lasts, its text apart -/
theorem byKind_eq {D : Nat → Int32} {m t w j : Nat} (hW : WOK D m) (ht : t < tN D) (h0 : D (46 + 6 * t + 2) = 0) (h3 : D (46 + 6 * t + 3) = nI w) (hw : w < wN D) (hj : D (10 + 4 * w) = nI j) : ∃ k, 1 ≤ k ∧ k ≤ 100 ∧ (∀ (a x y : Nat) (σ : Sg), RW σ a D → f_X10_lastsByKind a x y (nI t) (D (46 + 6 * t)) (D (46 + 6 * t + 1)) (nI w) σ = some (nI k)) ∧ (∀ (r : Nat) (σ : Sg), Row σ r D → f_X12_lasts r (nI t) σ = c_X12_lasts_169 r (nI w) (D (46 + 6 * t + 1)) (D (46 + 6 * t)) (nI k) σ) := by
  have b1 := hW.2.2.1
  have b2 := hW.2.2.2.2.1
  obtain ⟨⟨kd, kd1, kd2, kd3⟩, ⟨mm, mm1, mm2, mm3⟩, -, -, -, -⟩ := hW.2.2.2.2.2.2 t ht
  obtain ⟨-, ⟨d, d1, d2, d3⟩, -, -⟩ := hW.2.2.2.2.2.1 w hw
  have hX : ∀ (a x y : Nat) (σ : Sg), RW σ a D → f_X9_daysOf (a + 1) (nI w) σ = some (nI d) ∧ f_X9_leadsTo (a + 1) (nI w) σ = some (nI j) ∧ f_X10_month a x y σ = some (D 0 / 30 - D 0 / 30 / 12 * 12) := fun a x y σ hR => by
    refine ⟨?_, ?_, ?_⟩
    · rw [daysOf_at (by omega), ← d3, ← (hR.2.2.2.1 w hw).2.1]
    · rw [leadsTo_at (hR.2.1.trans hW.2.1) hw b1, ← hj, ← (hR.2.2.2.1 w hw).1]
    · unfold f_X10_month
      rw [hR.1]
  have hM : ∀ (r : Nat) (σ : Sg), Row σ r D → f_X12_aThing r (nI t) 3 σ = some (nI w) ∧ f_X12_aWell r (nI w) 1 σ = some (nI d) ∧ f_X12_aThing r (nI t) 1 σ = some (nI mm) ∧ f_X12_aThing r (nI t) 0 σ = some (nI kd) ∧ f_X12_aWell r (nI w) 0 σ = some (nI j) ∧ f_X12_month r σ = some (D 0 / 30 - D 0 / 30 / 12 * 12) := fun r σ hr => by
    have a0 := aThing_at (r := r) (t := t) (c := 0) (σ := σ) (by omega) (by omega)
    have a1 := aThing_at (r := r) (t := t) (c := 1) (σ := σ) (by omega) (by omega)
    have a3 := aThing_at (r := r) (t := t) (c := 3) (σ := σ) (by omega) (by omega)
    have c0 := aWell_at (r := r) (w := w) (c := 0) (σ := σ) (by omega) (by omega)
    have c1 := aWell_at (r := r) (w := w) (c := 1) (σ := σ) (by omega) (by omega)
    rw [hr _ (by omega)] at a0 a1 a3 c0 c1
    refine ⟨a3.trans (by rw [h3]), c1.trans (by rw [d3]), a1.trans (by rw [mm3]), a0.trans ?_, c0.trans ?_, ?_⟩
    · rw [Nat.add_zero, kd3]
    · rw [Nat.add_zero, hj]
    · unfold f_X12_month
      rw [hr 0 (by omega)]
  have key : ∀ k v, k = v → v < 2 ^ 31 → nI k = nI v := fun k v h _ => by rw [h]
  rw [kd3, mm3]
  have n1 : (1 : Int32) = nI 1 := rfl
  have hlight : ∀ q : Nat, 1 ≤ q → q ≤ 30 → (if (1 : Int32) < (nI q - (1 : Int32)) then (nI q - (1 : Int32)) else (1 : Int32)) = nI (if q ≤ 2 then 1 else q - 1) ∧ (if nI q ≤ (1 : Int32) then (1 : Int32) else (nI q - (1 : Int32))) = nI (if q ≤ 2 then 1 else q - 1) := by
    intro q q1 q2
    obtain ⟨q, rfl⟩ : ∃ z, q = z + 1 := ⟨q - 1, by omega⟩
    rw [nIm1, n1]
    simp (disch := omega) only [nI_lt_iff, nI_le_iff]
    constructor
    · by_cases z : q + 1 ≤ 2
      · rw [if_pos z, if_neg (by omega)]
      · rw [if_neg z, if_pos (by omega)]; rfl
    · by_cases z : q + 1 ≤ 2
      · rw [if_pos z]
        by_cases y : q + 1 ≤ 1
        · rw [if_pos y]
        · rw [if_neg y, show q = 1 by omega]
      · rw [if_neg z, if_neg (by omega)]; rfl
  match kd, kd2 with
  | 0, _ =>
    refine ⟨d, by omega, by omega, fun a x y σ hR => ?_, fun r σ hr => ?_⟩
    · unfold f_X10_lastsByKind
      rw [(hX a x y σ hR).1]; rfl
    · obtain ⟨g1, g2, g3, g4, g5, g6⟩ := hM r σ hr
      unfold f_X12_lasts
      rw [g1]; simp only [Option.bind_some]
      rw [g2, g3, g4]; rfl
  | 1, _ =>
    refine ⟨if d ≤ 2 then 1 else d - 1, by split <;> omega, by split <;> omega, fun a x y σ hR => ?_, fun r σ hr => ?_⟩
    · unfold f_X10_lastsByKind
      rw [(hX a x y σ hR).1]; simp only [Option.bind_some]
      rw [if_pos (show nI 1 = 1 from rfl), (hlight d d1 d2).1]
    · obtain ⟨g1, g2, g3, g4, g5, g6⟩ := hM r σ hr
      unfold f_X12_lasts
      rw [g1]; simp only [Option.bind_some]
      rw [g2, g3, g4]; simp only [Option.bind_some]
      rw [if_pos (show nI 1 = 1 from rfl), ← (hlight d d1 d2).2]
      unfold c_X12_lasts_76 c_X12_lasts_90
      by_cases z : nI d ≤ 1
      · rw [if_pos z, if_pos z]
      · rw [if_neg z, if_neg z]
  | 2, _ =>
    refine ⟨d + mm, by omega, by omega, fun a x y σ hR => ?_, fun r σ hr => ?_⟩
    · unfold f_X10_lastsByKind
      rw [(hX a x y σ hR).1, ← nIa]; rfl
    · obtain ⟨g1, g2, g3, g4, g5, g6⟩ := hM r σ hr
      unfold f_X12_lasts
      rw [g1]; simp only [Option.bind_some]
      rw [g2, g3, g4, ← nIa]; rfl
  | 3, _ =>
    refine ⟨2 * d, by omega, by omega, fun a x y σ hR => ?_, fun r σ hr => ?_⟩
    · unfold f_X10_lastsByKind
      rw [(hX a x y σ hR).1, ← pk_mul, Int32.mul_comm]; rfl
    · obtain ⟨g1, g2, g3, g4, g5, g6⟩ := hM r σ hr
      unfold f_X12_lasts
      rw [g1]; simp only [Option.bind_some]
      rw [g2, g3, g4, ← pk_mul]; rfl
  | 4, _ =>
    refine ⟨if d ≤ 2 then 1 else d - 1, by split <;> omega, by split <;> omega, fun a x y σ hR => ?_, fun r σ hr => ?_⟩
    · unfold f_X10_lastsByKind
      rw [(hX a x y σ hR).1]; simp only [Option.bind_some]
      rw [if_neg (show ¬ nI 4 = 1 by decide), if_neg (show ¬ nI 4 = 2 by decide), if_neg (show ¬ nI 4 = 3 by decide), if_pos (show nI 4 = 4 from rfl), (hlight d d1 d2).1]
    · obtain ⟨g1, g2, g3, g4, g5, g6⟩ := hM r σ hr
      unfold f_X12_lasts
      rw [g1]; simp only [Option.bind_some]
      rw [g2, g3, g4]; simp only [Option.bind_some]
      rw [if_neg (show ¬ nI 4 = 1 by decide), if_neg (show ¬ nI 4 = 2 by decide), if_neg (show ¬ nI 4 = 3 by decide), if_pos (show nI 4 = 4 from rfl), ← (hlight d d1 d2).2]
      unfold c_X12_lasts_76 c_X12_lasts_90
      by_cases z : nI d ≤ 1
      · rw [if_pos z, if_pos z]
      · rw [if_neg z, if_neg z]
  | 5, _ =>
    have hp := (many_all _ (bN_1024 D 1 (nI j) b2)).2
    refine ⟨d + pc (bN D 1 (nI j) (tN D)), by omega, by omega, fun a x y σ hR => ?_, fun r σ hr => ?_⟩
    · have ho := (others_eq hW hR 1 (nI j) ht).1
      rw [if_neg (fun z => absurd (h0.symm.trans z.1) (by decide)), Nat.sub_zero] at ho
      unfold f_X10_lastsByKind
      rw [(hX a x y σ hR).1, (hX a x y σ hR).2.1]
      simp only [Option.bind_some]
      rw [ho, ← nIa]; rfl
    · obtain ⟨g1, g2, g3, g4, g5, g6⟩ := hM r σ hr
      obtain ⟨k1, k2⟩ := mmany_eq hW hr 1 (nI j)
      unfold f_X12_lasts
      rw [g1]; simp only [Option.bind_some]
      rw [g2, g3, g4, g5]; simp only [Option.bind_some]
      rw [k1]; simp only [Option.bind_some]
      rw [k2, ← nIa]; rfl
  | 6, _ =>
    generalize hmo : D 0 / 30 - D 0 / 30 / 12 * 12 = mo at hX hM
    by_cases z : 5 ≤ mo ∧ mo ≤ 7
    · refine ⟨d + mm + 5, by omega, by omega, fun a x y σ hR => ?_, fun r σ hr => ?_⟩
      · unfold f_X10_lastsByKind
        rw [(hX a x y σ hR).1, (hX a x y σ hR).2.2]; simp only [Option.bind_some]
        rw [within_eq]; simp only [Option.bind_some]
        rw [bI_1 z, ← nIa, ← nIa]; rfl
      · obtain ⟨g1, g2, g3, g4, g5, g6⟩ := hM r σ hr
        unfold f_X12_lasts
        rw [g1]; simp only [Option.bind_some]
        rw [g2, g3, g4, g6]; simp only [Option.bind_some]
        rw [isIn_eq]; simp only [Option.bind_some]
        rw [bI_1 z, ← nIa, ← nIa]; rfl
    · refine ⟨d + mm + 0, by omega, by omega, fun a x y σ hR => ?_, fun r σ hr => ?_⟩
      · unfold f_X10_lastsByKind
        rw [(hX a x y σ hR).1, (hX a x y σ hR).2.2]; simp only [Option.bind_some]
        rw [within_eq]; simp only [Option.bind_some]
        rw [bI_0 z, ← nIa, ← nIa]; rfl
      · obtain ⟨g1, g2, g3, g4, g5, g6⟩ := hM r σ hr
        unfold f_X12_lasts
        rw [g1]; simp only [Option.bind_some]
        rw [g2, g3, g4, g6]; simp only [Option.bind_some]
        rw [isIn_eq]; simp only [Option.bind_some]
        rw [bI_0 z, ← nIa, ← nIa]; rfl
