theorem nIs48 (x : Nat) : nI (x + 48) - 48 = nI x := by
  rw [← nIa, show nI 48 = (48 : Int32) from rfl, Int32.add_sub_cancel]
theorem isDigit_eq (b : Int32) (σ : Sg) : f_X3_isDigit b σ = some (if 48 ≤ b ∧ b ≤ 57 then 1 else 0) := by
  unfold f_X3_isDigit
  by_cases h1 : b < 48
  · rw [if_pos h1, if_neg (fun z => by have := z.1; rw [ile] at this; rw [ilt] at h1; omega)]
  · rw [if_neg h1]
    by_cases h2 : 57 < b
    · rw [if_pos h2, if_neg (fun z => by have := z.2; rw [ile] at this; rw [ilt] at h2; omega)]
    · rw [if_neg h2, if_pos ⟨by rw [ile]; rw [ilt] at h1; omega, by rw [ile]; rw [ilt] at h2; omega⟩]
theorem num_go {B : Nat → Int32} {n u o : Nat} {gE gB gC gS gP gQ : Sg → Option (Int32 × Sg)} (hn : n ≤ 50) : ∀ j k p v, 4 - k = j → k ≤ 4 → p ≤ n → ((k = 0 → v = 0) ∧ (k = 1 → v ≤ 9) ∧ (k = 2 → v ≤ 99) ∧ (k = 3 → v ≤ 999) ∧ (k = 4 → v ≤ 9999)) → ∃ p' w k', k ≤ k' ∧ k' ≤ 4 ∧ p' = p + (k' - k) ∧ p' ≤ n ∧ w ≤ 9999 ∧ (48 ≤ nb B n p ∧ nb B n p ≤ 57 → k < 4 → k < k') ∧ (¬ (48 ≤ nb B n p ∧ nb B n p ≤ 57) → k' = k) ∧ (∀ σ c m, XS B n u p c σ → c < 50 → j < m → ∃ σ', c_X3_readNumber_4 m (nI v) (nI k) σ = some σ' ∧ XO σ' σ p' c [nI w]) ∧ (∀ σ base m, base ≤ 264 → MS B base n o p (slw u) σ → j < m → ∃ σ', c_X12_unit_150 gE gB gC gS gP gQ m (nI v) (nI k) σ = c_X12_unit_202 gE gB gC gS gP gQ (nI w) (nI k') σ' ∧ MS B base n o p' (slw u) σ' ∧ MK σ' σ ∧ (k' = k → σ' = σ)) := by
  intro j
  induction j with
  | zero =>
    intro k p v hj hk hp hv
    have h4 : (4 : Int32) ≤ nI k := by rw [show (4 : Int32) = nI 4 from rfl, nI_le_iff (by omega) (by omega)]; omega
    refine ⟨p, v, k, Nat.le_refl _, hk, by omega, hp, by omega, fun _ h => by omega, fun _ => rfl, fun σ c m hS hc hm => ?_, fun σ base m hb hS hm => ⟨σ, ?_, hS, fun _ _ _ => rfl, fun _ => rfl⟩⟩
    · obtain ⟨m, rfl⟩ : ∃ k, m = k + 1 := ⟨m - 1, by omega⟩
      obtain ⟨σ', e1, e2⟩ := x_append (v := nI v) hS hc
      refine ⟨σ', ?_, e2⟩
      rw [c_X3_readNumber_4, if_pos h4, e1, Option.bind_some]
    · obtain ⟨m, rfl⟩ : ∃ k, m = k + 1 := ⟨m - 1, by omega⟩
      rw [c_X12_unit_150, if_pos h4]
  | succ j ih =>
    intro k p v hj hk hp hv
    have h4 : ¬ (4 : Int32) ≤ nI k := by rw [show (4 : Int32) = nI 4 from rfl, nI_le_iff (by omega) (by omega)]; omega
    by_cases z : 48 ≤ nb B n p ∧ nb B n p ≤ 57
    · have hpn : p < n := by
        rcases Nat.lt_or_ge p n with y | y
        · exact y
        · exfalso
          have e : nb B n p = -1 := by unfold nb; rw [if_neg (by omega)]
          rw [e] at z
          exact absurd z.1 (by decide)
      obtain ⟨d, d1, d2, d3⟩ := Sm_of (lo := 48) (hi := 57) (by decide) (by decide) z.1 z.2
      obtain ⟨d, rfl⟩ : ∃ q, d = q + 48 := ⟨d - 48, by omega⟩
      obtain ⟨p', w, k', a1, a2, a3, a4, a5, -, -, a6, a7⟩ := ih (k + 1) (p + 1) (v * 10 + d) (by omega) (by omega) (by omega) (by omega)
      have eX : nI v * (10 : Int32) + nI (d + 48) - (48 : Int32) = nI (v * 10 + d) := by
        rw [show (10 : Int32) = nI 10 from rfl, pk_mul, nIa, ← Nat.add_assoc, nIs48]
      have eM : (10 : Int32) * nI v + nI (d + 48) - (48 : Int32) = nI (v * 10 + d) := by
        rw [show (10 : Int32) = nI 10 from rfl, pk_mul, nIa, ← Nat.add_assoc, nIs48, Nat.mul_comm]
      refine ⟨p', w, k', by omega, a2, by omega, a4, a5, fun _ _ => by omega, fun y => absurd z y, fun σ c m hS hc hm => ?_, fun σ base m hb hS hm => ?_⟩
      · obtain ⟨m, rfl⟩ : ∃ k, m = k + 1 := ⟨m - 1, by omega⟩
        have x1 := XO.at1 hS
        have s1 : XS B n u (p + 1) c (mup σ 70 3 (σ 70 3 + 1)) := hS.keep x1
        obtain ⟨σ', e1, e2⟩ := a6 _ c m s1 hc (by omega)
        refine ⟨σ', ?_, XO.trans x1 e2⟩
        rw [c_X3_readNumber_4, if_neg h4, x_next hS hp hn, Option.bind_some, isDigit_eq, Option.bind_some, bI_1 z, Option.bind_some, d3, eX, nIp1]
        exact e1
      · obtain ⟨m, rfl⟩ : ∃ k, m = k + 1 := ⟨m - 1, by omega⟩
        obtain ⟨σ', e1, e2, e3, -⟩ := a7 _ base m hb hS.at1 (by omega)
        refine ⟨σ', ?_, e2, e3.trans (MK.at σ _), fun y => by omega⟩
        rw [c_X12_unit_150, if_neg h4, m_here hS hp hn hb, Option.bind_some, isIn_eq, Option.bind_some, bI_1 z, Option.bind_some, d3, eM, nIp1]
        exact e1
    · refine ⟨p, v, k, Nat.le_refl _, hk, by omega, hp, by omega, fun y => absurd y z, fun _ => rfl, fun σ c m hS hc hm => ?_, fun σ base m hb hS hm => ⟨σ, ?_, hS, fun _ _ _ => rfl, fun _ => rfl⟩⟩
      · obtain ⟨m, rfl⟩ : ∃ k, m = k + 1 := ⟨m - 1, by omega⟩
        obtain ⟨σ', e1, e2⟩ := x_append (v := nI v) hS hc
        refine ⟨σ', ?_, e2⟩
        rw [c_X3_readNumber_4, if_neg h4, x_next hS hp hn, Option.bind_some, isDigit_eq, Option.bind_some, bI_0 z, e1, Option.bind_some]
      · obtain ⟨m, rfl⟩ : ∃ k, m = k + 1 := ⟨m - 1, by omega⟩
        rw [c_X12_unit_150, if_neg h4, m_here hS hp hn hb, Option.bind_some, isIn_eq, Option.bind_some, bI_0 z]
theorem name_eq (b : Int32) {u : Nat} (hu : u ≤ 1) : ∃ r : Int32, (∀ σ : Sg, σ 70 2 = nI u → f_X3_nameOf b σ = some r) ∧ (∀ σ : Sg, σ 93 10 = slw u → f_X12_nameOf b σ = some r) ∧ (r = -1 ∨ ((∃ q, q < 4 ∧ r = nI q) ∧ ¬ (48 ≤ b ∧ b ≤ 57) ∧ b ≠ 33 ∧ b ≠ 40 ∧ b ≠ -1)) := by
  have hx0 : ∀ σ : Sg, σ 70 2 = nI u → (σ 70 2 = 0 ↔ u = 0) ∧ (σ 70 2 = 1 ↔ u = 1) := fun σ e => by
    rw [e, show (0 : Int32) = nI 0 from rfl, show (1 : Int32) = nI 1 from rfl, nI_eq_iff (by omega) (by omega), nI_eq_iff (by omega) (by omega)]
    exact ⟨Iff.rfl, Iff.rfl⟩
  have hm0 : ∀ σ : Sg, σ 93 10 = slw u → (σ 93 10 = 0 ↔ u ≠ 0) := fun σ e => by
    rw [e]
    unfold slw
    by_cases z : u = 0
    · rw [if_pos z]; exact ⟨fun y => absurd y one_ne, fun y => absurd z y⟩
    · rw [if_neg z]; exact ⟨fun _ => z, fun _ => rfl⟩
  by_cases b1 : b = 107
  · subst b1
    exact ⟨1, fun σ _ => rfl, fun σ _ => rfl, Or.inr ⟨⟨1, by omega, rfl⟩, by decide, by decide, by decide, by decide⟩⟩
  by_cases b2 : b = 116
  · subst b2
    exact ⟨2, fun σ _ => rfl, fun σ _ => rfl, Or.inr ⟨⟨2, by omega, rfl⟩, by decide, by decide, by decide, by decide⟩⟩
  by_cases b3 : b = 119
  · subst b3
    exact ⟨0, fun σ _ => rfl, fun σ _ => rfl, Or.inr ⟨⟨0, by omega, rfl⟩, by decide, by decide, by decide, by decide⟩⟩
  by_cases b4 : b = 109
  · subst b4
    by_cases z : u = 0
    · refine ⟨3, fun σ e => ?_, fun σ e => ?_, Or.inr ⟨⟨3, by omega, rfl⟩, by decide, by decide, by decide, by decide⟩⟩
      · have : f_X3_nameOf 109 σ = (if (σ 70 2) = 0 then (some (3 : Int32)) else (some (-1 : Int32))) := rfl
        rw [this, if_pos ((hx0 σ e).1.mpr z)]
      · have : f_X12_nameOf 109 σ = (if (σ 93 10) = 0 then (some (-1 : Int32)) else (some (3 : Int32))) := rfl
        rw [this, if_neg (fun y => (hm0 σ e).mp y z)]
    · refine ⟨-1, fun σ e => ?_, fun σ e => ?_, Or.inl rfl⟩
      · have : f_X3_nameOf 109 σ = (if (σ 70 2) = 0 then (some (3 : Int32)) else (some (-1 : Int32))) := rfl
        rw [this, if_neg (fun y => z ((hx0 σ e).1.mp y))]
      · have : f_X12_nameOf 109 σ = (if (σ 93 10) = 0 then (some (-1 : Int32)) else (some (3 : Int32))) := rfl
        rw [this, if_pos ((hm0 σ e).mpr z)]
  by_cases b5 : b = 115
  · subst b5
    by_cases z : u = 0
    · refine ⟨-1, fun σ e => ?_, fun σ e => ?_, Or.inl rfl⟩
      · have : f_X3_nameOf 115 σ = (if (σ 70 2) = 1 then (some (3 : Int32)) else (some (-1 : Int32))) := rfl
        rw [this, if_neg (fun y => by have := (hx0 σ e).2.mp y; omega)]
      · have : f_X12_nameOf 115 σ = (if (σ 93 10) = 0 then (some (3 : Int32)) else (some (-1 : Int32))) := rfl
        rw [this, if_neg (fun y => (hm0 σ e).mp y z)]
    · refine ⟨3, fun σ e => ?_, fun σ e => ?_, Or.inr ⟨⟨3, by omega, rfl⟩, by decide, by decide, by decide, by decide⟩⟩
      · have : f_X3_nameOf 115 σ = (if (σ 70 2) = 1 then (some (3 : Int32)) else (some (-1 : Int32))) := rfl
        rw [this, if_pos ((hx0 σ e).2.mpr (by omega))]
      · have : f_X12_nameOf 115 σ = (if (σ 93 10) = 0 then (some (3 : Int32)) else (some (-1 : Int32))) := rfl
        rw [this, if_pos ((hm0 σ e).mpr z)]
  refine ⟨-1, fun σ e => ?_, fun σ e => ?_, Or.inl rfl⟩
  · unfold f_X3_nameOf
    rw [if_neg b1, if_neg b4, if_neg b5, if_neg b2, if_neg b3]
    simp only [ite_self]
  · unfold f_X12_nameOf c_X12_nameOf_45
    rw [if_neg b3, if_neg b1, if_neg b2, if_neg b5, if_neg b4]
    simp only [ite_self]
theorem MS.open1 {B : Nat → Int32} {base n o p : Nat} {sl : Int32} {σ : Sg} (h : MS B base n o p sl σ) : MS B base n (o + 1) (p + 1) sl (mup (mup σ 93 9 (σ 93 9 + 1)) 93 6 (mup σ 93 9 (σ 93 9 + 1) 93 6 + 1)) := by
  obtain ⟨h1, h2, h3, h4, h5, h6, h7⟩ := h
  refine ⟨?_, ?_, ?_, ?_, ?_, ?_, fun i hi => ?_⟩
  · rw [mup_o (by omega), mup_o (by omega)]; exact h1
  · rw [mup_s, mup_o (by omega), h2, nIp1]
  · rw [mup_o (by omega), mup_o (by omega)]; exact h3
  · rw [mup_o (by omega), mup_o (by omega)]; exact h4
  · rw [mup_o (by omega), mup_s, h5, nIp1]
  · rw [mup_o (by omega), mup_o (by omega)]; exact h6
  · rw [mup_o (by omega), mup_o (by omega)]; exact h7 i hi
theorem MS.shut {B : Nat → Int32} {base n o p : Nat} {sl : Int32} {σ : Sg} (h : MS B base n (o + 1) p sl σ) : MS B base n o p sl (mup σ 93 9 (σ 93 9 - 1)) := by
  obtain ⟨h1, h2, h3, h4, h5, h6, h7⟩ := h
  refine ⟨?_, ?_, ?_, ?_, ?_, ?_, fun i hi => ?_⟩
  · rw [mup_o (by omega)]; exact h1
  · rw [mup_o (by omega)]; exact h2
  · rw [mup_o (by omega)]; exact h3
  · rw [mup_o (by omega)]; exact h4
  · rw [mup_s, h5, nIm1]
  · rw [mup_o (by omega)]; exact h6
  · rw [mup_o (by omega)]; exact h7 i hi
