def WF (σ' σ : Sg) : Prop := ∀ r k, (r ≠ 93 ∨ k < 5 ∨ 10 < k) → σ' r k = σ r k
theorem worked_start {B : Nat → Int32} {n u base : Nat} (hu : u ≤ 1) (σ : Sg) (hB : ∀ i, i < n → σ 94 (base + i) = B i) : ∃ s, MS B base n 0 0 (slw u) s ∧ WF s σ ∧ f_X12_worked (nI base) (nI n) (nI u) σ = (f_X12_either 64 s).bind fun q2 => (if 0 ≤ (q2.2 93 8) then (some (q2.1, q2.2)) else (if (q2.2 93 7) ≤ (q2.2 93 6) then (some (q2.1, q2.2)) else ((f_X12_wrong q2.2).bind fun q5 => (some (q5.1, q5.2))))) := by
  refine ⟨mup (mup (mup (mup (mup (mup σ 93 5 (nI base)) 93 6 0) 93 7 (nI n)) 93 8 (-1)) 93 9 0) 93 10 (slw u), ⟨?_, ?_, ?_, ?_, ?_, ?_, fun i hi => ?_⟩, fun r k h => ?_, ?_⟩
  · simp (disch := omega) only [mup_o, mup_s]
  · simp (disch := omega) only [mup_o, mup_s]; rfl
  · simp (disch := omega) only [mup_o, mup_s]
  · simp (disch := omega) only [mup_o, mup_s]
  · simp (disch := omega) only [mup_o, mup_s]; rfl
  · simp (disch := omega) only [mup_s]
  · simp (disch := omega) only [mup_o]; exact hB i hi
  · simp (disch := omega) only [mup_o]
  · unfold f_X12_worked c_X12_worked_35 slw
    by_cases z : u = 0
    · rw [if_pos (by rw [z]; rfl), if_pos (Or.inr rfl), if_pos z]
    · have e1 : u = 1 := by omega
      rw [if_neg (by rw [e1]; decide), if_pos (Or.inl rfl), if_neg z]
theorem WF.ofMK {σ' s σ : Sg} (h : MK σ' s) (g : WF s σ) : WF σ' σ := fun r k e => (h r k (by omega)).trans (g r k e)
theorem worked_ok {B : Nat → Int32} {n u base p' : Nat} {cd : List Int32} {V : Int32 → Int32 → Int32 → Int32 → Int32} {fX : Sg → Option (Int32 × Sg)} (hu : u ≤ 1) (hn : n ≤ 50) (hb : base ≤ 264) (h : OkO B n u 0 0 fX (f_X12_either 64) p' cd V) (σ : Sg) (hB : ∀ i, i < n → σ 94 (base + i) = B i) : ∃ σ', f_X12_worked (nI base) (nI n) (nI u) σ = (if n ≤ p' then some (V (σ 98 0) (σ 98 1) (σ 98 2) (σ 98 3), σ') else some (0, mup σ' 93 8 (nI p'))) ∧ σ' 93 8 = -1 ∧ WF σ' σ := by
  obtain ⟨k1, k2, k3, k4, k5, k6⟩ := h
  obtain ⟨s, s1, s2, s3⟩ := worked_start hu σ hB
  obtain ⟨σ', e1, e2, e3⟩ := k6 s base hb s1
  refine ⟨σ', ?_, e2.2.2.2.1, WF.ofMK e3 s2⟩
  rw [s3, e1, Option.bind_some]
  have a8 : ¬ (0 : Int32) ≤ σ' 93 8 := by rw [e2.2.2.2.1]; decide
  rw [s2 98 0 (by omega), s2 98 1 (by omega), s2 98 2 (by omega), s2 98 3 (by omega)]
  by_cases z : n ≤ p'
  · have a7 : σ' 93 7 ≤ σ' 93 6 := by rw [e2.2.2.1, e2.2.1]; exact nI_le z (by omega)
    rw [if_neg a8, if_pos a7, if_pos z]
  · have a7 : ¬ σ' 93 7 ≤ σ' 93 6 := by rw [e2.2.2.1, e2.2.1, nI_le_iff (by omega) (by omega)]; exact z
    rw [if_neg a8, if_neg a7, if_neg z, m_wrong e2, Option.bind_some]
theorem worked_bad {B : Nat → Int32} {n u base pf : Nat} {fX : Sg → Option (Int32 × Sg)} (hu : u ≤ 1) (hn : n ≤ 50) (hb : base ≤ 264) (h : BadO B n u 0 0 fX (f_X12_either 64) pf) (σ : Sg) (hB : ∀ i, i < n → σ 94 (base + i) = B i) : ∃ v σ', f_X12_worked (nI base) (nI n) (nI u) σ = some (v, σ') ∧ σ' 93 8 = nI pf ∧ WF σ' σ := by
  obtain ⟨k1, k2, k3⟩ := h
  obtain ⟨s, s1, s2, s3⟩ := worked_start hu σ hB
  obtain ⟨v, σ', e1, e2, e3⟩ := k3 s base hb s1
  refine ⟨v, σ', ?_, e2, WF.ofMK e3 s2⟩
  rw [s3, e1, Option.bind_some]
  have a8 : (0 : Int32) ≤ σ' 93 8 := by rw [e2]; exact nI_pos' (by omega)
  rw [if_pos a8]
theorem mrow_of {σ' σ : Sg} {a : Nat} (h : ∀ r, r ≠ a → σ' r = σ r) : σ' = mrow σ a (σ' a) := by
  funext r
  by_cases z : r = a
  · rw [z, mrow_at]
  · rw [mrow_ne z, h r z]
theorem worth_ok {cd : List Int32} {V : Int32 → Int32 → Int32 → Int32 → Int32} (h : Wk cd V) (hl : cd.length ≤ 50) {a : Nat} {σ : Sg} (hc : ∀ j, j < cd.length → σ (a + 1) j = cd.getD j 0) (h2 : σ a 2 = nI cd.length) (A Bb C F : Int32) : ∃ f, f_X6_worth a A Bb C F σ = some (V A Bb C F, mrow σ (a + 2) f) := by
  obtain ⟨h0, h⟩ := h
  obtain ⟨σ', e1, e2, e3, e4⟩ := h a (1000 - cd.length) A Bb C F 0 0 cd.length σ (-1) (by decide) (Nat.le_refl _) (by omega) hl h2 (fun j hj => by rw [Nat.zero_add]; exact hc j hj)
  refine ⟨σ' (a + 2), ?_⟩
  rw [← mrow_of e4]
  unfold f_X6_worth
  rw [show 1000 - cd.length + cd.length = 1000 by omega, Nat.zero_add] at e1
  refine Eq.trans e1 ?_
  obtain ⟨m, hm⟩ : ∃ k, 1000 - cd.length = k + 1 := ⟨1000 - cd.length - 1, by omega⟩
  rw [hm, c_X6_worth_6, e4 a (by omega), h2, if_pos (nI_le (Nat.le_refl _) (by omega)), pick_at (by omega) (by omega), Option.bind_some, e2]
/-- the text that was read, as both keep it -/
theorem TRx_of {B : Nat → Int32} {n u : Nat} {cd : List Int32} {V : Int32 → Int32 → Int32 → Int32 → Int32} {fX : Sg → Option (Int32 × Sg)} (hu : u ≤ 1) (hn : n ≤ 50) (h : OkO B n u 0 0 fX (f_X12_either 64) n cd V) {code : Nat → Int32} {by_ : Nat → Int32} (hc : ∀ j, j < cd.length → code j = cd.getD j 0) (hby : ∀ i, i < n → by_ i = B i) : TRx code (nI cd.length) by_ (nI n) u := by
  have k1 := h.1
  have k3 := h.2.2.1
  have kW := h.2.2.2.1
  refine ⟨⟨cd.length, kW.1, by omega, rfl⟩, ⟨n, by omega, hn, rfl⟩, fun A Bb C F => ⟨V A Bb C F, fun a σ hcd hl => worth_ok kW (by omega) (fun j hj => by rw [hcd j (by omega)]; exact hc j hj) hl A Bb C F, fun base σ hb hi h0 h1 h2 h3 => ?_⟩⟩
  rw [clI (by omega)] at hi
  obtain ⟨σ', e1, e2, e3⟩ := worked_ok hu hn hb h σ (fun i hi2 => by rw [hi i hi2]; exact hby i hi2)
  refine ⟨σ' 93, ?_, fun k hk => e3 93 k (by omega)⟩
  rw [e1, if_pos (Nat.le_refl _), h0, h1, h2, h3]
  congr 2
  exact mrow_of (fun r hr => rows_eq (fun k => e3 r k (by omega)))
theorem mtext_go {n u : Nat} (hn : n ≤ 50) (hu : u ≤ 1) : ∀ j i m (σ : Sg), n - i = j → i ≤ n → j < m → ∃ σ', c_X12_text_69 m (nI u) (nI n) (nI i) σ = some (1, σ') ∧ (∀ k, i ≤ k → k < n → σ' 94 (164 + 50 * u + k) = σ 94 (264 + k)) ∧ (∀ r k, (r ≠ 94 ∨ k < 164 + 50 * u + i ∨ 164 + 50 * u + n ≤ k) → σ' r k = σ r k) := by
  intro j
  induction j with
  | zero =>
    intro i m σ hj hi hm
    obtain ⟨m, rfl⟩ : ∃ k, m = k + 1 := ⟨m - 1, by omega⟩
    refine ⟨σ, ?_, fun k _ _ => by omega, fun _ _ _ => rfl⟩
    rw [c_X12_text_69, if_pos (nI_le (by omega) (by omega))]
  | succ j ih =>
    intro i m σ hj hi hm
    obtain ⟨m, rfl⟩ : ∃ k, m = k + 1 := ⟨m - 1, by omega⟩
    have ix : (164 : Int32) + (50 : Int32) * nI u + nI i = nI (164 + 50 * u + i) := by
      rw [show (164 : Int32) = nI 164 from rfl, show (50 : Int32) = nI 50 from rfl, pk_mul, nIa, nIa]
    obtain ⟨σ', e1, e2, e3⟩ := ih (i + 1) m (mup σ 94 (164 + 50 * u + i) (σ 94 (264 + i))) (by omega) (by omega) (by omega)
    refine ⟨σ', ?_, fun k k1 k2 => ?_, fun r k h => ?_⟩
    · rw [c_X12_text_69, if_neg (nI_ge (by omega) (by omega)), ixP, gdI (by omega) (by omega), ix, gdI (by omega) (by omega), clI (by omega), clI (by omega), nIp1]
      exact e1
    · by_cases z : k = i
      · subst z
        rw [e3 _ _ (by omega), mup_s]
      · rw [e2 k (by omega) k2, mup_o (by omega)]
    · rw [e3 r k (by omega), mup_o (by omega)]
/-- the desk anew, and what lies in the hands -/
theorem Inv.desk2 {xs : Nat → Int32} {σ σ2 : Sg} (h : Inv xs σ) (eT : ∀ j, j ≤ 2 ∨ (10 ≤ j ∧ j < 106) → σ2 94 j = σ 94 j) (eR : ∀ r k, (r = 0 ∨ 15 < r) → r ≠ 94 → (r < 70 ∨ 72 < r) → (r ≠ 93 ∨ k < 5 ∨ 10 < k) → r ≠ 98 → σ2 r k = σ r k) (hD : DOK (σ2 94)) (hR : RD σ2 1 (σ2 94)) : Inv xs σ2 := by
  have h' : Inv xs (fun r => if r = 94 ∨ (1 ≤ r ∧ r ≤ 15) then σ r else σ2 r) := h.hands (fun r k y1 y2 y3 y4 y5 y6 y7 y8 y9 => by
    show (if r = 94 ∨ (1 ≤ r ∧ r ≤ 15) then σ r else σ2 r) k = σ r k
    by_cases z : r = 94 ∨ (1 ≤ r ∧ r ≤ 15)
    · rw [if_pos z]
    · rw [if_neg z]
      exact eR r k (by omega) (by omega) (by omega) (by omega) y7)
  refine h'.desk (fun j hj => ?_) (fun r a b => ?_) hD hR
  · show σ2 94 j = (if 94 = 94 ∨ (1 ≤ 94 ∧ 94 ≤ 15) then σ 94 else σ2 94) j
    rw [if_pos (Or.inl rfl)]
    exact eT j hj
  · show σ2 r = (if r = 94 ∨ (1 ≤ r ∧ r ≤ 15) then σ r else σ2 r)
    rw [if_neg (by omega)]
