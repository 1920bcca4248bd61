theorem gdI {α : Type} {k n : Nat} {y : Option α} (h : k < n) (hn : n ≤ 100000) : (if nI k < 0 ∨ n ≤ (nI k).toNatClampNeg then none else y) = y := if_neg (nI_in h (by omega))
theorem clI {k : Nat} (h : k < 2000000) : (nI k).toNatClampNeg = k := nI_clamp (by omega)
theorem ltp {n : Nat} (p : Int32) (hn : n ≤ 1000) : (0 ≤ p ∧ p ≤ nI n - 1) ↔ (0 ≤ p ∧ p < nI n) := by
  have e := nI_toInt (n := n) (by omega)
  have e1 : (1 : Int32).toInt = 1 := rfl
  have e2 : (nI n - 1).toInt = n - 1 := by rw [isub (by omega) (by omega), e, e1]
  constructor <;> rintro ⟨h1, h2⟩ <;> refine ⟨h1, ?_⟩
  · rw [ilt, e]; rw [ile, e2] at h2; omega
  · rw [ile, e2]; rw [ilt, e] at h2; omega
theorem ltq {n : Nat} (p : Int32) (hn : n ≤ 1000) : (-1 ≤ p ∧ p ≤ nI n - 1) ↔ (p = -1 ∨ (0 ≤ p ∧ p < nI n)) := by
  have e := nI_toInt (n := n) (by omega)
  have e1 : (1 : Int32).toInt = 1 := rfl
  have e3 : (-1 : Int32).toInt = -1 := rfl
  have e0 : (0 : Int32).toInt = 0 := rfl
  have e2 : (nI n - 1).toInt = n - 1 := by rw [isub (by omega) (by omega), e, e1]
  rw [ile, ile, ieq, ile, ilt, e2, e3, e, e0]
  omega
theorem isWell_n {σ : Sg} {n : Nat} (h : σ 94 1 = nI n) (hn : n ≤ 1000) (p : Int32) : f_X12_isWell p σ = some (if 0 ≤ p ∧ p < nI n then 1 else 0) := by
  rw [isWell_eq, h]
  simp only [ltp p hn]
theorem isThing_n {σ : Sg} {n : Nat} (h : σ 94 2 = nI n) (hn : n ≤ 1000) (p : Int32) : f_X12_isThing p σ = some (if 0 ≤ p ∧ p < nI n then 1 else 0) := by
  rw [isThing_eq, h]
  simp only [ltp p hn]
theorem has_n {σ : Sg} {a n : Nat} (h : σ a 4 = nI n) (p : Int32) : f_X9_has a p σ = some (if 0 ≤ p ∧ p < nI n then 1 else 0) := by rw [has_eq, h]
theorem thas_n {σ : Sg} {a n : Nat} (h : σ a 6 = nI n) (p : Int32) : f_X7_has a p σ = some (if 0 ≤ p ∧ p < nI n then 1 else 0) := by rw [thas_eq, h]
theorem one_ne : ¬ (1 : Int32) = 0 := by decide
theorem bI_1 {c : Prop} [Decidable c] {α : Type} {x y : α} (h : c) : (if (if c then (1 : Int32) else 0) = 0 then x else y) = y := by
  rw [if_pos h, if_neg one_ne]
theorem bI_0 {c : Prop} [Decidable c] {α : Type} {x y : α} (h : ¬ c) : (if (if c then (1 : Int32) else 0) = 0 then x else y) = x := by
  rw [if_neg h, if_pos rfl]
theorem allows_n {σ : Sg} {a n : Nat} (h : σ a 4 = nI n) (p d : Int32) : f_X9_allows a p d σ = some (if (p = -1 ∨ (0 ≤ p ∧ p < nI n)) ∧ (1 ≤ d ∧ d ≤ 30) then 1 else 0) := by
  unfold f_X9_allows c_X9_allows_13
  rw [has_n h, within_eq]
  simp only [Option.bind_some]
  by_cases h1 : p = -1
  · rw [if_pos h1]
    by_cases h2 : 1 ≤ d ∧ d ≤ 30
    · rw [bI_1 h2, if_pos ⟨Or.inl h1, h2⟩]
    · rw [bI_0 h2, if_neg (fun z => h2 z.2)]
  · rw [if_neg h1]
    by_cases h3 : 0 ≤ p ∧ p < nI n
    · rw [bI_1 h3]
      by_cases h2 : 1 ≤ d ∧ d ≤ 30
      · rw [bI_1 h2, if_pos ⟨Or.inr h3, h2⟩]
      · rw [bI_0 h2, if_neg (fun z => h2 z.2)]
    · rw [bI_0 h3, if_neg (fun z => z.1.elim h1 h3)]
theorem mayGo_n {σ : Sg} {n : Nat} (h : σ 94 1 = nI n) (hn : n ≤ 1000) (p d : Int32) : f_X12_mayGo p d σ = some (if (p = -1 ∨ (0 ≤ p ∧ p < nI n)) ∧ (1 ≤ d ∧ d ≤ 30) then 1 else 0) := by
  unfold f_X12_mayGo
  rw [isIn_eq, isIn_eq, h]
  simp only [Option.bind_some, ltq p hn]
  by_cases h1 : p = -1 ∨ (0 ≤ p ∧ p < nI n)
  · rw [bI_1 h1]
    by_cases h2 : 1 ≤ d ∧ d ≤ 30
    · rw [bI_1 h2, if_pos ⟨h1, h2⟩]
    · rw [bI_0 h2, if_neg (fun z => h2 z.2)]
  · rw [bI_0 h1, if_neg (fun z => h1 z.1)]
theorem ixW (w c : Nat) : ((10 : Int32) + (4 : Int32) * nI w) + nI c = nI (10 + 4 * w + c) := by
  show nI 10 + nI 4 * nI w + nI c = _
  rw [pk_mul, nI_add, nI_add]
theorem ixT (w c : Nat) : ((46 : Int32) + (6 : Int32) * nI w) + nI c = nI (46 + 6 * w + c) := by
  show nI 46 + nI 6 * nI w + nI c = _
  rw [pk_mul, nI_add, nI_add]
theorem ixF (w c : Nat) : ((106 : Int32) + (3 : Int32) * nI w) + nI c = nI (106 + 3 * w + c) := by
  show nI 106 + nI 3 * nI w + nI c = _
  rw [pk_mul, nI_add, nI_add]
theorem ixF0 (w : Nat) : ((106 : Int32) + (3 : Int32) * nI w) = nI (106 + 3 * w) := by
  show nI 106 + nI 3 * nI w = _
  rw [pk_mul, nI_add]
theorem ixA (w : Nat) : ((144 : Int32) + nI w) = nI (144 + w) := by
  show nI 144 + nI w = _
  rw [nI_add]
theorem ixP (w : Nat) : ((264 : Int32) + nI w) = nI (264 + w) := by
  show nI 264 + nI w = _
  rw [nI_add]
theorem itsWell_at {w c : Nat} {σ : Sg} (hw : w < 9) (hc : c ≤ 3) : f_X12_itsWell (nI w) (nI c) σ = some (σ 94 (10 + 4 * w + c)) := by
  unfold f_X12_itsWell
  rw [ixW, gdI (by omega) (by omega), clI (by omega)]
theorem leads_at {w : Nat} {to d : Int32} {σ : Sg} (hw : w < 9) : f_X12_leads (nI w) to d σ = some (mup (mup σ 94 (10 + 4 * w) to) 94 (10 + 4 * w + 1) d) := by
  unfold f_X12_leads
  have e0 := ixW w 0
  have e1 := ixW w 1
  rw [show nI 0 = 0 from rfl] at e0
  rw [show nI 1 = 1 from rfl] at e1
  rw [e0, e1, gdI (by omega) (by omega), gdI (by omega) (by omega), clI (by omega), clI (by omega)]
  rfl
theorem isNow_at {t : Nat} {σ : Sg} (ht : t < 10) : f_X12_isNow (nI t) σ = some (σ 94 (46 + 6 * t + 2)) := by
  unfold f_X12_isNow
  have e1 := ixT t 2
  rw [show nI 2 = 2 from rfl] at e1
  rw [e1, gdI (by omega) (by omega), clI (by omega)]
theorem puts_at {r t : Nat} {a b c : Int32} {σ : Sg} (ht : t < 10) : f_X12_puts r (nI t) a b c σ = some (mup (mup (mup σ r (46 + 6 * t + 2) a) r (46 + 6 * t + 3) b) r (46 + 6 * t + 4) c) := by
  unfold f_X12_puts
  have e1 := ixT t 2
  have e2 := ixT t 3
  have e3 := ixT t 4
  rw [show nI 2 = 2 from rfl] at e1
  rw [show nI 3 = 3 from rfl] at e2
  rw [show nI 4 = 4 from rfl] at e3
  rw [e1, e2, e3, gdI (by omega) (by omega), gdI (by omega) (by omega), gdI (by omega) (by omega), clI (by omega), clI (by omega), clI (by omega)]
theorem place_at {a t : Nat} {x y z : Int32} {σ : Sg} (ht : t < 10) : f_X7_place a (nI t) x y z σ = some (mup (mup (mup σ (a + 3) t x) (a + 4) t y) (a + 5) t z) := by
  unfold f_X7_place
  rw [lay_at ht (by omega)]
  simp only [Option.bind_some]
  rw [lay_at ht (by omega)]
  simp only [Option.bind_some]
  rw [lay_at ht (by omega)]
  rfl
theorem lead_at {a w : Nat} {to d : Int32} {σ : Sg} (hw : w < 9) : f_X9_lead a (nI w) to d σ = some (mup (mup σ (a + 1) w to) (a + 2) w d) := by
  unfold f_X9_lead
  rw [lay_at hw (by omega)]
  simp only [Option.bind_some]
  rw [lay_at hw (by omega)]
  rfl
theorem leadsTo_at {a w n : Nat} {σ : Sg} (h : σ a 4 = nI n) (hw : w < n) (hn : n ≤ 9) : f_X9_leadsTo a (nI w) σ = some (σ (a + 1) w) := by
  unfold f_X9_leadsTo
  rw [has_n h]
  simp only [Option.bind_some]
  rw [bI_1 ⟨nI_pos' (by omega), nI_lt hw (by omega)⟩, pick_at (by omega) (by omega)]
  rfl
theorem leadsTo_out {a n : Nat} {p : Int32} {σ : Sg} (h : σ a 4 = nI n) (hp : ¬ (0 ≤ p ∧ p < nI n)) : f_X9_leadsTo a p σ = some (-1) := by
  unfold f_X9_leadsTo
  rw [has_n h]
  simp only [Option.bind_some]
  rw [bI_0 hp]
/-- all but the now, the desk and the row d is as it was -/
def Keep (r : Nat) : Prop := r = 0 ∨ (16 ≤ r ∧ r ≤ 30 ∧ r ≠ 23 ∧ r ≠ 26) ∨ (57 ≤ r ∧ r ≤ 69) ∨ (81 ≤ r ∧ r ≤ 92) ∨ r = 96 ∨ r = 97 ∨ (101 ≤ r ∧ r ≤ 104) ∨ 1000000 ≤ r
theorem Inv.again {xs : Nat → Int32} {σ σ2 : Sg} (h : Inv xs σ) (hA : WOK (σ2 94) 9999 ∧ DOK (σ2 94) ∧ RW σ2 31 (σ2 94) ∧ RD σ2 1 (σ2 94)) (hf : ∀ r, Keep r → σ2 r = σ r) (h3 : σ2 93 3 = σ 93 3) (h15 : σ2 93 15 = σ 93 15) : Inv xs σ2 := by
  obtain ⟨-, h5, h6, h7, ⟨h8, h8a, h8b⟩, h9, h10, h11, h12⟩ := h
  have k : ∀ r, Keep r → σ2 r = σ r := hf
  refine ⟨hA, fun j hj => ?_, ?_, ?_, ⟨?_, ?_, fun i hi hi2 => ?_⟩, fun s hs => (h9 s hs).frame hs (fun r hr => k r (by unfold Keep; omega)), ?_, ?_, ?_⟩
  · rw [k 92 (by unfold Keep; omega), k 97 (by unfold Keep; omega)]; exact h5 j hj
  · rw [k 0 (by unfold Keep; omega), h3]; exact h6
  · rw [h3, k 96 (by unfold Keep; omega)]
    rcases h7 with z | ⟨z1, z2, z3, z4⟩
    · exact Or.inl z
    · exact Or.inr ⟨z1, z2, z3.frame (fun r _ _ => k r (by unfold Keep; omega)), z4.frame (fun r _ _ _ _ => k r (by unfold Keep; omega))⟩
  · rw [h15]; exact h8
  · rw [h15, k 81 (by unfold Keep; omega)]; exact h8a
  · rw [h15] at hi
    rw [k 82 (by unfold Keep; omega), k 101 (by unfold Keep; omega)]; exact h8b i hi hi2
  · rw [k 1000000 (by unfold Keep; omega)]; exact h10
  · rw [k 1000001 (by unfold Keep; omega)]; exact h11
  · rw [k 1000002 (by unfold Keep; omega)]; exact h12
theorem wN_cong {D D' : Nat → Int32} (e : D' 1 = D 1) : wN D' = wN D := by unfold wN; rw [e]
theorem tN_cong {D D' : Nat → Int32} (e : D' 2 = D 2) : tN D' = tN D := by unfold tN; rw [e]
theorem WellOK.cong {D D' : Nat → Int32} {w : Nat} (h : WellOK D w) (e1 : wN D ≤ wN D') (e : ∀ j, 10 + 4 * w ≤ j → j < 10 + 4 * w + 4 → D' j = D j) : WellOK D' w := by
  obtain ⟨h1, h2, h3, h4⟩ := h
  refine ⟨?_, by rw [e _ (by omega) (by omega)]; exact h2, by rw [e _ (by omega) (by omega)]; exact h3, by rw [e _ (by omega) (by omega)]; exact h4⟩
  rw [e _ (by omega) (by omega)]
  rcases h1 with z | ⟨j, z1, z2⟩
  · exact Or.inl z
  · exact Or.inr ⟨j, by omega, z2⟩
theorem ThingOK.cong {D D' : Nat → Int32} {t : Nat} (h : ThingOK D t) (e1 : wN D ≤ wN D') (e : ∀ j, 46 + 6 * t ≤ j → j < 46 + 6 * t + 6 → D' j = D j) : ThingOK D' t := by
  obtain ⟨h1, h2, h3, h4, h5, h6⟩ := h
  have g0 := e (46 + 6 * t) (by omega) (by omega)
  have g1 := e (46 + 6 * t + 1) (by omega) (by omega)
  have g2 := e (46 + 6 * t + 2) (by omega) (by omega)
  have g3 := e (46 + 6 * t + 3) (by omega) (by omega)
  have g4 := e (46 + 6 * t + 4) (by omega) (by omega)
  have g5 := e (46 + 6 * t + 5) (by omega) (by omega)
  unfold ThingOK
  rw [g0, g1, g2, g3, g4, g5]
  refine ⟨h1, h2, h3, ?_, h5, h6⟩
  rcases h4 with z | ⟨j, z1, z2⟩
  · exact Or.inl z
  · exact Or.inr ⟨j, by omega, z2⟩
theorem WOK.cong {D D' : Nat → Int32} {m : Nat} (h : WOK D m) (e : ∀ j, j ≤ 2 ∨ (10 ≤ j ∧ j < 106) → D' j = D j) : WOK D' m := by
  obtain ⟨h1, h2, h3, h4, h5, h6, h7⟩ := h
  have w1 : wN D' = wN D := wN_cong (e 1 (by omega))
  have t1 : tN D' = tN D := tN_cong (e 2 (by omega))
  refine ⟨by rw [e 0 (by omega)]; exact h1, by rw [e 1 (by omega), w1]; exact h2, by omega, by rw [e 2 (by omega), t1]; exact h4, by omega, fun w hw => ?_, fun t ht => ?_⟩
  · exact (h6 w (by omega)).cong (by omega) (fun j a b => e j (by omega))
  · exact (h7 t (by omega)).cong (by omega) (fun j a b => e j (by omega))
theorem RW.cong {σ : Sg} {a : Nat} {D D' : Nat → Int32} {m : Nat} (h : RW σ a D) (hw : WOK D m) (e : ∀ j, j ≤ 2 ∨ (10 ≤ j ∧ j < 106) → D' j = D j) : RW σ a D' := by
  obtain ⟨h1, h2, h3, h4, h5⟩ := h
  have b1 := hw.2.2.1
  have b2 := hw.2.2.2.2.1
  have w1 : wN D' = wN D := wN_cong (e 1 (by omega))
  have t1 : tN D' = tN D := tN_cong (e 2 (by omega))
  refine ⟨by rw [e 0 (by omega)]; exact h1, by rw [e 1 (by omega)]; exact h2, by rw [e 2 (by omega)]; exact h3, fun w hw => ?_, fun t ht => ?_⟩
  · rw [e _ (by omega), e _ (by omega), e _ (by omega), e _ (by omega)]; exact h4 w (by omega)
  · rw [e _ (by omega), e _ (by omega), e _ (by omega), e _ (by omega), e _ (by omega), e _ (by omega)]; exact h5 t (by omega)
theorem DOK.cong {D D' : Nat → Int32} (h : DOK D) (e : ∀ j, j = 3 ∨ j = 5 ∨ j = 6 ∨ (106 ≤ j ∧ j < 142) ∨ (264 ≤ j ∧ j < 314) → D' j = D j) (e1 : wN D ≤ wN D') : DOK D' := by
  obtain ⟨h1, h2, h3, h4, h5, h6, h7, h8⟩ := h
  have f1 : fN D' = fN D := by unfold fN; rw [e 3 (by omega)]
  have p1 : pN D' = pN D := by unfold pN; rw [e 5 (by omega)]
  have a1 : aN D' = aN D := by unfold aN; rw [e 6 (by omega)]
  refine ⟨by rw [e 3 (by omega), f1]; exact h1, by omega, fun f hf => ?_, by rw [e 5 (by omega), p1]; exact h4, by omega, fun i hi => by rw [e _ (by omega)]; exact h6 i (by omega), by rw [e 6 (by omega), a1]; exact h7, by omega⟩
  obtain ⟨⟨j1, z1, z2⟩, ⟨j2, z3, z4⟩, z5⟩ := h3 f (by omega)
  refine ⟨⟨j1, by omega, by rw [e _ (by omega)]; exact z2⟩, ⟨j2, by omega, by rw [e _ (by omega)]; exact z4⟩, by rw [e _ (by omega)]; exact z5⟩
theorem TR.cong {σ : Sg} {c u : Nat} {D D' : Nat → Int32} (h : TR σ c D u) (hu : u ≤ 1) (e : ∀ j, j = 142 + u ∨ (164 + 50 * u ≤ j ∧ j < 164 + 50 * u + 50) → D' j = D j) : TR σ c D' u := by
  unfold TR at *
  rw [e (142 + u) (by omega)]
  rcases h with z | z
  · exact Or.inl z
  · refine Or.inr ⟨z.1, z.2.1, fun A B C F => ?_⟩
    obtain ⟨v, v1, v2⟩ := z.2.2 A B C F
    refine ⟨v, v1, fun base σ' hb hi => v2 base σ' hb (fun i hi2 => ?_)⟩
    have := hi i hi2
    obtain ⟨k, k1, k2, k3⟩ := z.2.1
    rw [k3, clI (by omega)] at hi2
    have e9 := e (164 + 50 * u + i) (by omega)
    show σ' 94 (base + i) = D (164 + 50 * u + i)
    rw [← e9]
    exact this
theorem RD.cong {σ : Sg} {b : Nat} {D D' : Nat → Int32} (h : RD σ b D) (hd : DOK D) (e : ∀ j, 3 ≤ j ∧ j ≤ 6 ∨ (106 ≤ j ∧ j < 314) → D' j = D j) : RD σ b D' := by
  obtain ⟨h1, h2, h3, h4, h5, h6, h7, h8, h9⟩ := h
  obtain ⟨-, b1, -, -, b2, -, -, b3⟩ := hd
  have f1 : fN D' = fN D := by unfold fN; rw [e 3 (by omega)]
  have p1 : pN D' = pN D := by unfold pN; rw [e 5 (by omega)]
  have a1 : aN D' = aN D := by unfold aN; rw [e 6 (by omega)]
  refine ⟨by rw [e 4 (by omega)]; exact h1, by rw [e 3 (by omega)]; exact h2, fun f hf => by rw [e _ (by omega), e _ (by omega), e _ (by omega)]; exact h3 f (by omega), by rw [e 5 (by omega)]; exact h4, fun i hi => by rw [e _ (by omega)]; exact h5 i (by omega), by rw [e 6 (by omega)]; exact h6, fun i hi => by rw [e _ (by omega)]; exact h7 i (by omega), h8.cong (by omega) (fun j hj => e j (by omega)), h9.cong (by omega) (fun j hj => e j (by omega))⟩
theorem updn {f : Nat → Int32} {k j : Nat} {x : Int32} (h : j ≠ k) : upd f k x j = f j := pk_un h
theorem upds (f : Nat → Int32) (k : Nat) (x : Int32) : upd f k x k = x := pk_us
