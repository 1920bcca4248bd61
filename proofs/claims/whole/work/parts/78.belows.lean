theorem xout_go {σ0 : Sg} {D : Nat → Int32} {m0 p day P : Nat} (hW : WOK D m0) (hDk : DOK D) (hp : p < wN D) (hP : P ≤ 5) (hd : day ≤ 900) (h3 : σ0 2 3 = D 3) (hc : σ0 32 4 = nI (wN D)) (hf : ∀ f, f < fN D → σ0 3 f = D (106 + 3 * f) ∧ σ0 4 f = D (106 + 3 * f + 1) ∧ σ0 5 f = D (106 + 3 * f + 2)) : ∀ j x m (σ : Sg) s, wN D - x = j → x ≤ wN D → j < m → s.1 + P * j ≤ 100000 → WV D p σ → FR σ σ0 → XR σ s → ∃ σ', c_X0_search_53 32 2 m (nI p) (nI P) (nI day) (nI x) σ = some σ' ∧ FR σ' σ0 ∧ XR σ' (outr D p day P j x s) := by
  have b := hW.2.2.1
  intro j
  induction j with
  | zero =>
    intro x m σ s hj hx hm hs hV hF hR
    obtain ⟨m, rfl⟩ : ∃ k, m = k + 1 := ⟨m - 1, by omega⟩
    refine ⟨σ, ?_, hF, hR⟩
    rw [c_X0_search_53, hF 32 4 (by omega), hc, if_pos (nI_le (by omega) (by omega))]
  | succ j ih =>
    intro x m σ s hj hx hm hs hV hF hR
    obtain ⟨m, rfl⟩ : ∃ k, m = k + 1 := ⟨m - 1, by omega⟩
    have e9 : P * (j + 1) = P * j + P := Nat.mul_succ P j
    obtain ⟨σ1, e1, e2, e3, e4⟩ := xinn_go hW hDk hp (x := x) (by omega) hP hd h3 hf (c_X0_search_53 32 2 m) P 1 1000 σ s (by omega) (by omega) (by omega) (by omega) (by omega) hV hF hR
    have hcn := inn_c D p day x P 1 s
    obtain ⟨σ', g1, g2, g3⟩ := ih (x + 1) m σ1 (inn D p day x P 1 s) (by omega) (by omega) (by omega) (by omega) e2 e3 e4
    refine ⟨σ', ?_, g2, g3⟩
    rw [c_X0_search_53, hF 32 4 (by omega), hc, if_neg (nI_ge (by omega) (by omega))]
    refine Eq.trans e1 ?_
    unfold c_X0_search_111
    rw [nIp1]
    exact g1
theorem zero_go {p P day : Int32} : ∀ j i m (σ : Sg), 9 - i = j → i ≤ 9 → j < m → (∀ w, w < i → σ 80 w = 0) → ∃ σ', c_X0_search_18 32 2 m p P day (nI i) σ = c_X0_search_42 32 2 p P day σ' ∧ (∀ w, w < 9 → σ' 80 w = 0) ∧ ∀ r, r ≠ 80 → σ' r = σ r := by
  intro j
  induction j with
  | zero =>
    intro i m σ hj hi hm h
    obtain ⟨m, rfl⟩ : ∃ k, m = k + 1 := ⟨m - 1, by omega⟩
    refine ⟨σ, ?_, fun w hw => h w (by omega), fun _ _ => rfl⟩
    rw [c_X0_search_18, if_pos (by rw [show (9 : Int32) = nI 9 from rfl, nI_le_iff (by omega) (by omega)]; omega)]
  | succ j ih =>
    intro i m σ hj hi hm h
    obtain ⟨m, rfl⟩ : ∃ k, m = k + 1 := ⟨m - 1, by omega⟩
    obtain ⟨σ', e1, e2, e3⟩ := ih (i + 1) m (mup σ 80 i 0) (by omega) (by omega) (by omega) (fun w hw => by
      by_cases z : w = i
      · rw [mup_t ⟨rfl, z⟩]
      · rw [mup_o (by omega)]; exact h w (by omega))
    refine ⟨σ', ?_, e2, fun r hr => by rw [e3 r hr, mup_ne hr]⟩
    rw [c_X0_search_18, if_neg (by rw [show (9 : Int32) = nI 9 from rfl, nI_le_iff (by omega) (by omega)]; omega), gdI (by omega) (by omega), clI (by omega), nIp1]
    exact e1
def s00 : Nat × Int32 × Nat × (Nat → Nat) := (0, -1, 0, fun _ => 0)
theorem search_eq {xs : Nat → Int32} {σ : Sg} (h : Inv xs σ) {p day P : Nat} (hp : p < wN (σ 94)) (hP : P ≤ 5) (hd : day ≤ 900) : ∃ σ', f_X0_search 32 2 (nI p) (nI P) (nI day) σ = some σ' ∧ FR σ' σ ∧ XR σ' (outr (σ 94) p day P (wN (σ 94)) 0 s00) := by
  obtain ⟨w1, w2, w3, t1, t2, t3⟩ := h.base
  obtain ⟨h1, h2, h3, h4⟩ := h.1
  obtain ⟨σ1, e1, e2, e3⟩ := zero_go (p := nI p) (P := nI P) (day := nI day) 9 0 1000 (mup (mup (mup σ 74 2 0) 74 3 (-1)) 74 4 0) (by omega) (by omega) (by omega) (fun w hw => by omega)
  have o1 : ∀ r, r ≠ 80 → r ≠ 74 → σ1 r = σ r := fun r a c => by rw [e3 r a, mup_ne c, mup_ne c, mup_ne c]
  have hcp : ∃ σ2, f_X9_copyFrom 75 32 σ1 = some σ2 ∧ (∀ r k, (r < 75 ∨ 79 < r) → σ2 r k = σ1 r k) ∧ σ2 75 4 = σ1 32 4 ∧ ∀ w, w < 9 → σ2 76 w = σ1 33 w ∧ σ2 77 w = σ1 34 w := by
    apply ex_of
    · unfold f_X9_copyFrom
      simp only [copyRow_eq _ (show 9 ≤ 1000 by omega), Option.bind_some]
      rfl
    · refine ⟨fun r k hr => ?_, ?_, fun w hw => ⟨?_, ?_⟩⟩
      · simp (disch := omega) only [cp_o, mup_o]
      · simp (disch := omega) only [cp_o, mup_t]
      · simp (disch := omega) only [cp_o, mup_o, cp_s]
      · simp (disch := omega) only [cp_o, mup_o, cp_s]
  obtain ⟨σ2, c1, c2, c3, c4⟩ := hcp
  have hF : FR σ2 σ := fun r k hr => by rw [c2 r k (by omega), o1 r (by omega) (by omega)]
  obtain ⟨σ', g1, g2, g3⟩ := xout_go (σ0 := σ) (D := σ 94) (day := day) (P := P) h1 h2 hp hP hd h4.2.1 w1 h4.2.2.1 (wN (σ 94)) 0 1000 σ2 s00 (by omega) (by omega) (by omega) (by have : P * wN (σ 94) ≤ 5 * 9 := Nat.mul_le_mul hP w3; show 0 + _ ≤ _; omega) ⟨by rw [c3, o1 32 (by decide) (by decide)]; exact w1, fun w hw _ => by
    obtain ⟨a1, a2⟩ := c4 w (by omega)
    obtain ⟨b1, b2, -⟩ := h3.2.2.2.1 w hw
    rw [a1, a2, o1 33 (by decide) (by decide), o1 34 (by decide) (by decide), ← gD_n h1 hw]
    exact ⟨b1, b2⟩⟩ hF ⟨by rw [c2 74 2 (by omega), e3 74 (by decide), mup_o (by omega), mup_o (by omega), mup_s]; rfl, by rw [c2 74 3 (by omega), e3 74 (by decide), mup_o (by omega), mup_s]; rfl, by rw [c2 74 4 (by omega), e3 74 (by decide), mup_s]; rfl, fun w hw => by rw [c2 80 w (by omega), e2 w hw]; rfl⟩
  refine ⟨σ', ?_, g2, g3⟩
  unfold f_X0_search
  refine Eq.trans e1 ?_
  unfold c_X0_search_42
  rw [c1, Option.bind_some]
  exact g1
/-- the reference's flag beside the bits -/
def Rl (s : Nat × Int32 × Nat × (Nat → Nat)) (fl : Int32) : Prop := (s.1 = 0 ∧ s.2.1 = -1 ∧ s.2.2.1 = 0 ∧ fl = 1) ∨ (1 ≤ s.1 ∧ ∃ x0 y0, x0 < 9 ∧ y0 < 10 ∧ s.2.1 = nI (10 * x0 + y0) ∧ s.2.2.1.testBit x0 = true ∧ s.2.2.1 < 1024 ∧ fl = if s.2.2.1 = 2 ^ x0 then 1 else 0)
theorem or_same {v x : Nat} (h : v.testBit x = true) : v ||| 2 ^ x = v := by
  apply Nat.eq_of_testBit_eq
  intro i
  rw [or_tb]
  by_cases z : x = i
  · rw [← z, h]; rfl
  · simp [z]
theorem mbinn_go {σ : Sg} {m0 p day P x : Nat} {p2 : Int32} (hW : WOK (σ 94) m0) (hDk : DOK (σ 94)) (hp : p < wN (σ 94)) (hx : x < wN (σ 94)) (hP : P ≤ 5) (k50 : Int32 → Int32 → Int32 → Int32 → Int32 → Int32 → Int32 → Sg → Option (Int32 × Sg)) : ∀ j y m s fl, P + 1 - y = j → 1 ≤ y → y ≤ P + 1 → j < m → Rl s fl → ∃ fl', Rl (inn (σ 94) p day x j y s) fl' ∧ c_X12_belows_64 k50 m (nI p) (nI P) p2 (nI s.1) s.2.1 fl (nI x) (nI y) σ = c_X12_belows_134 k50 (nI p) (nI P) p2 (nI (inn (σ 94) p day x j y s).1) (inn (σ 94) p day x j y s).2.1 fl' (nI x) σ := by
  have b := hW.2.2.1
  intro j
  induction j with
  | zero =>
    intro y m s fl hj h1 hy hm hR
    obtain ⟨m, rfl⟩ : ∃ k, m = k + 1 := ⟨m - 1, by omega⟩
    refine ⟨fl, hR, ?_⟩
    rw [c_X12_belows_64, if_pos (nI_lt (by omega) (by omega))]
    rfl
  | succ j ih =>
    intro y m s fl hj h1 hy hm hR
    obtain ⟨m, rfl⟩ : ∃ k, m = k + 1 := ⟨m - 1, by omega⟩
    have hlt : ¬ nI P < nI y := by rw [nI_lt_iff (by omega) (by omega)]; omega
    have es : inn (σ 94) p day x (j + 1) y s = inn (σ 94) p day x j (y + 1) (stp (σ 94) p day x y s) := rfl
    rw [es]
    have ha := areSo_eq hW hDk hp hx h1 (show y ≤ 30 by omega)
    have ix : (10 : Int32) * nI x + nI y = nI (10 * x + y) := by
      rw [show (10 : Int32) = nI 10 from rfl, pk_mul, nIa]
    by_cases z : okB (σ 94) p x y = true
    · have e4 : stp (σ 94) p day x y s = (s.1 + 1, (if s.1 = 0 then nI (10 * x + y) else s.2.1), s.2.2.1 ||| 2 ^ x, fun w => if w < wN (σ 94) then s.2.2.2 w ||| 2 ^ qB (σ 94) p day x y w else s.2.2.2 w) := by
        unfold stp
        rw [if_pos z]
      have go : ∀ fl', Rl (stp (σ 94) p day x y s) fl' → c_X12_belows_64 k50 (m + 1) (nI p) (nI P) p2 (nI s.1) s.2.1 fl (nI x) (nI y) σ = c_X12_belows_64 k50 m (nI p) (nI P) p2 (nI (s.1 + 1)) (if s.1 = 0 then nI (10 * x + y) else s.2.1) fl' (nI x) (nI (y + 1)) σ → ∃ fl', Rl (inn (σ 94) p day x j (y + 1) (stp (σ 94) p day x y s)) fl' ∧ c_X12_belows_64 k50 (m + 1) (nI p) (nI P) p2 (nI s.1) s.2.1 fl (nI x) (nI y) σ = c_X12_belows_134 k50 (nI p) (nI P) p2 (nI (inn (σ 94) p day x j (y + 1) (stp (σ 94) p day x y s)).1) (inn (σ 94) p day x j (y + 1) (stp (σ 94) p day x y s)).2.1 fl' (nI x) σ := fun fl' q1 q2 => by
        obtain ⟨f2, g1, g2⟩ := ih (y + 1) m (stp (σ 94) p day x y s) fl' (by omega) (by omega) (by omega) (by omega) q1
        refine ⟨f2, g1, q2.trans ?_⟩
        rw [← g2, e4]
      have hstep : c_X12_belows_64 k50 (m + 1) (nI p) (nI P) p2 (nI s.1) s.2.1 fl (nI x) (nI y) σ = (if s.2.1 < 0 then c_X12_belows_104 k50 (c_X12_belows_64 k50 m) (nI p) (nI P) p2 (nI (s.1 + 1)) s.2.1 fl (nI x) (nI y) σ else (if s.2.1 / (10 : Int32) = nI x then c_X12_belows_104 k50 (c_X12_belows_64 k50 m) (nI p) (nI P) p2 (nI (s.1 + 1)) s.2.1 fl (nI x) (nI y) σ else c_X12_belows_106 k50 (c_X12_belows_64 k50 m) (nI p) (nI P) p2 (nI (s.1 + 1)) s.2.1 (nI x) (nI y) 0 σ)) := by
        rw [c_X12_belows_64, if_neg hlt, ha, Option.bind_some, bI_1 z, nIp1]
      rcases hR with ⟨r1, r2, r3, r4⟩ | ⟨r1, x0, y0, r2, r3, r4, r5, r6, r7⟩
      · refine go 1 (by
          rw [e4]
          refine Or.inr ⟨by show 1 ≤ s.1 + 1; omega, x, y, by omega, by omega, ?_, ?_, ?_, ?_⟩
          · show (if s.1 = 0 then nI (10 * x + y) else s.2.1) = _
            rw [if_pos r1]
          · show (s.2.2.1 ||| 2 ^ x).testBit x = true
            rw [or_tb]; simp
          · exact or_lt (by omega) (by omega)
          · show (1 : Int32) = if s.2.2.1 ||| 2 ^ x = 2 ^ x then 1 else 0
            rw [r3, Nat.zero_or, if_pos rfl]) ?_
        rw [hstep, if_pos (by rw [r2]; exact n1lt)]
        unfold c_X12_belows_104 c_X12_belows_106 c_X12_belows_126 c_X12_belows_128
        rw [if_neg (by rw [r2]; decide), ix, nIp1, if_pos r1, r4]
      · have pos : ¬ s.2.1 < 0 := by rw [r4]; exact nI_pos (by omega)
        have dv : s.2.1 / (10 : Int32) = nI x0 := by
          rw [r4, show (10 : Int32) = nI 10 from rfl, div_nI (by omega) (by omega) (by omega)]
          congr 1
          omega
        by_cases q : x0 = x
        · subst q
          refine go fl (by
            rw [e4]
            refine Or.inr ⟨by show 1 ≤ s.1 + 1; omega, x0, y0, r2, r3, ?_, ?_, ?_, ?_⟩
            · show (if s.1 = 0 then nI (10 * x0 + y) else s.2.1) = _
              rw [if_neg (by omega)]; exact r4
            · show (s.2.2.1 ||| 2 ^ x0).testBit x0 = true
              rw [or_same r5]; exact r5
            · show s.2.2.1 ||| 2 ^ x0 < 1024
              rw [or_same r5]; exact r6
            · show fl = if s.2.2.1 ||| 2 ^ x0 = 2 ^ x0 then 1 else 0
              rw [or_same r5]; exact r7) ?_
          rw [hstep, if_neg pos, if_pos dv]
          unfold c_X12_belows_104 c_X12_belows_106 c_X12_belows_126 c_X12_belows_128
          rw [if_pos (by rw [r4]; exact nI_pos' (by omega)), nIp1, if_neg (by omega)]
        · refine go 0 (by
            rw [e4]
            refine Or.inr ⟨by show 1 ≤ s.1 + 1; omega, x0, y0, r2, r3, ?_, ?_, ?_, ?_⟩
            · show (if s.1 = 0 then nI (10 * x + y) else s.2.1) = _
              rw [if_neg (by omega)]; exact r4
            · show (s.2.2.1 ||| 2 ^ x).testBit x0 = true
              rw [or_tb, r5]; rfl
            · exact or_lt r6 (by omega)
            · show (0 : Int32) = if s.2.2.1 ||| 2 ^ x = 2 ^ x0 then 1 else 0
              rw [if_neg]
              intro e
              have := congrArg (fun v => v.testBit x) e
              simp only [or_tb, Nat.testBit_two_pow] at this
              simp [q] at this) ?_
          rw [hstep, if_neg pos, if_neg (by rw [dv, nI_eq_iff (by omega) (by omega)]; exact q)]
          unfold c_X12_belows_106 c_X12_belows_126 c_X12_belows_128
          rw [if_pos (by rw [r4]; exact nI_pos' (by omega)), nIp1, if_neg (by omega)]
    · have e4 : stp (σ 94) p day x y s = s := by unfold stp; rw [if_neg z]
      rw [e4]
      obtain ⟨f2, g1, g2⟩ := ih (y + 1) m s fl (by omega) (by omega) (by omega) (by omega) hR
      refine ⟨f2, g1, ?_⟩
      rw [c_X12_belows_64, if_neg hlt, ha, Option.bind_some, bI_0 z]
      unfold c_X12_belows_128
      rw [nIp1]
      exact g2
theorem mbout_go {σ : Sg} {m0 p day P : Nat} {p2 : Int32} (hW : WOK (σ 94) m0) (hDk : DOK (σ 94)) (hp : p < wN (σ 94)) (hP : P ≤ 5) : ∀ j x m s fl, wN (σ 94) - x = j → x ≤ wN (σ 94) → j < m → Rl s fl → ∃ fl', Rl (outr (σ 94) p day P j x s) fl' ∧ c_X12_belows_50 m (nI p) (nI P) p2 (nI s.1) s.2.1 fl (nI x) σ = c_X12_belows_140 p2 (nI (outr (σ 94) p day P j x s).1) (outr (σ 94) p day P j x s).2.1 fl' σ := by
  have b := hW.2.2.1
  have h1 := hW.2.1
  intro j
  induction j with
  | zero =>
    intro x m s fl hj hx hm hR
    obtain ⟨m, rfl⟩ : ∃ k, m = k + 1 := ⟨m - 1, by omega⟩
    refine ⟨fl, hR, ?_⟩
    rw [c_X12_belows_50, h1, if_pos (nI_le (by omega) (by omega))]
    rfl
  | succ j ih =>
    intro x m s fl hj hx hm hR
    obtain ⟨m, rfl⟩ : ∃ k, m = k + 1 := ⟨m - 1, by omega⟩
    obtain ⟨f1, g1, g2⟩ := mbinn_go (day := day) (p2 := p2) hW hDk hp (x := x) (by omega) hP (c_X12_belows_50 m) P 1 1000 s fl (by omega) (by omega) (by omega) (by omega) hR
    obtain ⟨f2, g3, g4⟩ := ih (x + 1) m (inn (σ 94) p day x P 1 s) f1 (by omega) (by omega) (by omega) g1
    refine ⟨f2, g3, ?_⟩
    rw [c_X12_belows_50, h1, if_neg (nI_ge (by omega) (by omega))]
    refine Eq.trans g2 ?_
    unfold c_X12_belows_134
    rw [nIp1]
    exact g4
theorem eq_belows {xs : Nat → Int32} {σ : Sg} (h : Inv xs σ) (p0 p1 p2 : Int32) : Good xs (f_X11_belows p0 p1 p2 σ) (f_X12_belows p0 p1 p2) := by
  obtain ⟨w1, w2, w3, t1, t2, t3⟩ := h.base
  obtain ⟨h1, h2, h3, h4⟩ := h.1
  by_cases c1 : 0 ≤ p0 ∧ p0 < nI (wN (σ 94))
  · by_cases c2 : 1 ≤ p1 ∧ p1 ≤ 5
    · by_cases c3 : 0 ≤ p2 ∧ p2 ≤ 2
      · obtain ⟨p, hp, rfl⟩ := nI_get (by omega) c1.1 c1.2
        obtain ⟨P, hP1, hP, rfl⟩ := Sm_of (lo := 1) (hi := 5) (by decide) (by decide) c2.1 c2.2
        obtain ⟨σ1, e1, e2, e3⟩ := search_eq h (p := p) (day := 0) (P := P) hp hP (by omega)
        have e94 : σ1 94 = σ 94 := rows_eq (fun k => e2 94 k (by omega))
        obtain ⟨fl, g1, g2⟩ := mbout_go (σ := σ1) (p := p) (day := 0) (P := P) (p2 := p2) (by rw [e94]; exact h1) (by rw [e94]; exact h2) (by rw [e94]; exact hp) hP (wN (σ1 94)) 0 1000 s00 1 (by omega) (by omega) (by rw [e94]; omega) (Or.inl ⟨rfl, rfl, rfl, rfl⟩)
        have hM : f_X12_belows (nI p) (nI P) p2 σ1 = c_X12_belows_140 p2 (nI (outr (σ1 94) p 0 P (wN (σ1 94)) 0 s00).1) (outr (σ1 94) p 0 P (wN (σ1 94)) 0 s00).2.1 fl σ1 := by
          unfold f_X12_belows
          rw [isWell_n (by rw [e94]; exact w2) (by omega), Option.bind_some, bI_1 c1, isIn_eq, Option.bind_some, bI_1 c2, isIn_eq, Option.bind_some, bI_1 c3]
          exact g2
        rw [e94] at hM g1
        generalize outr (σ 94) p 0 P (wN (σ 94)) 0 s00 = s at *
        have hinv : Inv xs σ1 := h.hands (fun r k y1 y2 y3 y4 y5 y6 y7 y8 y9 => e2 r k (by omega))
        have hX : f_X11_belows (nI p) (nI P) p2 σ = (if p2 = (0 : Int32) then (some (nI s.1, σ1)) else (if p2 = (1 : Int32) then (some (s.2.1, σ1)) else ((f_J6_bitCount_0f7a4 (nI s.2.2.1) σ1).bind fun q10 => (if (1 : Int32) < q10 then (some ((0 : Int32), σ1)) else (some ((1 : Int32), σ1)))))) := by
          unfold f_X11_belows
          rw [has_n w1, Option.bind_some, bI_1 c1, within_eq, Option.bind_some, bI_1 c2, within_eq, Option.bind_some, bI_1 c3]
          refine Eq.trans (congrArg (fun o => Option.bind o _) e1) ?_
          rw [Option.bind_some, e3.1, e3.2.1, e3.2.2.1]
        unfold c_X12_belows_140 at hM
        by_cases q0 : p2 = 0
        · exact ⟨nI s.1, σ1, σ1, by rw [hX, if_pos q0], by rw [hM, if_pos q0], hinv⟩
        · by_cases q1 : p2 = 1
          · exact ⟨s.2.1, σ1, σ1, by rw [hX, if_neg q0, if_pos q1], by rw [hM, if_neg q0, if_pos q1], hinv⟩
          · refine ⟨fl, σ1, σ1, ?_, by rw [hM, if_neg q0, if_neg q1], hinv⟩
            rw [hX, if_neg q0, if_neg q1]
            rcases g1 with ⟨-, -, r3, r4⟩ | ⟨-, x0, y0, r2, r3, -, r5, r6, r7⟩
            · rw [r3, bc_eq (by omega), Option.bind_some, pc_zero, if_neg (by decide), r4]
            · have po := pc_one x0 (by omega) _ r6 r5
              have pl := pc_le _ r6
              rw [bc_eq r6, Option.bind_some, r7]
              by_cases z : s.2.2.1 = 2 ^ x0
              · have := po.mpr z
                rw [if_pos z, if_neg (by rw [show (1 : Int32) = nI 1 from rfl, nI_lt_iff (by omega) (by omega)]; omega)]
              · have : ¬ pc s.2.2.1 ≤ 1 := fun y => z (po.mp y)
                rw [if_neg z, if_pos (by rw [show (1 : Int32) = nI 1 from rfl, nI_lt_iff (by omega) (by omega)]; omega)]
      · refine good_err h (k := 1) (by decide) ?_ (fun σ1 e => ?_)
        · unfold f_X11_belows
          rw [has_n w1, Option.bind_some, bI_1 c1, within_eq, Option.bind_some, bI_1 c2, within_eq, Option.bind_some, bI_0 c3]
          rfl
        · unfold f_X12_belows
          rw [isWell_n (by rw [e 94 (by decide)]; exact w2) (by omega), Option.bind_some, bI_1 c1, isIn_eq, Option.bind_some, bI_1 c2, isIn_eq, Option.bind_some, bI_0 c3]
          rfl
    · refine good_err h (k := 1) (by decide) ?_ (fun σ1 e => ?_)
      · unfold f_X11_belows
        rw [has_n w1, Option.bind_some, bI_1 c1, within_eq, Option.bind_some, bI_0 c2]
        rfl
      · unfold f_X12_belows
        rw [isWell_n (by rw [e 94 (by decide)]; exact w2) (by omega), Option.bind_some, bI_1 c1, isIn_eq, Option.bind_some, bI_0 c2]
        rfl
  · refine good_err h (k := 1) (by decide) ?_ (fun σ1 e => ?_)
    · unfold f_X11_belows
      rw [has_n w1, Option.bind_some, bI_0 c1]
      rfl
    · unfold f_X12_belows
      rw [isWell_n (by rw [e 94 (by decide)]; exact w2) (by omega), Option.bind_some, bI_0 c1]
      rfl
