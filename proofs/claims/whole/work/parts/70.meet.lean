theorem wk_fuel {n day : Nat} {T : Nat → Int32} {dd : Nat → Nat} (hg : GM n T dd) (hn : n ≤ 9) : ∀ j p now m m', day - now ≤ j → j < m → j < m' → (p = -1 ∨ ∃ k, k < n ∧ p = nI k) → wk T dd day m p now = wk T dd day m' p now := by
  intro j
  induction j with
  | zero =>
    intro p now m m' hj hm hm' hp
    obtain ⟨m, rfl⟩ : ∃ k, m = k + 1 := ⟨m - 1, by omega⟩
    obtain ⟨m', rfl⟩ : ∃ k, m' = k + 1 := ⟨m' - 1, by omega⟩
    unfold wk
    rw [if_pos (show day ≤ now by omega), if_pos (show day ≤ now by omega)]
  | succ j ih =>
    intro p now m m' hj hm hm' hp
    obtain ⟨m, rfl⟩ : ∃ k, m = k + 1 := ⟨m - 1, by omega⟩
    obtain ⟨m', rfl⟩ : ∃ k, m' = k + 1 := ⟨m' - 1, by omega⟩
    unfold wk
    by_cases z : day ≤ now
    · rw [if_pos z, if_pos z]
    · rw [if_neg z, if_neg z]
      rcases hp with rfl | ⟨k, hk, rfl⟩
      · rw [if_pos n1lt, if_pos n1lt]
      · obtain ⟨g1, g2, g3⟩ := hg k hk
        rw [if_neg (nI_pos (by omega)), if_neg (nI_pos (by omega)), clI (by omega)]
        exact ih _ _ _ _ (by omega) (by omega) (by omega) g1
theorem wk_step {n day k now : Nat} {T : Nat → Int32} {dd : Nat → Nat} (hg : GM n T dd) (hn : n ≤ 9) (hk : k < n) (hd : day ≤ 900) (h : now < day) : wk T dd day 1000 (nI k) now = wk T dd day 1000 (T k) (now + dd k) := by
  obtain ⟨g1, g2, g3⟩ := hg k hk
  rw [wk, if_neg (by omega), if_neg (nI_pos (by omega)), clI (by omega)]
  exact wk_fuel hg hn (day - (now + dd k)) _ _ _ _ (by omega) (by omega) (by omega) g1
theorem wk_here (T : Nat → Int32) (dd : Nat → Nat) (day : Nat) (p : Int32) : wk T dd day 1000 p day = p := by
  rw [wk, if_pos (Nat.le_refl _), if_pos rfl]
theorem wk_early {T : Nat → Int32} {dd : Nat → Nat} {day now : Nat} {p : Int32} (h : day < now) : wk T dd day 1000 p now = -1 := by
  rw [wk, if_pos (by omega), if_neg (by omega)]
theorem wk_end {T : Nat → Int32} {dd : Nat → Nat} {day now : Nat} : wk T dd day 1000 (-1) now = -1 := by
  rw [wk, if_pos n1lt]
  split
  · split <;> rfl
  · rfl
/-- two walks meet on a day -/
def Mt (T : Nat → Int32) (dd : Nat → Nat) (a b d : Nat) : Prop := 0 ≤ wk T dd d 1000 (nI a) 0 ∧ wk T dd d 1000 (nI a) 0 = wk T dd d 1000 (nI b) 0
theorem xmeet_go {σ : Sg} {c n a b : Nat} {T : Nat → Int32} {dd : Nat → Nat} (hg : GM n T dd) (hn : n ≤ 9) (hc : σ c 4 = nI n) (hr : ∀ w, w < n → σ (c + 1) w = T w ∧ σ (c + 2) w = nI (dd w)) : ∀ j st k1 n1 k2 n2 m, 401 - st = j → j < m → st ≤ 401 → st ≤ n1 + n2 → n1 ≤ 300 → n2 ≤ 300 → k1 < n → k2 < n → (∀ d, d ≤ 200 → n1 ≤ d → wk T dd d 1000 (nI a) 0 = wk T dd d 1000 (nI k1) n1) → (∀ d, d ≤ 200 → n2 ≤ d → wk T dd d 1000 (nI b) 0 = wk T dd d 1000 (nI k2) n2) → (∀ d, d ≤ 200 → (d < n1 ∨ d < n2) → ¬ Mt T dd a b d) → (∃ d, d ≤ 200 ∧ c_X9_meetingDay_14 c σ m (nI k1) (nI k2) (nI n1) (nI n2) (nI st) = some (nI d) ∧ Mt T dd a b d ∧ ∀ d', d' < d → ¬ Mt T dd a b d') ∨ (c_X9_meetingDay_14 c σ m (nI k1) (nI k2) (nI n1) (nI n2) (nI st) = some (-1) ∧ ∀ d, d ≤ 200 → ¬ Mt T dd a b d) := by
  intro j
  induction j with
  | zero =>
    intro st k1 n1 k2 n2 m hj hm hs hs2 h1 h2 hk1 hk2 w1 w2 hno
    obtain ⟨m, rfl⟩ : ∃ k, m = k + 1 := ⟨m - 1, by omega⟩
    have hl : (400 : Int32) < nI st := by rw [show (400 : Int32) = nI 400 from rfl, nI_lt_iff (by omega) (by omega)]; omega
    refine Or.inr ⟨by rw [c_X9_meetingDay_14, if_pos hl], fun d hd => hno d hd (by omega)⟩
  | succ j ih =>
    intro st k1 n1 k2 n2 m hj hm hs hs2 h1 h2 hk1 hk2 w1 w2 hno
    obtain ⟨m, rfl⟩ : ∃ k, m = k + 1 := ⟨m - 1, by omega⟩
    have hl : ¬ (400 : Int32) < nI st := by rw [show (400 : Int32) = nI 400 from rfl, nI_lt_iff (by omega) (by omega)]; omega
    have hmx : (if nI n1 < nI n2 then nI n2 else nI n1) = nI (if n1 < n2 then n2 else n1) := by
      simp (disch := omega) only [nI_lt_iff]
      split <;> rfl
    by_cases c2 : 200 < n1 ∨ 200 < n2
    · have hl2 : (200 : Int32) < (if nI n1 < nI n2 then nI n2 else nI n1) := by
        rw [hmx, show (200 : Int32) = nI 200 from rfl, nI_lt_iff (by omega) (by split <;> omega)]
        split <;> omega
      exact Or.inr ⟨by rw [c_X9_meetingDay_14, if_neg hl, if_pos hl2], fun d hd => hno d hd (by omega)⟩
    · have hl2 : ¬ (200 : Int32) < (if nI n1 < nI n2 then nI n2 else nI n1) := by
        rw [hmx, show (200 : Int32) = nI 200 from rfl, nI_lt_iff (by omega) (by split <;> omega)]
        split <;> omega
      by_cases c3 : n1 = n2 ∧ k1 = k2
      · refine Or.inl ⟨n1, by omega, ?_, ?_, fun d' hd' => hno d' (by omega) (Or.inl hd')⟩
        · rw [c_X9_meetingDay_14, if_neg hl, if_neg hl2, if_pos (by rw [c3.1]), if_pos (by rw [c3.2])]
        · unfold Mt
          rw [w1 n1 (by omega) (Nat.le_refl _), w2 n1 (by omega) (by omega), ← c3.1, wk_here, wk_here, c3.2]
          exact ⟨nI_pos' (by omega), rfl⟩
      · have hu : c_X9_meetingDay_14 c σ (m + 1) (nI k1) (nI k2) (nI n1) (nI n2) (nI st) = c_X9_meetingDay_51 (c_X9_meetingDay_14 c σ m) c σ (nI k1) (nI k2) (nI n1) (nI n2) (nI st) := by
          rw [c_X9_meetingDay_14, if_neg hl, if_neg hl2]
          simp (disch := omega) only [nI_eq_iff]
          by_cases y : n1 = n2
          · rw [if_pos y, if_neg (fun x => c3 ⟨y, x⟩)]
          · rw [if_neg y]
        rw [hu]
        unfold c_X9_meetingDay_51
        simp (disch := omega) only [nI_lt_iff]
        have hne : n1 = n2 → ∀ d, d = n1 → d ≤ 200 → ¬ Mt T dd a b d := fun y d hd hd2 z => by
          unfold Mt at z
          subst hd
          rw [w1 d (by omega) (Nat.le_refl _), w2 d (by omega) (by omega), ← y, wk_here, wk_here] at z
          exact c3 ⟨y, (nI_eq_iff (by omega) (by omega)).mp z.2⟩
        by_cases c4 : n2 < n1
        · obtain ⟨g1, g2, g3⟩ := hg k2 hk2
          rw [if_pos c4]
          unfold c_X9_meetingDay_63
          rw [if_pos rfl]
          unfold c_X9_meetingDay_76
          rw [leadsTo_at hc hk2 hn, Option.bind_some, (hr k2 hk2).1]
          rcases g1 with g1 | ⟨k, hk, g1⟩
          · refine Or.inr ⟨by rw [g1, if_neg (by decide)], fun d hd z => ?_⟩
            by_cases y : d < n1
            · exact hno d hd (Or.inl y) z
            · unfold Mt at z
              rw [w2 d hd (by omega), wk_step hg hn hk2 (by omega) (by omega), g1, wk_end] at z
              exact absurd (z.2 ▸ z.1 : (0 : Int32) ≤ -1) (by decide)
          · rw [g1, if_pos (nI_pos' (by omega)), if_pos rfl, daysOf_at (by omega), Option.bind_some, Option.bind_some, (hr k2 hk2).2]
            unfold c_X9_meetingDay_134
            rw [nIa, nIp1]
            refine ih (st + 1) k1 n1 k (n2 + dd k2) m (by omega) (by omega) (by omega) (by omega) (by omega) (by omega) hk1 hk w1 (fun d hd hd2 => ?_) (fun d hd hd2 z => ?_)
            · rw [w2 d hd (by omega), wk_step hg hn hk2 (by omega) (by omega), g1]
            · by_cases y : d < n1
              · exact hno d hd (Or.inl y) z
              · unfold Mt at z
                rw [w2 d hd (by omega), wk_step hg hn hk2 (by omega) (by omega), wk_early (now := n2 + dd k2) (day := d) (p := T k2) (by omega)] at z
                exact absurd (z.2 ▸ z.1 : (0 : Int32) ≤ -1) (by decide)
        · obtain ⟨g1, g2, g3⟩ := hg k1 hk1
          rw [if_neg c4]
          unfold c_X9_meetingDay_63
          rw [if_neg one_ne]
          unfold c_X9_meetingDay_76
          rw [leadsTo_at hc hk1 hn, Option.bind_some, (hr k1 hk1).1]
          rcases g1 with g1 | ⟨k, hk, g1⟩
          · refine Or.inr ⟨by rw [g1, if_neg (by decide)], fun d hd z => ?_⟩
            by_cases y : d < n2
            · exact hno d hd (Or.inr y) z
            · by_cases y2 : d = n1
              · exact hne (by omega) d y2 hd z
              · unfold Mt at z
                rw [w1 d hd (by omega), wk_step hg hn hk1 (by omega) (by omega), g1, wk_end] at z
                exact absurd z.1 (by decide)
          · rw [g1, if_pos (nI_pos' (by omega)), if_neg one_ne, daysOf_at (by omega), Option.bind_some, Option.bind_some, (hr k1 hk1).2]
            unfold c_X9_meetingDay_134
            rw [nIa, nIp1]
            refine ih (st + 1) k (n1 + dd k1) k2 n2 m (by omega) (by omega) (by omega) (by omega) (by omega) (by omega) hk hk2 (fun d hd hd2 => ?_) w2 (fun d hd hd2 z => ?_)
            · rw [w1 d hd (by omega), wk_step hg hn hk1 (by omega) (by omega), g1]
            · by_cases y : d < n2
              · exact hno d hd (Or.inr y) z
              · by_cases y2 : d = n1
                · exact hne (by omega) d y2 hd z
                · unfold Mt at z
                  rw [w1 d hd (by omega), wk_step hg hn hk1 (by omega) (by omega), wk_early (by omega)] at z
                  exact absurd z.1 (by decide)
theorem mmeet_go {σ : Sg} {a b w : Nat} (h : WOK (σ 94) w) (ha : a < wN (σ 94)) (hb : b < wN (σ 94)) : ∀ j i m, 201 - i = j → j < m → i ≤ 201 → (∃ d, i ≤ d ∧ d ≤ 200 ∧ c_X12_meet_24 m (nI a) (nI b) (nI i) σ = some (nI d, σ) ∧ Mt (gT (σ 94)) (gD (σ 94)) a b d ∧ ∀ d', i ≤ d' → d' < d → ¬ Mt (gT (σ 94)) (gD (σ 94)) a b d') ∨ (c_X12_meet_24 m (nI a) (nI b) (nI i) σ = ((f_X12_finds (nI 2) σ).bind fun q => some (q.1, q.2)) ∧ ∀ d, i ≤ d → d ≤ 200 → ¬ Mt (gT (σ 94)) (gD (σ 94)) a b d) := by
  intro j
  induction j with
  | zero =>
    intro i m hj hm hi
    obtain ⟨m, rfl⟩ : ∃ k, m = k + 1 := ⟨m - 1, by omega⟩
    have hl : (200 : Int32) < nI i := by rw [show (200 : Int32) = nI 200 from rfl, nI_lt_iff (by omega) (by omega)]; omega
    refine Or.inr ⟨?_, fun d _ _ => by omega⟩
    rw [c_X12_meet_24, if_pos hl]
    rfl
  | succ j ih =>
    intro i m hj hm hi
    obtain ⟨m, rfl⟩ : ∃ k, m = k + 1 := ⟨m - 1, by omega⟩
    have hl : ¬ (200 : Int32) < nI i := by rw [show (200 : Int32) = nI 200 from rfl, nI_lt_iff (by omega) (by omega)]; omega
    have e1 := walk_eq (day := i) h (by omega) ha
    have e2 := walk_eq (day := i) h (by omega) hb
    have hu : c_X12_meet_24 (m + 1) (nI a) (nI b) (nI i) σ = (if wk (gT (σ 94)) (gD (σ 94)) i 1000 (nI a) 0 < 0 then c_X12_meet_24 m (nI a) (nI b) (nI (i + 1)) σ else if wk (gT (σ 94)) (gD (σ 94)) i 1000 (nI a) 0 = wk (gT (σ 94)) (gD (σ 94)) i 1000 (nI b) 0 then some (nI i, σ) else c_X12_meet_24 m (nI a) (nI b) (nI (i + 1)) σ) := by
      rw [c_X12_meet_24, if_neg hl, e1, Option.bind_some, e2, Option.bind_some]
      unfold c_X12_meet_65
      rw [nIp1]
    by_cases z : Mt (gT (σ 94)) (gD (σ 94)) a b i
    · refine Or.inl ⟨i, Nat.le_refl _, by omega, ?_, z, fun d' _ _ => by omega⟩
      unfold Mt at z
      have zz : ¬ wk (gT (σ 94)) (gD (σ 94)) i 1000 (nI a) 0 < 0 := fun y => by
        have := z.1
        rw [ile] at this
        rw [ilt] at y
        omega
      rw [hu, if_neg zz, if_pos z.2]
    · have hu2 : c_X12_meet_24 (m + 1) (nI a) (nI b) (nI i) σ = c_X12_meet_24 m (nI a) (nI b) (nI (i + 1)) σ := by
        rw [hu]
        by_cases y : wk (gT (σ 94)) (gD (σ 94)) i 1000 (nI a) 0 < 0
        · rw [if_pos y]
        · rw [if_neg y, if_neg (fun x => z ⟨by rw [ilt] at y; rw [ile]; omega, x⟩)]
      rcases ih (i + 1) m (by omega) (by omega) (by omega) with ⟨d, d1, d2, d3, d4, d5⟩ | ⟨d1, d2⟩
      · refine Or.inl ⟨d, by omega, d2, hu2.trans d3, d4, fun d' x y => ?_⟩
        by_cases v : d' = i
        · rw [v]; exact z
        · exact d5 d' (by omega) y
      · refine Or.inr ⟨hu2.trans d1, fun d x y => ?_⟩
        by_cases v : d = i
        · rw [v]; exact z
        · exact d2 d (by omega) y
theorem eq_meet {xs : Nat → Int32} {σ : Sg} (h : Inv xs σ) (p0 p1 : Int32) : Good xs (f_X11_meet p0 p1 σ) (f_X12_meet p0 p1) := by
  obtain ⟨w1, w2, w3, t1, t2, t3⟩ := h.base
  obtain ⟨h1, h2, h3, h4⟩ := h.1
  by_cases c1 : 0 ≤ p0 ∧ p0 < nI (wN (σ 94))
  · by_cases c2 : 0 ≤ p1 ∧ p1 < nI (wN (σ 94))
    · obtain ⟨a, ha, rfl⟩ := nI_get (by omega) c1.1 c1.2
      obtain ⟨b, hb, rfl⟩ := nI_get (by omega) c2.1 c2.2
      have hX := xmeet_go (σ := σ) (c := 32) (a := a) (b := b) (GM_of h1) w3 w1 (fun w hw => ⟨(h3.2.2.2.1 w hw).1, by rw [← gD_n h1 hw]; exact (h3.2.2.2.1 w hw).2.1⟩) 401 0 a 0 b 0 1000 (by omega) (by omega) (by omega) (by omega) (by omega) (by omega) ha hb (fun d _ _ => rfl) (fun d _ _ => rfl) (fun d _ z => by omega)
      have hX0 : f_X11_meet (nI a) (nI b) σ = ((c_X9_meetingDay_14 32 σ 1000 (nI a) (nI b) (nI 0) (nI 0) (nI 0)).bind fun q6 => (if 0 ≤ q6 then (some (q6, σ)) else ((f_X11_error (2 : Int32) σ).bind fun q8 => (some (q8.1, q8.2))))) := by
        unfold f_X11_meet f_X9_meetingDay
        rw [has_n w1, Option.bind_some, bI_1 c1, has_n w1, Option.bind_some, bI_1 c2]
        rfl
      have hM0 : ∀ σ1 : Sg, σ1 94 = σ 94 → f_X12_meet (nI a) (nI b) σ1 = c_X12_meet_24 1000 (nI a) (nI b) (nI 0) σ1 := fun σ1 e => by
        unfold f_X12_meet
        rw [isWell_n (by rw [e]; exact w2) (by omega), Option.bind_some, bI_1 c1, isWell_n (by rw [e]; exact w2) (by omega), Option.bind_some, bI_1 c2]
        rfl
      rcases hX with ⟨d, d1, d2, d3, d4⟩ | ⟨d1, d2⟩
      · refine ⟨nI d, σ, σ, ?_, ?_, h⟩
        · rw [hX0, d2, Option.bind_some, if_pos (nI_pos' (by omega))]
        · rw [hM0 σ rfl]
          rcases mmeet_go h1 ha hb 201 0 1000 (by omega) (by omega) (by omega) with ⟨e, e1, e2, e3, e4, e5⟩ | ⟨e1, e2⟩
          · have : e = d := by
              rcases Nat.lt_trichotomy e d with y | y | y
              · exact absurd e4 (d4 e y)
              · exact y
              · exact absurd d3 (e5 d (by omega) y)
            rw [e3, this]
          · exact absurd d3 (e2 d (by omega) d1)
      · refine good_err h (k := 2) (by decide) ?_ (fun σ1 e => ?_)
        · rw [hX0, d1, Option.bind_some, if_neg (by decide)]
          rfl
        · have e9 := e 94 (by decide)
          rw [hM0 σ1 e9]
          rcases mmeet_go (σ := σ1) (a := a) (b := b) (by rw [e9]; exact h1) (by rw [e9]; exact ha) (by rw [e9]; exact hb) 201 0 1000 (by omega) (by omega) (by omega) with ⟨u, e1, e2, e3, e4, e5⟩ | ⟨e1, e2⟩
          · rw [e9] at e4
            exact absurd e4 (d2 u e2)
          · exact e1
    · refine good_err h (k := 1) (by decide) ?_ (fun σ1 e => ?_)
      · unfold f_X11_meet
        rw [has_n w1, Option.bind_some, bI_1 c1, has_n w1, Option.bind_some, bI_0 c2]
        rfl
      · unfold f_X12_meet
        rw [isWell_n (by rw [e 94 (by decide)]; exact w2) (by omega), Option.bind_some, bI_1 c1, isWell_n (by rw [e 94 (by decide)]; exact w2) (by omega), Option.bind_some, bI_0 c2]
        rfl
  · refine good_err h (k := 1) (by decide) ?_ (fun σ1 e => ?_)
    · unfold f_X11_meet
      rw [has_n w1, Option.bind_some, bI_0 c1]
      rfl
    · unfold f_X12_meet
      rw [isWell_n (by rw [e 94 (by decide)]; exact w2) (by omega), Option.bind_some, bI_0 c1]
      rfl
