theorem mcinn_go {σ : Sg} {m0 p day P x w : Nat} {x4 x5 x6 : Int32} (hW : WOK (σ 94) m0) (hDk : DOK (σ 94)) (hp : p < wN (σ 94)) (hx : x < wN (σ 94)) (hw : w < wN (σ 94)) (hP : P ≤ 5) (hd : day ≤ 900) (k58 : Int32 → Int32 → Int32 → Int32 → Int32 → Int32 → Int32 → Sg → Option (Int32 × Sg)) (k75 : Int32 → Int32 → Int32 → Int32 → Int32 → Int32 → Int32 → Int32 → Int32 → Sg → Option (Int32 × Sg)) : ∀ j y m s, P + 1 - y = j → 1 ≤ y → y ≤ P + 1 → j < m → s.2.2.2 w < 1024 → (inn (σ 94) p day x j y s).2.2.2 w < 1024 ∧ c_X12_cork_89 k58 k75 m (nI p) (nI P) (nI day) x4 x5 x6 (nI w) (nI (rot (s.2.2.2 w))) (nI x) (nI y) σ = c_X12_cork_138 k58 k75 (nI p) (nI P) (nI day) x4 x5 x6 (nI w) (nI (rot ((inn (σ 94) p day x j y s).2.2.2 w))) (nI x) σ := by
  have b := hW.2.2.1
  intro j
  induction j with
  | zero =>
    intro y m s hj h1 hy hm hs
    obtain ⟨m, rfl⟩ : ∃ k, m = k + 1 := ⟨m - 1, by omega⟩
    refine ⟨hs, ?_⟩
    rw [c_X12_cork_89, if_pos (nI_lt (by omega) (by omega))]
    rfl
  | succ j ih =>
    intro y m s hj h1 hy hm hs
    obtain ⟨m, rfl⟩ : ∃ k, m = k + 1 := ⟨m - 1, by omega⟩
    have hlt : ¬ nI P < nI y := by rw [nI_lt_iff (by omega) (by omega)]; omega
    have es : inn (σ 94) p day x (j + 1) y s = inn (σ 94) p day x j (y + 1) (stp (σ 94) p day x y s) := rfl
    rw [es]
    have ha := areSo_eq hW hDk hp hx h1 (show y ≤ 30 by omega)
    by_cases z : okB (σ 94) p x y = true
    · have e4 : (stp (σ 94) p day x y s).2.2.2 w = s.2.2.2 w ||| 2 ^ qB (σ 94) p day x y w := by
        unfold stp
        rw [if_pos z]
        show (if w < wN (σ 94) then s.2.2.2 w ||| 2 ^ qB (σ 94) p day x y w else s.2.2.2 w) = _
        rw [if_pos hw]
      have hq : qB (σ 94) p day x y w < 10 ∧ (1 : Int32) <<< (((1 : Int32) + wkO (σ 94) p day x y w) &&& 31) = nI (2 ^ ((qB (σ 94) p day x y w + 1) % 10)) := by
        rcases qB_cases (p := p) (day := day) hW hx h1 (show y ≤ 30 by omega) hw with ⟨q1, q2⟩ | ⟨k, hk, q1, q2⟩
        · rw [q1, q2]
          exact ⟨by omega, by decide⟩
        · rw [q1, q2, show (1 : Int32) = nI 1 from rfl, nIa, Nat.mod_eq_of_lt (by omega), show 1 + k = k + 1 by omega]
          exact ⟨by omega, sh_nI (k + 1) (by omega)⟩
      have hlt2 : (stp (σ 94) p day x y s).2.2.2 w < 1024 := by rw [e4]; exact or_lt hs hq.1
      obtain ⟨g1, g2⟩ := ih (y + 1) m (stp (σ 94) p day x y s) (by omega) (by omega) (by omega) (by omega) hlt2
      refine ⟨g1, ?_⟩
      rw [c_X12_cork_89, if_neg hlt, ha, Option.bind_some, bI_1 z, walkO_eq hW hp hx h1 (by omega) hw hd, Option.bind_some]
      unfold c_X12_cork_129
      rw [hq.2, or_nI, ← rot_or _ hq.1 _ hs, ← e4, nIp1]
      exact g2
    · have e4 : stp (σ 94) p day x y s = s := by unfold stp; rw [if_neg z]
      rw [e4]
      obtain ⟨g1, g2⟩ := ih (y + 1) m s (by omega) (by omega) (by omega) (by omega) hs
      refine ⟨g1, ?_⟩
      rw [c_X12_cork_89, if_neg hlt, ha, Option.bind_some, bI_0 z]
      unfold c_X12_cork_129
      rw [or0, nIp1]
      exact g2
theorem mcout_go {σ : Sg} {m0 p day P w : Nat} {x4 x5 x6 : Int32} (hW : WOK (σ 94) m0) (hDk : DOK (σ 94)) (hp : p < wN (σ 94)) (hw : w < wN (σ 94)) (hP : P ≤ 5) (hd : day ≤ 900) (k58 : Int32 → Int32 → Int32 → Int32 → Int32 → Int32 → Int32 → Sg → Option (Int32 × Sg)) : ∀ j x m s, wN (σ 94) - x = j → x ≤ wN (σ 94) → j < m → s.2.2.2 w < 1024 → (outr (σ 94) p day P j x s).2.2.2 w < 1024 ∧ c_X12_cork_75 k58 m (nI p) (nI P) (nI day) x4 x5 x6 (nI w) (nI (rot (s.2.2.2 w))) (nI x) σ = c_X12_cork_144 k58 (nI p) (nI P) (nI day) x4 x5 x6 (nI w) (nI (rot ((outr (σ 94) p day P j x s).2.2.2 w))) σ := by
  have b := hW.2.2.1
  have h1 := hW.2.1
  intro j
  induction j with
  | zero =>
    intro x m s hj hx hm hs
    obtain ⟨m, rfl⟩ : ∃ k, m = k + 1 := ⟨m - 1, by omega⟩
    refine ⟨hs, ?_⟩
    rw [c_X12_cork_75, h1, if_pos (nI_le (by omega) (by omega))]
    rfl
  | succ j ih =>
    intro x m s hj hx hm hs
    obtain ⟨m, rfl⟩ : ∃ k, m = k + 1 := ⟨m - 1, by omega⟩
    obtain ⟨g1, g2⟩ := mcinn_go (x4 := x4) (x5 := x5) (x6 := x6) hW hDk hp (x := x) (by omega) hw hP hd k58 (c_X12_cork_75 k58 m) P 1 1000 s (by omega) (by omega) (by omega) (by omega) hs
    obtain ⟨g3, g4⟩ := ih (x + 1) m (inn (σ 94) p day x P 1 s) (by omega) (by omega) (by omega) g1
    refine ⟨g3, ?_⟩
    rw [c_X12_cork_75, h1, if_neg (nI_ge (by omega) (by omega))]
    refine Eq.trans g2 ?_
    unfold c_X12_cork_138
    rw [nIp1]
    exact g4
/-- one start of the reference -/
theorem mcork1 {σ : Sg} {m0 p day P w m : Nat} {x4 x5 x6 : Int32} (hW : WOK (σ 94) m0) (hDk : DOK (σ 94)) (hp : p < wN (σ 94)) (hw : w < wN (σ 94)) (hP : P ≤ 5) (hd : day ≤ 900) : (outr (σ 94) p day P (wN (σ 94)) 0 s00).2.2.2 w < 1024 ∧ c_X12_cork_58 (m + 1) (nI p) (nI P) (nI day) x4 x5 x6 (nI w) σ = (if nI (pc ((outr (σ 94) p day P (wN (σ 94)) 0 s00).2.2.2 w)) ≤ x6 then c_X12_cork_58 m (nI p) (nI P) (nI day) x4 x5 x6 (nI (w + 1)) σ else c_X12_cork_58 m (nI p) (nI P) (nI day) x4 (nI w) (nI (pc ((outr (σ 94) p day P (wN (σ 94)) 0 s00).2.2.2 w))) (nI (w + 1)) σ) := by
  have b := hW.2.2.1
  have h1 := hW.2.1
  obtain ⟨g1, g2⟩ := mcout_go (x4 := x4) (x5 := x5) (x6 := x6) hW hDk hp hw hP hd (c_X12_cork_58 m) (wN (σ 94)) 0 1000 s00 (by omega) (by omega) (by omega) (show 0 < 1024 by omega)
  refine ⟨g1, ?_⟩
  generalize (outr (σ 94) p day P (wN (σ 94)) 0 s00).2.2.2 w = u at g1 g2 ⊢
  have e0 : nI (rot (s00.2.2.2 w)) = 0 := by
    have : s00.2.2.2 w = 0 := rfl
    rw [this]
    decide
  rw [e0, show nI 0 = (0 : Int32) from rfl] at g2
  have hm := many_eq (rot_lt g1) σ
  rw [rot_pc _ g1] at hm
  have hv : c_X12_cork_144 (c_X12_cork_58 m) (nI p) (nI P) (nI day) x4 x5 x6 (nI w) (nI (rot u)) σ = (if nI (pc u) ≤ x6 then c_X12_cork_58 m (nI p) (nI P) (nI day) x4 x5 x6 (nI (w + 1)) σ else c_X12_cork_58 m (nI p) (nI P) (nI day) x4 (nI w) (nI (pc u)) (nI (w + 1)) σ) := by
    generalize nI (rot u) = z8 at hm ⊢
    unfold c_X12_cork_144
    rw [hm, Option.bind_some]
    unfold c_X12_cork_161
    rw [hm, Option.bind_some, Option.bind_some]
    unfold c_X12_cork_183
    rw [nIp1]
    by_cases z : nI (pc u) ≤ x6
    · simp only [if_pos z, Option.bind_some]
    · simp only [if_neg z, Option.bind_some]
  rw [c_X12_cork_58, h1, if_neg (nI_ge (by omega) (by omega)), g2, hv]
theorem cork_go {σ : Sg} {m0 p day P : Nat} {x4 : Int32} {U : Nat → Nat} (hW : WOK (σ 94) m0) (hDk : DOK (σ 94)) (hp : p < wN (σ 94)) (hP : P ≤ 5) (hd : day ≤ 900) (hU : U = (outr (σ 94) p day P (wN (σ 94)) 0 s00).2.2.2) (h8 : ∀ w, w < 9 → σ 80 w = nI (U w)) : ∀ j w m bst, wN (σ 94) - w = j → w ≤ wN (σ 94) → j < m → bst < wN (σ 94) → ∃ B, B < wN (σ 94) ∧ c_X0_bestStart_4 σ m (nI (wN (σ 94))) (nI bst) (nI w) = some (nI B) ∧ c_X12_cork_58 m (nI p) (nI P) (nI day) x4 (nI bst) (nI (pc (U bst))) (nI w) σ = c_X12_cork_191 x4 (nI B) (nI (pc (U B))) σ := by
  have b := hW.2.2.1
  have h1 := hW.2.1
  have hlt : ∀ w, w < wN (σ 94) → U w < 1024 := fun w hw => by rw [hU]; exact (mcork1 (m := 0) (x4 := 0) (x5 := 0) (x6 := 0) hW hDk hp hw hP hd).1
  have hm : ∀ w, w < wN (σ 94) → f_X0_howManyPlaces (nI w) σ = some (nI (pc (U w))) := fun w hw => by
    unfold f_X0_howManyPlaces
    rw [pick_at (by omega) (by omega), Option.bind_some, h8 w (by omega), bc_eq (hlt w hw)]
    rfl
  intro j
  induction j with
  | zero =>
    intro w m bst hj hw hmm hb
    obtain ⟨m, rfl⟩ : ∃ k, m = k + 1 := ⟨m - 1, by omega⟩
    refine ⟨bst, hb, ?_, ?_⟩
    · rw [c_X0_bestStart_4, if_pos (nI_le (by omega) (by omega))]
    · rw [c_X12_cork_58, h1, if_pos (nI_le (by omega) (by omega))]
  | succ j ih =>
    intro w m bst hj hw hmm hb
    obtain ⟨m, rfl⟩ : ∃ k, m = k + 1 := ⟨m - 1, by omega⟩
    have hk := (mcork1 (m := m) (x4 := x4) (x5 := nI bst) (x6 := nI (pc (U bst))) hW hDk hp (w := w) (by omega) hP hd).2
    rw [← hU] at hk
    have hx : c_X0_bestStart_4 σ (m + 1) (nI (wN (σ 94))) (nI bst) (nI w) = (if nI (pc (U w)) ≤ nI (pc (U bst)) then c_X0_bestStart_4 σ m (nI (wN (σ 94))) (nI bst) (nI (w + 1)) else c_X0_bestStart_4 σ m (nI (wN (σ 94))) (nI w) (nI (w + 1))) := by
      rw [c_X0_bestStart_4, if_neg (nI_ge (by omega) (by omega)), hm w (by omega), Option.bind_some, hm bst hb, Option.bind_some]
      unfold c_X0_bestStart_24
      rw [nIp1]
    by_cases z : nI (pc (U w)) ≤ nI (pc (U bst))
    · obtain ⟨B, g1, g2, g3⟩ := ih (w + 1) m bst (by omega) (by omega) (by omega) hb
      exact ⟨B, g1, by rw [hx, if_pos z]; exact g2, by rw [hk, if_pos z]; exact g3⟩
    · obtain ⟨B, g1, g2, g3⟩ := ih (w + 1) m w (by omega) (by omega) (by omega) (by omega)
      exact ⟨B, g1, by rw [hx, if_neg z]; exact g2, by rw [hk, if_neg z]; exact g3⟩
theorem eq_cork {xs : Nat → Int32} {σ : Sg} (h : Inv xs σ) (p0 p1 p2 p3 : Int32) : Good xs (f_X11_cork p0 p1 p2 p3 σ) (f_X12_cork p0 p1 p2 p3) := by
  obtain ⟨w1, w2, w3, t1, t2, t3⟩ := h.base
  obtain ⟨h1, h2, h3, h4⟩ := h.1
  by_cases c1 : 0 ≤ p0 ∧ p0 < nI (wN (σ 94))
  · by_cases c2 : 1 ≤ p1 ∧ p1 ≤ 5
    · by_cases c3 : 1 ≤ p2 ∧ p2 ≤ 99
      · by_cases c4 : 0 ≤ p3 ∧ p3 ≤ 1
        · obtain ⟨p, hp, rfl⟩ := nI_get (by omega) c1.1 c1.2
          obtain ⟨P, hP1, hP, rfl⟩ := Sm_of (lo := 1) (hi := 5) (by decide) (by decide) c2.1 c2.2
          obtain ⟨day, hd1, hd, rfl⟩ := Sm_of (lo := 1) (hi := 99) (by decide) (by decide) c3.1 c3.2
          obtain ⟨σ1, e1, e2, e3⟩ := search_eq h (p := p) (day := day) (P := P) hp hP (by omega)
          have e94 : σ1 94 = σ 94 := rows_eq (fun k => e2 94 k (by omega))
          have e324 : σ1 32 4 = nI (wN (σ 94)) := by rw [e2 32 4 (by omega)]; exact w1
          have h1' : WOK (σ1 94) 9999 := by rw [e94]; exact h1
          have h2' : DOK (σ1 94) := by rw [e94]; exact h2
          have hp' : p < wN (σ1 94) := by rw [e94]; exact hp
          have hn' : wN (σ1 94) ≤ 9 := by rw [e94]; exact w3
          have e8 : ∀ w, w < 9 → σ1 80 w = nI ((outr (σ1 94) p day P (wN (σ1 94)) 0 s00).2.2.2 w) := fun w hw => by rw [e94]; exact e3.2.2.2 w hw
          have hinv : Inv xs σ1 := h.hands (fun r k y1 y2 y3 y4 y5 y6 y7 y8 y9 => e2 r k (by omega))
          obtain ⟨B, g1, g2, g3⟩ := cork_go (x4 := p3) h1' h2' hp' hP (show day ≤ 900 by omega) rfl e8 (wN (σ1 94) - 1) 1 999 0 (by omega) (by omega) (by omega) (by omega)
          have k0 := mcork1 (m := 999) (x4 := p3) (x5 := 0) (x6 := -1) h1' h2' hp' (w := 0) (by omega) hP (show day ≤ 900 by omega)
          have l0 := pc_le _ k0.1
          have lB := (mcork1 (m := 999) (x4 := p3) (x5 := 0) (x6 := -1) h1' h2' hp' (w := B) g1 hP (show day ≤ 900 by omega)).1
          generalize hU : (outr (σ1 94) p day P (wN (σ1 94)) 0 s00).2.2.2 = U at *
          have nle : ¬ nI (pc (U 0)) ≤ (-1 : Int32) := by
            rw [ile, nI_toInt (by omega)]
            have : (-1 : Int32).toInt = -1 := rfl
            omega
          have hM : f_X12_cork (nI p) (nI P) (nI day) p3 σ1 = c_X12_cork_191 p3 (nI B) (nI (pc (U B))) σ1 := by
            unfold f_X12_cork
            rw [isWell_n (by rw [e94]; exact w2) (by omega), Option.bind_some, bI_1 c1, isIn_eq, Option.bind_some, bI_1 c2, isIn_eq, Option.bind_some, bI_1 c3, isIn_eq, Option.bind_some, bI_1 c4]
            refine Eq.trans k0.2 ?_
            rw [if_neg nle]
            exact g3
          have hbest : f_X0_bestStart (σ1 32 4) σ1 = some (nI B) := by
            unfold f_X0_bestStart
            rw [e324, ← e94]
            have lift : ∀ m x1 x2 x3 r, c_X0_bestStart_4 σ1 m x1 x2 x3 = some r → c_X0_bestStart_4 σ1 (m + 1) x1 x2 x3 = some r := by
              intro m
              induction m with
              | zero => intro x1 x2 x3 r e; exact absurd e (by rw [c_X0_bestStart_4]; exact fun z => by cases z)
              | succ m ih =>
                intro x1 x2 x3 r e
                rw [c_X0_bestStart_4] at e ⊢
                unfold c_X0_bestStart_24 at e ⊢
                by_cases z : x1 ≤ x3
                · rw [if_pos z] at e ⊢; exact e
                · rw [if_neg z] at e ⊢
                  cases q2 : f_X0_howManyPlaces x3 σ1 with
                  | none => rw [q2] at e; exact absurd e (fun z => by cases z)
                  | some v2 =>
                    cases q3 : f_X0_howManyPlaces x2 σ1 with
                    | none => rw [q2, q3] at e; exact absurd e (fun z => by cases z)
                    | some v3 =>
                      rw [q2, q3, Option.bind_some, Option.bind_some] at e
                      rw [Option.bind_some, Option.bind_some]
                      by_cases y : v2 ≤ v3
                      · rw [if_pos y] at e ⊢; exact ih _ _ _ _ e
                      · rw [if_neg y] at e ⊢; exact ih _ _ _ _ e
            exact lift 999 _ _ _ _ g2
          have hX : f_X11_cork (nI p) (nI P) (nI day) p3 σ = (if p3 = 0 then (some (nI B, σ1)) else ((f_X0_howManyPlaces (nI B) σ1).bind fun q14 => (some (q14, σ1)))) := by
            unfold f_X11_cork
            rw [has_n w1, Option.bind_some, bI_1 c1, within_eq, Option.bind_some, bI_1 c2, within_eq, Option.bind_some, bI_1 c3, within_eq, Option.bind_some, bI_1 c4, e1, Option.bind_some, hbest, Option.bind_some]
          unfold c_X12_cork_191 at hM
          by_cases q0 : p3 = 0
          · exact ⟨nI B, σ1, σ1, by rw [hX, if_pos q0], by rw [hM, if_pos q0], hinv⟩
          · refine ⟨nI (pc (U B)), σ1, σ1, ?_, by rw [hM, if_neg q0], hinv⟩
            rw [hX, if_neg q0]
            unfold f_X0_howManyPlaces
            rw [pick_at (by omega) (by omega), Option.bind_some, e8 B (by omega), bc_eq lB]
            rfl
        · refine good_err h (k := 1) (by decide) ?_ (fun σ1 e => ?_)
          · unfold f_X11_cork
            rw [has_n w1, Option.bind_some, bI_1 c1, within_eq, Option.bind_some, bI_1 c2, within_eq, Option.bind_some, bI_1 c3, within_eq, Option.bind_some, bI_0 c4]
            rfl
          · unfold f_X12_cork
            rw [isWell_n (by rw [e 94 (by decide)]; exact w2) (by omega), Option.bind_some, bI_1 c1, isIn_eq, Option.bind_some, bI_1 c2, isIn_eq, Option.bind_some, bI_1 c3, isIn_eq, Option.bind_some, bI_0 c4]
            rfl
      · refine good_err h (k := 1) (by decide) ?_ (fun σ1 e => ?_)
        · unfold f_X11_cork
          rw [has_n w1, Option.bind_some, bI_1 c1, within_eq, Option.bind_some, bI_1 c2, within_eq, Option.bind_some, bI_0 c3]
          rfl
        · unfold f_X12_cork
          rw [isWell_n (by rw [e 94 (by decide)]; exact w2) (by omega), Option.bind_some, bI_1 c1, isIn_eq, Option.bind_some, bI_1 c2, isIn_eq, Option.bind_some, bI_0 c3]
          rfl
    · refine good_err h (k := 1) (by decide) ?_ (fun σ1 e => ?_)
      · unfold f_X11_cork
        rw [has_n w1, Option.bind_some, bI_1 c1, within_eq, Option.bind_some, bI_0 c2]
        rfl
      · unfold f_X12_cork
        rw [isWell_n (by rw [e 94 (by decide)]; exact w2) (by omega), Option.bind_some, bI_1 c1, isIn_eq, Option.bind_some, bI_0 c2]
        rfl
  · refine good_err h (k := 1) (by decide) ?_ (fun σ1 e => ?_)
    · unfold f_X11_cork
      rw [has_n w1, Option.bind_some, bI_0 c1]
      rfl
    · unfold f_X12_cork
      rw [isWell_n (by rw [e 94 (by decide)]; exact w2) (by omega), Option.bind_some, bI_0 c1]
      rfl
