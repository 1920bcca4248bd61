theorem days_go {τ : Sg} {D0 : Nat → Int32} {G : Nat → Int32 → Int32 → Int32 → Int32 → Int32} {n : Nat} (hG : ∀ A B C F, Sm (G 0 A B C F) 0 30) (gx : GX τ G) (gd : GD D0 G) (hn : n ≤ 200) : ∀ j i D m, WOK D m → m ≤ 50000 + i → n - i = j → i ≤ n → ∃ D', WOK D' (m + j) ∧ D' 0 = D 0 + nI j ∧ (∀ q, (1 ≤ q ∧ q < 46) ∨ 106 ≤ q → D' q = D q) ∧ (∀ (a : Nat) (σ : Sg) (f : Nat), 11 < a → j < f → RW σ a D → TXs σ τ → ∃ σ', c_X10_goBy_2 a 6 9 f (nI n) (nI i) σ = some σ' ∧ RW σ' a D' ∧ XF a σ' σ) ∧ (∀ (r : Nat) (σ : Sg) (f : Nat), (r = 94 ∨ r = 95) → j < f → Row σ r D → TDs σ D0 → ∃ σ', c_X12_goesOn_2 r f (nI n) (nI i) σ = some σ' ∧ Row σ' r D' ∧ MF r σ' σ) := by
  intro j
  induction j with
  | zero =>
    intro i D m hW hm hj hi
    refine ⟨D, hW, by rw [show nI 0 = (0 : Int32) from rfl, Int32.add_zero], fun _ _ => rfl, fun a σ f ha hf hR hT => ⟨σ, ?_, hR, fun _ _ _ _ _ => rfl⟩, fun r σ f hr0 hf hr hT => ⟨σ, ?_, hr, fun _ _ _ _ _ => rfl⟩⟩
    · obtain ⟨f, rfl⟩ : ∃ k, f = k + 1 := ⟨f - 1, by omega⟩
      rw [c_X10_goBy_2, if_pos (nI_le (by omega) (by omega))]
    · obtain ⟨f, rfl⟩ : ∃ k, f = k + 1 := ⟨f - 1, by omega⟩
      rw [c_X12_goesOn_2, if_pos (nI_le (by omega) (by omega))]
  | succ j ih =>
    intro i D m hW hm hj hi
    obtain ⟨D1, d1, d2, d3, dx, dm⟩ := day_eq hG gx gd hW (by omega)
    obtain ⟨D', e1, e2, e3, ex, em⟩ := ih (i + 1) D1 (m + 1) d1 (by omega) (by omega) (by omega)
    refine ⟨D', by rw [show m + (j + 1) = m + 1 + j by omega]; exact e1, ?_, fun q hq => (e3 q hq).trans (d3 q hq), fun a σ f ha hf hR hT => ?_, fun r σ f hr0 hf hr hT => ?_⟩
    · rw [e2, d2, Int32.add_assoc, Int32.add_comm 1, nIp1]
    · obtain ⟨f, rfl⟩ : ∃ k, f = k + 1 := ⟨f - 1, by omega⟩
      obtain ⟨σ1, f1, f2, f3⟩ := dx a σ f (nI n) (nI i) ha hR hT (nI_ge (by omega) (by omega))
      rw [nIp1] at f1
      obtain ⟨σ', g1, g2, g3⟩ := ex a σ1 f ha (by omega) f2 (hT.keep ha f3)
      exact ⟨σ', f1.trans g1, g2, g3.trans f3⟩
    · obtain ⟨f, rfl⟩ : ∃ k, f = k + 1 := ⟨f - 1, by omega⟩
      obtain ⟨σ1, f1, f2, f3⟩ := dm r σ hr0 hr hT
      obtain ⟨σ', g1, g2, g3⟩ := em r σ1 f hr0 (by omega) f2 (hT.keep f3)
      refine ⟨σ', ?_, g2, g3.trans f3⟩
      rw [c_X12_goesOn_2, if_neg (nI_ge (by omega) (by omega)), f1, Option.bind_some, nIp1]
      exact g1
/-- the now has gone on -/
theorem Inv.days {xs : Nat → Int32} {σ σ1 σ2 : Sg} {D' : Nat → Int32} {M : Nat} (h : Inv xs σ) (x1 : XF 31 σ1 σ) (x2 : RW σ1 31 D') (m1 : MF 94 σ2 σ1) (m2 : Row σ2 94 D') (hW : WOK D' M) (h0 : Sm (D' 0) 0 9999) (hq : ∀ q, (1 ≤ q ∧ q < 10) → D' q = σ 94 q) : Inv xs σ2 := by
  obtain ⟨h1, h2, h3, h4⟩ := h.1
  have eR : ∀ r, r ≠ 8 → r ≠ 11 → (r < 31 ∨ 43 < r) → r ≠ 98 → r ≠ 93 → r ≠ 94 → σ2 r = σ r := fun r a b c d e f => rows_eq (fun k => (m1 r k d (by omega) (by omega)).trans (x1 r k a b (by omega)))
  have e93 : ∀ k, (k < 5 ∨ 10 < k) → σ2 93 k = σ 93 k := fun k hk => (m1 93 k (by omega) (by omega) (by omega)).trans (x1 93 k (by omega) (by omega) (by omega))
  have eD : ∀ j, 106 ≤ j → σ2 94 j = σ 94 j := fun j hj => (m1 94 j (by omega) (by omega) (by omega)).trans (x1 94 j (by omega) (by omega) (by omega))
  have eS : ∀ j, 1 ≤ j ∧ j < 10 → σ2 94 j = σ 94 j := fun j hj => (m2 j (by omega)).trans (hq j hj)
  have eJ : ∀ j, (3 ≤ j ∧ j ≤ 6) ∨ 106 ≤ j → σ2 94 j = σ 94 j := fun j hj => by
    rcases hj with z | z
    · exact eS j (by omega)
    · exact eD j z
  have hW9 : WOK D' 9999 := ⟨h0, hW.2⟩
  have wn : wN (σ2 94) = wN (σ 94) := wN_cong (eS 1 (by omega))
  refine h.again ⟨hW9.cong (fun j hj => m2 j (by omega)), h2.cong (fun j hj => eJ j (by omega)) (by omega), ?_, ?_⟩ (fun r hr => eR r (by unfold Keep at hr; omega) (by unfold Keep at hr; omega) (by unfold Keep at hr; omega) (by unfold Keep at hr; omega) (by unfold Keep at hr; omega) (by unfold Keep at hr; omega)) (e93 3 (by omega)) (e93 15 (by omega))
  · refine RW.cong ?_ hW9 (fun j hj => m2 j (by omega))
    exact x2.frame (fun r _ _ => rows_eq (fun k => m1 r k (by omega) (by omega) (by omega)))
  · refine RD.cong ?_ h2 (fun j hj => eJ j (by omega))
    exact h4.frame (fun r _ _ _ _ => eR r (by omega) (by omega) (by omega) (by omega) (by omega) (by omega))
theorem eq_days {xs : Nat → Int32} {σ : Sg} (h : Inv xs σ) (p : Int32) : Good xs (f_X11_days p σ) (f_X12_days p) := by
  obtain ⟨h1, h2, h3, h4⟩ := h.1
  by_cases c : 1 ≤ p ∧ p ≤ 100
  · obtain ⟨n, n1, n2, rfl⟩ := Sm_of (lo := 1) (hi := 100) (by decide) (by decide) c.1 c.2
    obtain ⟨d, d1, d2, d3⟩ := h1.1
    by_cases c2 : d + n ≤ 9999
    · have c3 : nI d + nI n ≤ (9999 : Int32) := by
        rw [nIa, show (9999 : Int32) = nI 9999 from rfl]
        exact nI_le (by omega) (by omega)
      obtain ⟨G, hG, gx, gd⟩ := gives_ex (τ := σ) (D := σ 94) h4.2.2.2.2.2.2.2.1 h4.2.2.2.2.2.2.2.2
      obtain ⟨D', e1, e2, e3, ex, em⟩ := days_go (n := n) hG gx gd (by omega) n 0 (σ 94) 9999 h1 (by omega) (by omega) (by omega)
      obtain ⟨σ1, x1, x2, x3⟩ := ex 31 σ 1000 (by omega) (by omega) h3 ⟨rfl, fun _ _ => rfl, rfl, fun _ _ => rfl⟩
      obtain ⟨σ2, m1, m2, m3⟩ := em 94 σ1 1000 (Or.inl rfl) (by omega) (fun j _ => x3 94 j (by omega) (by omega) (by omega)) (fun j _ => x3 94 j (by omega) (by omega) (by omega))
      refine ⟨D' 0, σ1, σ2, ?_, ?_, ?_⟩
      · unfold f_X11_days f_X10_goBy
        rw [within_eq, Option.bind_some, bI_1 c, h3.1, d3, if_pos c3]
        refine Eq.trans (congrArg (fun o => Option.bind o _) x1) ?_
        rw [Option.bind_some, x2.1]
      · unfold f_X12_days f_X12_goesOn
        rw [isIn_eq, Option.bind_some, bI_1 c, x3 94 0 (by omega) (by omega) (by omega), d3, if_pos c3]
        refine Eq.trans (congrArg (fun o => Option.bind o _) m1) ?_
        rw [Option.bind_some, m2 0 (by omega)]
      · exact h.days x3 x2 m3 m2 e1 ⟨d + n, by omega, by omega, by rw [e2, d3, nIa]⟩ (fun q hq => e3 q (by omega))
    · have c3 : ¬ nI d + nI n ≤ (9999 : Int32) := by
        rw [nIa, show (9999 : Int32) = nI 9999 from rfl, nI_le_iff (by omega) (by omega)]
        omega
      refine good_err h (k := 3) (by decide) ?_ (fun σ1 e => ?_)
      · unfold f_X11_days
        rw [within_eq, Option.bind_some, bI_1 c, h3.1, d3, if_neg c3]
        rfl
      · unfold f_X12_days
        rw [isIn_eq, Option.bind_some, bI_1 c, e 94 (by decide), d3, if_neg c3]
        rfl
  · refine good_err h (k := 1) (by decide) ?_ (fun σ1 e => ?_)
    · unfold f_X11_days
      rw [within_eq, Option.bind_some, bI_0 c]
      rfl
    · unfold f_X12_days
      rw [isIn_eq, Option.bind_some, bI_0 c]
      rfl
