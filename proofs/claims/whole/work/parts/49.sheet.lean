theorem sheetAt_in {s : Nat} (hs : s < 4) (σ : Sg) : f_X11_sheetAt (nI s) σ = some (some (84 + 2 * s)) := by
  unfold f_X11_sheetAt
  rw [if_neg (nI_pos (by omega)), show (4 : Int32) = nI 4 from rfl, if_neg (nI_ge hs (by omega)), gdI hs (by omega), clI (by omega)]
theorem sheetAt_out {p : Int32} (c : ¬ (0 ≤ p ∧ p ≤ 3)) (σ : Sg) : f_X11_sheetAt p σ = some none := by
  unfold f_X11_sheetAt
  by_cases z : p < 0
  · rw [if_pos z]
  · rw [if_neg z, if_pos]
    have e4 : (4 : Int32).toInt = 4 := rfl
    have e3 : (3 : Int32).toInt = 3 := rfl
    have e0 : (0 : Int32).toInt = 0 := rfl
    rw [ile, ile] at c
    rw [ilt] at z
    rw [ile]
    omega
theorem isSheet_eq (p : Int32) (σ : Sg) : f_X12_isSheet p σ = some (if 0 ≤ p ∧ p ≤ 3 then 1 else 0) := by
  unfold f_X12_isSheet
  rw [isIn_eq]
  simp only [Option.bind_some]
  split <;> rfl
theorem ixS (s i : Nat) : (40 : Int32) * nI s + nI i = nI (40 * s + i) := by
  show nI 40 * nI s + nI i = _
  rw [pk_mul, nI_add]
theorem Inv.sheet {xs : Nat → Int32} {σ σ2 : Sg} {s : Nat} (h : Inv xs σ) (hs : s < 4) (e : ∀ r k, r ≠ 84 + 2 * s → r ≠ 84 + 2 * s + 1 → r ≠ 105 → (r ≠ 102 ∨ k ≠ s) → (r ≠ 103 ∨ k ≠ s) → (r ≠ 104 ∨ k < 40 * s ∨ 40 * s + 40 ≤ k) → σ2 r k = σ r k) (ok : SheetOK σ2 s) : Inv xs σ2 := by
  obtain ⟨⟨h1, h2, h3, h4⟩, h5, h6, h7, ⟨h8, h8a, h8b⟩, h9, h10, h11, h12⟩ := h
  have eR : ∀ r, (r < 84 ∨ 91 < r) → (r < 102 ∨ 105 < r) → σ2 r = σ r := fun r a b => rows_eq (fun k => e r k (by omega) (by omega) (by omega) (by omega) (by omega) (by omega))
  refine ⟨?_, fun j hj => ?_, ?_, ?_, ⟨?_, ?_, fun i hi hi2 => ?_⟩, fun t ht => ?_, ?_, ?_, ?_⟩
  · rw [eR 94 (by omega) (by omega)]
    exact ⟨h1, h2, h3.frame (fun r _ _ => eR r (by omega) (by omega)), h4.frame (fun r _ _ _ _ => eR r (by omega) (by omega))⟩
  · rw [eR 92 (by omega) (by omega), eR 97 (by omega) (by omega)]; exact h5 j hj
  · rw [eR 0 (by omega) (by omega), eR 93 (by omega) (by omega)]; exact h6
  · rw [eR 93 (by omega) (by omega), eR 96 (by omega) (by omega)]
    rcases h7 with z | ⟨z1, z2, z3, z4⟩
    · exact Or.inl z
    · exact Or.inr ⟨z1, z2, z3.frame (fun r _ _ => eR r (by omega) (by omega)), z4.frame (fun r _ _ _ _ => eR r (by omega) (by omega))⟩
  · rw [eR 93 (by omega) (by omega)]; exact h8
  · rw [eR 93 (by omega) (by omega), eR 81 (by omega) (by omega)]; exact h8a
  · rw [eR 93 (by omega) (by omega)] at hi
    rw [eR 82 (by omega) (by omega), eR 101 (by omega) (by omega)]; exact h8b i hi hi2
  · by_cases z : t = s
    · subst z; exact ok
    · obtain ⟨a1, a2, a3, a4, a5⟩ := h9 t ht
      refine ⟨?_, ?_, ?_, ?_, fun i hi => ?_⟩
      · simp (disch := omega) only [e]; exact a1
      · simp (disch := omega) only [e]; exact a2
      · simp (disch := omega) only [e]; exact a3
      · simp (disch := omega) only [e]; exact a4
      · simp (disch := omega) only [e]; exact a5 i hi
  · rw [eR _ (by omega) (by omega)]; exact h10
  · rw [eR _ (by omega) (by omega)]; exact h11
  · rw [eR _ (by omega) (by omega)]; exact h12
theorem clear_go {a : Nat} : ∀ j i m σ, 40 - i = j → j < m → i ≤ 40 → ∃ σ', c_X5_clear_12 a m (nI i) σ = some σ' ∧ (∀ r k, (r ≠ a + 1 ∨ k < i ∨ 40 ≤ k) → σ' r k = σ r k) ∧ ∀ k, i ≤ k → k < 40 → σ' (a + 1) k = 0 := by
  intro j
  induction j with
  | zero =>
    intro i m σ hj hm hi
    obtain ⟨m, rfl⟩ : ∃ k, m = k + 1 := ⟨m - 1, by omega⟩
    refine ⟨σ, ?_, fun _ _ _ => rfl, fun k a b => by omega⟩
    unfold c_X5_clear_12
    rw [show (40 : Int32) = nI 40 from rfl, if_pos (nI_le (by omega) (by omega))]
  | succ j ih =>
    intro i m σ hj hm hi
    obtain ⟨m, rfl⟩ : ∃ k, m = k + 1 := ⟨m - 1, by omega⟩
    obtain ⟨σ', s1, s2, s3⟩ := ih (i + 1) m (mup σ (a + 1) i 0) (by omega) (by omega) (by omega)
    refine ⟨σ', ?_, fun r k hr => ?_, fun k a b => ?_⟩
    · unfold c_X5_clear_12
      rw [show (40 : Int32) = nI 40 from rfl, if_neg (nI_ge (by omega) (by omega)), gdI (by omega) (by omega), clI (by omega), nIp1]
      exact s1
    · rw [s2 r k (by omega), mup_o (by omega)]
    · by_cases z : k = i
      · subst z
        rw [s2 _ k (by omega), mup_s]
      · rw [s3 k (by omega) b]
theorem mclear_go {s : Nat} (hs : s < 4) : ∀ j i m σ, 40 - i = j → j < m → i ≤ 40 → ∃ σ', c_X12_sheet_90 m (nI s) (nI i) σ = some (1, σ') ∧ (∀ r k, (r ≠ 104 ∨ k < 40 * s + i ∨ 40 * s + 40 ≤ k) → σ' r k = σ r k) ∧ ∀ k, i ≤ k → k < 40 → σ' 104 (40 * s + k) = 0 := by
  intro j
  induction j with
  | zero =>
    intro i m σ hj hm hi
    obtain ⟨m, rfl⟩ : ∃ k, m = k + 1 := ⟨m - 1, by omega⟩
    refine ⟨σ, ?_, fun _ _ _ => rfl, fun k a b => by omega⟩
    unfold c_X12_sheet_90
    rw [ixS, show (40 : Int32) = nI 40 from rfl, if_pos (nI_le (by omega) (by omega))]
  | succ j ih =>
    intro i m σ hj hm hi
    obtain ⟨m, rfl⟩ : ∃ k, m = k + 1 := ⟨m - 1, by omega⟩
    obtain ⟨σ', s1, s2, s3⟩ := ih (i + 1) m (mup σ 104 (40 * s + i) 0) (by omega) (by omega) (by omega)
    refine ⟨σ', ?_, fun r k hr => ?_, fun k a b => ?_⟩
    · unfold c_X12_sheet_90
      rw [ixS, show (40 : Int32) = nI 40 from rfl, if_neg (nI_ge (by omega) (by omega)), gdI (by omega) (by omega), clI (by omega), nIp1]
      exact s1
    · rw [s2 r k (by omega), mup_o (by omega)]
    · by_cases z : k = i
      · subst z
        rw [s2 _ _ (by omega), mup_s]
      · rw [s3 k (by omega) b]
theorem sheet_core {xs : Nat → Int32} {σ : Sg} {s : Nat} (h : Inv xs σ) (hs : s < 4) {b n : Int32} (hb : b = 0 ∨ b = 8 ∨ b = 16 ∨ b = 32) (hn : Sm n 0 40) : ∃ σ1 σ2, f_X5_clear (84 + 2 * s) b n σ = some σ1 ∧ c_X12_sheet_86 (nI s) (nI s) n (mup σ1 102 s b) = some (1, σ2) ∧ Inv xs σ2 := by
  obtain ⟨σ1, a1, a2, a3⟩ := clear_go (a := 84 + 2 * s) 40 0 1000 (mup (mup σ (84 + 2 * s) 1 b) (84 + 2 * s) 2 n) (by omega) (by omega) (by omega)
  obtain ⟨σ2, b1, b2, b3⟩ := mclear_go hs 40 0 1000 (mup (mup σ1 102 s b) 103 s n) (by omega) (by omega) (by omega)
  refine ⟨σ1, σ2, a1, ?_, ?_⟩
  · unfold c_X12_sheet_86
    rw [gdI hs (by omega), clI (by omega)]
    exact b1
  · refine h.sheet hs (fun r k x y z u v w => ?_) ⟨?_, ?_, ?_, ?_, fun i hi => ?_⟩
    · rw [b2 r k (by omega), mup_o (by omega), mup_o (by omega), a2 r k (by omega), mup_o (by omega), mup_o (by omega)]
    · rw [b2 _ _ (by omega), b2 _ _ (by omega), mup_o (by omega), mup_o (by omega), mup_o (by omega), mup_s, a2 _ _ (by omega), mup_o (by omega), mup_s]
    · rw [b2 _ _ (by omega), b2 _ _ (by omega), mup_o (by omega), mup_o (by omega), mup_s, a2 _ _ (by omega), mup_s]
    · rw [b2 _ _ (by omega), mup_o (by omega), mup_s]; exact hb
    · rw [b2 _ _ (by omega), mup_s]; exact hn
    · rw [b3 i (by omega) hi, b2 _ _ (by omega), mup_o (by omega), mup_o (by omega), a3 i (by omega) hi]
theorem eq_sheet {xs : Nat → Int32} {σ : Sg} (h : Inv xs σ) (p0 p1 p2 : Int32) : Good xs (f_X11_sheet p0 p1 p2 σ) (f_X12_sheet p0 p1 p2) := by
  by_cases c0 : 0 ≤ p0 ∧ p0 ≤ 3
  · obtain ⟨s, hs, rfl⟩ := nI_getL (n := 3) (by decide) c0.1 c0.2
    by_cases c1 : p1 = 0 ∨ p1 = 8 ∨ p1 = 16 ∨ p1 = 32
    · have hX : f_X11_sheet (nI s) p1 p2 σ = c_X11_sheet_40 p1 p2 (84 + 2 * s) σ := by
        unfold f_X11_sheet
        rw [sheetAt_in (by omega)]
        simp only [Option.bind_some]
        rcases c1 with rfl | rfl | rfl | rfl <;> rfl
      have hM : ∀ τ, f_X12_sheet (nI s) p1 p2 τ = c_X12_sheet_35 (nI s) p1 p2 τ := fun τ => by
        unfold f_X12_sheet
        rw [isSheet_eq]
        simp only [Option.bind_some]
        rw [bI_1 c0]
        rcases c1 with rfl | rfl | rfl | rfl <;> rfl
      have hgo : ∀ n : Int32, Sm n 0 40 → (c_X11_sheet_40 p1 p2 (84 + 2 * s) σ = (f_X5_clear (84 + 2 * s) p1 n σ).bind fun q => some (1, q)) → (∀ τ, c_X12_sheet_35 (nI s) p1 p2 τ = c_X12_sheet_86 (nI s) (nI s) n (mup τ 102 s p1)) → Good xs (f_X11_sheet (nI s) p1 p2 σ) (f_X12_sheet (nI s) p1 p2) := by
        intro n hn g1 g2
        obtain ⟨σ1, σ2, k1, k2, k3⟩ := sheet_core h (s := s) (by omega) c1 hn
        refine ⟨1, σ1, σ2, ?_, ?_, k3⟩
        · rw [hX, g1, k1]; rfl
        · rw [hM, g2, k2]
      by_cases c2 : p1 = 0
      · refine hgo 0 ⟨0, by omega, by omega, rfl⟩ ?_ (fun τ => ?_)
        · unfold c_X11_sheet_40
          rw [if_pos c2, c2]
        · unfold c_X12_sheet_35 c_X12_sheet_49 c_X12_sheet_65
          rw [if_pos c2, if_pos c2, if_pos c2, gdI (by omega) (by omega), clI (by omega)]
      · by_cases c3 : 0 ≤ p2
        · by_cases c4 : p2 ≤ 40
          · refine hgo p2 (Sm_of (lo := 0) (hi := 40) (by decide) (by decide) c3 c4) ?_ (fun τ => ?_)
            · unfold c_X11_sheet_40
              rw [if_neg c2, if_pos c3, if_pos c4]
            · unfold c_X12_sheet_35 c_X12_sheet_49 c_X12_sheet_65
              rw [if_neg c2, if_pos c3, if_neg c2, if_pos c4, if_neg c2, gdI (by omega) (by omega), clI (by omega)]
          · refine good_err h (k := 1) (by decide) ?_ (fun σ1 e => ?_)
            · rw [hX]
              unfold c_X11_sheet_40
              rw [if_neg c2, if_pos c3, if_neg c4]
              rfl
            · rw [hM]
              unfold c_X12_sheet_35 c_X12_sheet_49
              rw [if_neg c2, if_pos c3, if_neg c2, if_neg c4]
              rfl
        · refine good_err h (k := 3) (by decide) ?_ (fun σ1 e => ?_)
          · rw [hX]
            unfold c_X11_sheet_40
            rw [if_neg c2, if_neg c3]
            rfl
          · rw [hM]
            unfold c_X12_sheet_35
            rw [if_neg c2, if_neg c3]
            rfl
    · simp only [not_or] at c1
      obtain ⟨d0, d1, d2, d3⟩ := c1
      refine good_err h (k := 1) (by decide) ?_ (fun σ1 e => ?_)
      · unfold f_X11_sheet
        rw [sheetAt_in (by omega)]
        simp only [Option.bind_some]
        rw [if_neg d0, if_neg d1, if_neg d2, if_neg d3]
        rfl
      · unfold f_X12_sheet
        rw [isSheet_eq]
        simp only [Option.bind_some]
        rw [bI_1 c0, if_neg d0, if_neg d1, if_neg d2, if_neg d3]
        rfl
  · refine good_err h (k := 1) (by decide) ?_ (fun σ1 e => ?_)
    · unfold f_X11_sheet
      rw [sheetAt_out c0]
      rfl
    · unfold f_X12_sheet
      rw [isSheet_eq]
      simp only [Option.bind_some]
      rw [bI_0 c0]
      rfl
theorem eq_put {xs : Nat → Int32} {σ : Sg} (h : Inv xs σ) (p0 p1 p2 : Int32) : Good xs (f_X11_put p0 p1 p2 σ) (f_X12_put p0 p1 p2) := by
  by_cases c0 : 0 ≤ p0 ∧ p0 ≤ 3
  · obtain ⟨s, hs, rfl⟩ := nI_getL (n := 3) (by decide) c0.1 c0.2
    obtain ⟨a1, a2, a3, ⟨n, n1, n2, n3⟩, a5⟩ := h.2.2.2.2.2.1 s (by omega)
    by_cases c1 : σ 102 s = 0
    · refine good_err h (k := 2) (by decide) ?_ (fun σ1 e => ?_)
      · unfold f_X11_put
        rw [sheetAt_in (by omega)]
        simp only [Option.bind_some]
        rw [a1, if_pos c1]
        rfl
      · unfold f_X12_put
        rw [isSheet_eq]
        simp only [Option.bind_some]
        rw [bI_1 c0, gdI (by omega) (by omega), clI (by omega), e 102 (by decide), if_pos c1]
        rfl
    · by_cases c2 : 0 ≤ p1 ∧ p1 < nI n
      · obtain ⟨i, hi, rfl⟩ := nI_get (by omega) c2.1 c2.2
        have hgo : ∀ v, f_X5_write (84 + 2 * s) (nI i) p2 σ = some (mup σ (84 + 2 * s + 1) i v) → (f_X12_put (nI s) (nI i) p2 (mup σ (84 + 2 * s + 1) i v) = some (1, mup (mup σ (84 + 2 * s + 1) i v) 104 (40 * s + i) v)) → Good xs (f_X11_put (nI s) (nI i) p2 σ) (f_X12_put (nI s) (nI i) p2) := by
          intro v g1 g2
          refine ⟨1, _, _, ?_, g2, ?_⟩
          · unfold f_X11_put
            rw [sheetAt_in (by omega)]
            simp only [Option.bind_some]
            rw [a1, if_neg c1, if_neg (nI_pos (by omega)), a2, n3, if_pos c2.2, g1]
            rfl
          · refine h.sheet (s := s) (by omega) (fun r k x y z u v w => ?_) ⟨?_, ?_, ?_, ?_, fun j hj => ?_⟩
            · rw [mup_o (by omega), mup_o (by omega)]
            · simp (disch := omega) only [mup_o]; exact a1
            · simp (disch := omega) only [mup_o]; exact a2
            · simp (disch := omega) only [mup_o]; exact a3
            · simp (disch := omega) only [mup_o]; exact ⟨n, n1, n2, n3⟩
            · by_cases z : j = i
              · subst z
                simp (disch := omega) only [mup_o, mup_s]
              · simp (disch := omega) only [mup_o]; exact a5 j hj
        have hM : ∀ v, (if σ 102 s = 8 then p2.toInt8.toInt32 else if σ 102 s = 16 then p2.toInt16.toInt32 else p2) = v → f_X12_put (nI s) (nI i) p2 (mup σ (84 + 2 * s + 1) i v) = some (1, mup (mup σ (84 + 2 * s + 1) i v) 104 (40 * s + i) v) := by
          intro v hv
          unfold f_X12_put
          rw [isSheet_eq]
          simp only [Option.bind_some]
          have e2 : mup σ (84 + 2 * s + 1) i v 102 s = σ 102 s := by rw [mup_o (by omega)]
          have e3 : mup σ (84 + 2 * s + 1) i v 103 s = nI n := by rw [mup_o (by omega)]; exact n3
          rw [bI_1 c0, ixS]
          simp (disch := omega) only [gdI]
          simp (disch := omega) only [clI]
          rw [e2, e3, isIn_eq]
          simp only [Option.bind_some, ltp _ (show n ≤ 1000 by omega)]
          rw [if_neg c1, bI_1 c2]
          by_cases y8 : σ 102 s = 8
          · rw [if_pos y8] at hv ⊢
            rw [hv]
          · rw [if_neg y8] at hv ⊢
            by_cases y16 : σ 102 s = 16
            · rw [if_pos y16] at hv ⊢
              rw [hv]
            · rw [if_neg y16] at hv ⊢
              rw [hv]
        refine hgo _ ?_ (hM _ rfl)
        unfold f_X5_write
        rw [a1, lay_at (by omega) (by omega), lay_at (by omega) (by omega), lay_at (by omega) (by omega)]
        simp only [Option.bind_some]
        by_cases y8 : σ 102 s = 8
        · rw [if_pos y8, if_pos y8]
        · rw [if_neg y8, if_neg y8]
          by_cases y16 : σ 102 s = 16
          · rw [if_pos y16, if_pos y16]
          · rw [if_neg y16, if_neg y16]
      · refine good_err h (k := 1) (by decide) ?_ (fun σ1 e => ?_)
        · unfold f_X11_put
          rw [sheetAt_in (by omega)]
          simp only [Option.bind_some]
          rw [a1, if_neg c1]
          by_cases z : p1 < 0
          · rw [if_pos z]
            rfl
          · rw [if_neg z, a2, n3, if_neg (fun y => c2 ⟨by rw [ile]; rw [ilt] at z; omega, y⟩)]
            rfl
        · unfold f_X12_put
          rw [isSheet_eq]
          simp only [Option.bind_some]
          rw [bI_1 c0]
          simp (disch := omega) only [gdI]
          simp (disch := omega) only [clI]
          rw [e 102 (by decide), if_neg c1, e 103 (by decide), n3, isIn_eq]
          simp only [Option.bind_some, ltp _ (show n ≤ 1000 by omega)]
          rw [bI_0 c2]
          rfl
  · refine good_err h (k := 1) (by decide) ?_ (fun σ1 e => ?_)
    · unfold f_X11_put
      rw [sheetAt_out c0]
      rfl
    · unfold f_X12_put
      rw [isSheet_eq]
      simp only [Option.bind_some]
      rw [bI_0 c0]
      rfl
