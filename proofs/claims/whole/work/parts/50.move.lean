theorem hasSpan_eq {a c : Nat} {σ : Sg} (h : σ a 2 = nI c) (hc : c ≤ 40) (p q : Int32) : f_X5_hasSpan a p q σ = some (if 0 ≤ p.toInt ∧ 0 ≤ q.toInt ∧ p.toInt + q.toInt ≤ c then 1 else 0) := by
  unfold f_X5_hasSpan
  have e0 : (0 : Int32).toInt = 0 := rfl
  have ec := nI_toInt (n := c) (by omega)
  have rp := irng p
  have rq := irng q
  rw [h]
  by_cases z1 : p < 0
  · rw [if_pos z1, if_neg (by rw [ilt] at z1; omega)]
  · rw [if_neg z1]
    rw [ilt] at z1
    by_cases z2 : q < 0
    · rw [if_pos z2, if_neg (by rw [ilt] at z2; omega)]
    · rw [if_neg z2]
      rw [ilt] at z2
      by_cases z3 : nI c < p
      · rw [if_pos z3, if_neg (by rw [ilt] at z3; omega)]
      · rw [if_neg z3]
        rw [ilt] at z3
        have es : (nI c - p).toInt = c - p.toInt := by rw [isub (by omega) (by omega), ec]
        by_cases z4 : nI c - p < q
        · rw [if_pos z4, if_neg (by rw [ilt, es] at z4; omega)]
        · rw [if_neg z4, if_pos (by rw [ilt, es] at z4; omega)]
theorem ixS3 (s i k : Nat) : (40 : Int32) * nI s + nI i + nI k = nI (40 * s + i + k) := by
  rw [ixS, nI_add]
theorem lift_go {s i s2 p n : Nat} (hs : s < 4) (hi : i + n ≤ 40) : ∀ j k m σ, n - k = j → j < m → k ≤ n → ∃ σ', c_X12_move_115 m (nI s) (nI i) (nI s2) (nI p) (nI n) (nI k) σ = c_X12_move_149 (nI s2) (nI p) (nI n) σ' ∧ (∀ r q, (r ≠ 105 ∨ q < k ∨ n ≤ q) → σ' r q = σ r q) ∧ ∀ q, k ≤ q → q < n → σ' 105 q = σ 104 (40 * s + i + q) := by
  intro j
  induction j with
  | zero =>
    intro k m σ hj hm hk
    obtain ⟨m, rfl⟩ : ∃ k, m = k + 1 := ⟨m - 1, by omega⟩
    refine ⟨σ, ?_, fun _ _ _ => rfl, fun k a b => by omega⟩
    unfold c_X12_move_115
    rw [if_pos (nI_le (by omega) (by omega))]
  | succ j ih =>
    intro k m σ hj hm hk
    obtain ⟨m, rfl⟩ : ∃ k, m = k + 1 := ⟨m - 1, by omega⟩
    obtain ⟨σ', s1, s2, s3⟩ := ih (k + 1) m (mup σ 105 k (σ 104 (40 * s + i + k))) (by omega) (by omega) (by omega)
    refine ⟨σ', ?_, fun r q hr => ?_, fun q a b => ?_⟩
    · unfold c_X12_move_115
      rw [if_neg (nI_ge (by omega) (by omega)), ixS3, gdI (by omega) (by omega), gdI (by omega) (by omega), clI (by omega), clI (by omega), nIp1]
      exact s1
    · rw [s2 r q (by omega), mup_o (by omega)]
    · by_cases z : q = k
      · subst z
        rw [s2 _ _ (by omega), mup_s]
      · rw [s3 q (by omega) b, mup_o (by omega)]
theorem drop_go {s2 p n : Nat} (hs : s2 < 4) (hi : p + n ≤ 40) : ∀ j k m σ, n - k = j → j < m → k ≤ n → ∃ σ', c_X12_move_152 m (nI s2) (nI p) (nI n) (nI k) σ = some (nI n, σ') ∧ (∀ r q, (r ≠ 104 ∨ q < 40 * s2 + p + k ∨ 40 * s2 + p + n ≤ q) → σ' r q = σ r q) ∧ ∀ q, k ≤ q → q < n → σ' 104 (40 * s2 + p + q) = σ 105 q := by
  intro j
  induction j with
  | zero =>
    intro k m σ hj hm hk
    obtain ⟨m, rfl⟩ : ∃ k, m = k + 1 := ⟨m - 1, by omega⟩
    refine ⟨σ, ?_, fun _ _ _ => rfl, fun k a b => by omega⟩
    unfold c_X12_move_152
    rw [if_pos (nI_le (by omega) (by omega))]
  | succ j ih =>
    intro k m σ hj hm hk
    obtain ⟨m, rfl⟩ : ∃ k, m = k + 1 := ⟨m - 1, by omega⟩
    obtain ⟨σ', s1, s2', s3⟩ := ih (k + 1) m (mup σ 104 (40 * s2 + p + k) (σ 105 k)) (by omega) (by omega) (by omega)
    refine ⟨σ', ?_, fun r q hr => ?_, fun q a b => ?_⟩
    · unfold c_X12_move_152
      rw [if_neg (nI_ge (by omega) (by omega)), ixS3, gdI (by omega) (by omega), gdI (by omega) (by omega), clI (by omega), clI (by omega), nIp1]
      exact s1
    · rw [s2' r q (by omega), mup_o (by omega)]
    · by_cases z : q = k
      · subst z
        rw [s2' _ _ (by omega), mup_s]
      · rw [s3 q (by omega) b, mup_o (by omega)]
theorem nI_ofInt {x : Int32} {n : Nat} (h0 : 0 ≤ x.toInt) (h1 : x.toInt ≤ n) (hn : n < 2 ^ 31) : ∃ k : Nat, k ≤ n ∧ x = nI k ∧ x.toInt = k := by
  refine ⟨x.toInt.toNat, by omega, ?_, by omega⟩
  rw [ieq, nI_toInt (by omega)]
  omega
theorem eq_move {xs : Nat → Int32} {σ : Sg} (h : Inv xs σ) (p0 p1 p2 p3 p4 : Int32) : Good xs (f_X11_move p0 p1 p2 p3 p4 σ) (f_X12_move p0 p1 p2 p3 p4) := by
  by_cases c0 : 0 ≤ p0 ∧ p0 ≤ 3
  · by_cases c2 : 0 ≤ p2 ∧ p2 ≤ 3
    · obtain ⟨s, hs, rfl⟩ := nI_getL (n := 3) (by decide) c0.1 c0.2
      obtain ⟨u, hu, rfl⟩ := nI_getL (n := 3) (by decide) c2.1 c2.2
      obtain ⟨a1, a2, a3, ⟨n, n1, n2, n3⟩, a5⟩ := h.2.2.2.2.2.1 s (by omega)
      obtain ⟨b1, b2, b3, ⟨m, m1, m2, m3⟩, b5⟩ := h.2.2.2.2.2.1 u (by omega)
      have hX : f_X11_move (nI s) p1 (nI u) p3 p4 σ = (if σ 102 s = 0 then ((f_X11_error (2 : Int32) σ).bind fun q8 => (some (q8.1, q8.2))) else (if σ 102 u = 0 then ((f_X11_error (2 : Int32) σ).bind fun q19 => (some (q19.1, q19.2))) else (if σ 102 s = σ 102 u then ((f_X5_hasSpan (84 + 2 * s) p1 p4 σ).bind fun q11 => (if q11 = 0 then ((f_X11_error (1 : Int32) σ).bind fun q13 => (some (q13.1, q13.2))) else ((f_X5_hasSpan (84 + 2 * u) p3 p4 σ).bind fun q14 => (if q14 = 0 then ((f_X11_error (1 : Int32) σ).bind fun q17 => (some (q17.1, q17.2))) else (if p1 < 0 ∨ p3 < 0 ∨ p4 < 0 ∨ 40 < (p1).toNatClampNeg + (p4).toNatClampNeg ∨ 40 < (p3).toNatClampNeg + (p4).toNatClampNeg then none else (some (p4, (mrow σ (84 + 2 * u + 1) (va_cpy (σ (84 + 2 * s + 1)) (σ (84 + 2 * u + 1)) (p1).toNatClampNeg (p3).toNatClampNeg (p4).toNatClampNeg))))))))) else ((f_X11_error (5 : Int32) σ).bind fun q18 => (some (q18.1, q18.2)))))) := by
        unfold f_X11_move
        rw [sheetAt_in (by omega), sheetAt_in (by omega)]
        simp only [Option.bind_some]
        rw [a1, b1]
      have hM : ∀ τ : Sg, τ 102 = σ 102 → τ 103 = σ 103 → f_X12_move (nI s) p1 (nI u) p3 p4 τ = (if σ 102 s = 0 then ((f_X12_finds (2 : Int32) τ).bind fun q14 => (some (q14.1, q14.2))) else (if σ 102 u = 0 then ((f_X12_finds (2 : Int32) τ).bind fun q33 => (some (q33.1, q33.2))) else (if σ 102 s = σ 102 u then (if p4 < 0 then ((f_X12_finds (1 : Int32) τ).bind fun q21 => (some (q21.1, q21.2))) else (if p1 < 0 then ((f_X12_finds (1 : Int32) τ).bind fun q23 => (some (q23.1, q23.2))) else (if p3 < 0 then ((f_X12_finds (1 : Int32) τ).bind fun q25 => (some (q25.1, q25.2))) else (if (nI n - p1) < p4 then ((f_X12_finds (1 : Int32) τ).bind fun q28 => (some (q28.1, q28.2))) else (if p4 ≤ (nI m - p3) then (c_X12_move_115 1000 (nI s) p1 (nI u) p3 p4 (0 : Int32) τ) else ((f_X12_finds (1 : Int32) τ).bind fun q31 => (some (q31.1, q31.2)))))))) else ((f_X12_finds (5 : Int32) τ).bind fun q32 => (some (q32.1, q32.2)))))) := by
        intro τ e1 e2
        unfold f_X12_move
        rw [isSheet_eq, isSheet_eq]
        simp only [Option.bind_some]
        rw [bI_1 c0, bI_1 c2]
        simp (disch := omega) only [gdI]
        simp (disch := omega) only [clI]
        rw [e1, e2, n3, m3]
      by_cases d0 : σ 102 s = 0
      · refine good_err h (k := 2) (by decide) ?_ (fun σ1 e => ?_)
        · rw [hX, if_pos d0]; rfl
        · rw [hM _ (e 102 (by decide)) (e 103 (by decide)), if_pos d0]; rfl
      · by_cases d1 : σ 102 u = 0
        · refine good_err h (k := 2) (by decide) ?_ (fun σ1 e => ?_)
          · rw [hX, if_neg d0, if_pos d1]; rfl
          · rw [hM _ (e 102 (by decide)) (e 103 (by decide)), if_neg d0, if_pos d1]; rfl
        · by_cases d2 : σ 102 s = σ 102 u
          · have en := nI_toInt (n := n) (by omega)
            have em := nI_toInt (n := m) (by omega)
            have e0 : (0 : Int32).toInt = 0 := rfl
            have r1 := irng p1
            have r3 := irng p3
            have r4 := irng p4
            by_cases d3 : (0 ≤ p1.toInt ∧ 0 ≤ p4.toInt ∧ p1.toInt + p4.toInt ≤ n) ∧ (0 ≤ p3.toInt ∧ 0 ≤ p4.toInt ∧ p3.toInt + p4.toInt ≤ m)
            · obtain ⟨i, i1, rfl, i3⟩ := nI_ofInt (x := p1) (n := n) (by omega) (by omega) (by omega)
              obtain ⟨p, pp1, rfl, pp3⟩ := nI_ofInt (x := p3) (n := m) (by omega) (by omega) (by omega)
              obtain ⟨l, l1, rfl, l3⟩ := nI_ofInt (x := p4) (n := n) (by omega) (by omega) (by omega)
              have il : i + l ≤ n := by omega
              have pl : p + l ≤ m := by omega
              have f1 : (nI n - nI i).toInt = n - i := by rw [isub (by omega) (by omega), en, i3]
              have f2 : (nI m - nI p).toInt = m - p := by rw [isub (by omega) (by omega), em, pp3]
              generalize hq : mrow σ (84 + 2 * u + 1) (va_cpy (σ (84 + 2 * s + 1)) (σ (84 + 2 * u + 1)) i p l) = σ1
              have q1 : ∀ r k, (r ≠ 84 + 2 * u + 1 ∨ k < p ∨ p + l ≤ k) → σ1 r k = σ r k := fun r k hr => by
                rw [← hq]
                unfold mrow va_cpy
                by_cases z : r = 84 + 2 * u + 1
                · subst z
                  rw [if_pos rfl, if_neg (by omega)]
                · rw [if_neg z]
              have q2 : ∀ k, p ≤ k → k < p + l → σ1 (84 + 2 * u + 1) k = σ (84 + 2 * s + 1) (i + (k - p)) := fun k x y => by
                rw [← hq]
                unfold mrow va_cpy
                rw [if_pos rfl, if_pos ⟨x, y⟩]
              obtain ⟨σ2, x1, x2, x3⟩ := lift_go (s := s) (i := i) (s2 := u) (p := p) (n := l) (by omega) (by omega) l 0 1000 σ1 (by omega) (by omega) (by omega)
              obtain ⟨σ3, y1, y2, y3⟩ := drop_go (s2 := u) (p := p) (n := l) (by omega) (by omega) l 0 1000 σ2 (by omega) (by omega) (by omega)
              refine ⟨nI l, σ1, σ3, ?_, ?_, ?_⟩
              · rw [hX, if_neg d0, if_neg d1, if_pos d2, hasSpan_eq (a2.trans n3) n2, hasSpan_eq (b2.trans m3) m2]
                simp only [Option.bind_some]
                rw [bI_1 d3.1, bI_1 d3.2, clI (by omega), clI (by omega), clI (by omega), hq, if_neg]
                intro z
                rcases z with z | z | z | z | z
                · exact nI_pos (by omega) z
                · exact nI_pos (by omega) z
                · exact nI_pos (by omega) z
                · omega
                · omega
              · rw [hM _ (rows_eq (fun k => q1 102 k (by omega))) (rows_eq (fun k => q1 103 k (by omega))), if_neg d0, if_neg d1, if_pos d2, if_neg (nI_pos (by omega)), if_neg (nI_pos (by omega)), if_neg (nI_pos (by omega)), if_neg (by rw [ilt, f1]; omega), if_pos (by rw [ile, f2]; omega)]
                exact x1.trans y1
              · refine h.sheet (s := u) (by omega) (fun r k x y z o v w => ?_) ⟨?_, ?_, ?_, ?_, fun j hj => ?_⟩
                · rw [y2 _ _ (by omega), x2 _ _ (by omega), q1 _ _ (by omega)]
                · rw [y2 _ _ (by omega), x2 _ _ (by omega), q1 _ _ (by omega), y2 _ _ (by omega), x2 _ _ (by omega), q1 _ _ (by omega)]; exact b1
                · rw [y2 _ _ (by omega), x2 _ _ (by omega), q1 _ _ (by omega), y2 _ _ (by omega), x2 _ _ (by omega), q1 _ _ (by omega)]; exact b2
                · rw [y2 _ _ (by omega), x2 _ _ (by omega), q1 _ _ (by omega)]; exact b3
                · rw [y2 _ _ (by omega), x2 _ _ (by omega), q1 _ _ (by omega)]; exact ⟨m, m1, m2, m3⟩
                · rw [y2 (84 + 2 * u + 1) _ (by omega), x2 (84 + 2 * u + 1) _ (by omega)]
                  by_cases z : p ≤ j ∧ j < p + l
                  · rw [q2 j z.1 z.2, show 40 * u + j = 40 * u + p + (j - p) by omega, y3 (j - p) (by omega) (by omega), x3 (j - p) (by omega) (by omega), q1 _ _ (by omega), show 40 * s + i + (j - p) = 40 * s + (i + (j - p)) by omega]
                    exact a5 _ (by omega)
                  · rw [q1 _ _ (by omega), y2 _ _ (by omega), x2 _ _ (by omega), q1 _ _ (by omega)]
                    exact b5 j hj
            · refine good_err h (k := 1) (by decide) ?_ (fun σ1 e => ?_)
              · rw [hX, if_neg d0, if_neg d1, if_pos d2, hasSpan_eq (a2.trans n3) n2, hasSpan_eq (b2.trans m3) m2]
                simp only [Option.bind_some]
                by_cases g : 0 ≤ p1.toInt ∧ 0 ≤ p4.toInt ∧ p1.toInt + p4.toInt ≤ n
                · rw [bI_1 g, bI_0 (fun z => d3 ⟨g, z⟩)]
                  rfl
                · rw [bI_0 g]
                  rfl
              · rw [hM _ (e 102 (by decide)) (e 103 (by decide)), if_neg d0, if_neg d1, if_pos d2]
                by_cases g1 : p4 < 0
                · rw [if_pos g1]; rfl
                · rw [if_neg g1]
                  by_cases g2 : p1 < 0
                  · rw [if_pos g2]; rfl
                  · rw [if_neg g2]
                    by_cases g3 : p3 < 0
                    · rw [if_pos g3]; rfl
                    · rw [if_neg g3]
                      by_cases g4 : nI n - p1 < p4
                      · rw [if_pos g4]; rfl
                      · rw [if_neg g4]
                        by_cases g5 : p4 ≤ nI m - p3
                        · exfalso
                          rw [ilt] at g1 g2 g3 g4
                          rw [ile] at g5
                          rw [isub (by omega) (by omega), en] at g4
                          rw [isub (by omega) (by omega), em] at g5
                          omega
                        · rw [if_neg g5]; rfl
          · refine good_err h (k := 5) (by decide) ?_ (fun σ1 e => ?_)
            · rw [hX, if_neg d0, if_neg d1, if_neg d2]; rfl
            · rw [hM _ (e 102 (by decide)) (e 103 (by decide)), if_neg d0, if_neg d1, if_neg d2]; rfl
    · refine good_err h (k := 1) (by decide) ?_ (fun σ1 e => ?_)
      · obtain ⟨s, hs, rfl⟩ := nI_getL (n := 3) (by decide) c0.1 c0.2
        unfold f_X11_move
        rw [sheetAt_in (by omega), sheetAt_out c2]
        rfl
      · unfold f_X12_move
        rw [isSheet_eq, isSheet_eq]
        simp only [Option.bind_some]
        rw [bI_1 c0, bI_0 c2]
        rfl
  · refine good_err h (k := 1) (by decide) ?_ (fun σ1 e => ?_)
    · unfold f_X11_move
      rw [sheetAt_out c0]
      by_cases c2 : 0 ≤ p2 ∧ p2 ≤ 3
      · obtain ⟨s, hs, rfl⟩ := nI_getL (n := 3) (by decide) c2.1 c2.2
        rw [sheetAt_in (by omega)]
        rfl
      · rw [sheetAt_out c2]
        rfl
    · unfold f_X12_move
      rw [isSheet_eq]
      simp only [Option.bind_some]
      rw [bI_0 c0]
      rfl
