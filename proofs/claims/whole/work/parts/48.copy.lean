theorem ex_of {A : Option Sg} {P : Sg → Prop} {s : Sg} (hA : A = some s) (hP : P s) : ∃ σ', A = some σ' ∧ P σ' := ⟨s, hA, hP⟩
def cp (σ : Sg) (r0 r1 n : Nat) : Sg := mrow σ r1 (va_cpy (σ r0) (σ r1) 0 0 n)
theorem cp_o {σ : Sg} {r0 r1 n r k : Nat} (h : r ≠ r1 ∨ n ≤ k) : cp σ r0 r1 n r k = σ r k := by
  unfold cp mrow va_cpy
  by_cases z : r = r1
  · subst z
    rw [if_pos rfl, if_neg (by omega)]
  · rw [if_neg z]
theorem cp_s {σ : Sg} {r0 r1 n r k : Nat} (h : r = r1 ∧ k < n) : cp σ r0 r1 n r k = σ r0 k := by
  unfold cp mrow va_cpy
  rw [if_pos h.1, if_pos (by omega), show 0 + (k - 0) = k by omega]
theorem mup_t {σ : Sg} {a j r k : Nat} {v : Int32} (h : r = a ∧ k = j) : mup σ a j v r k = v := by
  rw [mup_eq, if_pos h]
theorem copyRow_eq {r0 r1 n : Nat} (σ : Sg) (hn : n ≤ 1000) : f_X11_copyRow r0 n r1 n σ = some (cp σ r0 r1 n) := by
  unfold f_X11_copyRow cp
  have e : Int32.ofNat n = nI n := rfl
  have z0 : (0 : Int32).toNatClampNeg = 0 := rfl
  rw [e, ite_self, z0, clI (by omega), if_neg]
  intro h
  rcases h with h | h | h | h | h
  · exact absurd h (by decide)
  · exact absurd h (by decide)
  · exact nI_pos (by omega) h
  · omega
  · omega
theorem wcopy {a r0 x y z u : Nat} (σ : Sg) (hd : a + 12 < r0 ∨ r0 + 12 < a) : ∃ σ', f_X10_copyFrom a x y r0 z u σ = some σ' ∧ (∀ r k, r < a ∨ a + 12 < r → σ' r k = σ r k) ∧ ∀ D m, WOK D m → RW σ r0 D → RW σ' a D := by
  apply ex_of
  · unfold f_X10_copyFrom f_X9_copyFrom f_X7_copyFrom
    simp only [copyRow_eq _ (show 9 ≤ 1000 by omega), copyRow_eq _ (show 10 ≤ 1000 by omega), Option.bind_some]
    rfl
  · refine ⟨fun r k h => ?_, fun D m hD hR => ?_⟩
    · simp (disch := omega) only [cp_o, mup_o]
    · obtain ⟨h1, h2, h3, h4, h5⟩ := hR
      have b1 := hD.2.2.1
      have b2 := hD.2.2.2.2.1
      refine ⟨?_, ?_, ?_, fun w hw => ?_, fun t ht => ?_⟩
      · simp (disch := omega) only [cp_o, mup_o, cp_s, mup_t]; exact h1
      · simp (disch := omega) only [cp_o, mup_o, cp_s, mup_t]; exact h2
      · simp (disch := omega) only [cp_o, mup_o, cp_s, mup_t]; exact h3
      · have g := h4 w hw
        simp (disch := omega) only [cp_o, mup_o, cp_s, mup_t]; exact g
      · have g := h5 t ht
        simp (disch := omega) only [cp_o, mup_o, cp_s, mup_t]; exact g
theorem TR.copy {σ σ' : Sg} {c c' u : Nat} {D : Nat → Int32} (h : TR σ c D u) (h0 : σ' c' 2 = σ c 2) (h1 : ∀ i, i < 50 → σ' (c' + 1) i = σ (c + 1) i) : TR σ' c' D u := by
  unfold TR at *
  rw [h0]
  rcases h with z | z
  · exact Or.inl z
  · refine Or.inr ⟨z.1, z.2.1, fun A B C F => ?_⟩
    obtain ⟨v, v1, v2⟩ := z.2.2 A B C F
    exact ⟨v, fun a s hs hl => v1 a s (fun i hi => (hs i hi).trans (h1 i hi)) hl, v2⟩
theorem dcopy {a r0 : Nat} (σ : Sg) (hd : a + 14 < r0 ∨ r0 + 14 < a) : ∃ σ', f_X1_copyFrom a r0 σ = some σ' ∧ (∀ r k, r < a ∨ a + 14 < r ∨ r = a + 7 ∨ r = a + 10 → σ' r k = σ r k) ∧ ∀ D, DOK D → RD σ r0 D → RD σ' a D := by
  apply ex_of
  · unfold f_X1_copyFrom f_X2_copyFrom f_X6_copyFrom f_X4_copyFrom
    simp only [copyRow_eq _ (show 12 ≤ 1000 by omega), copyRow_eq _ (show 50 ≤ 1000 by omega), copyRow_eq _ (show 20 ≤ 1000 by omega), Option.bind_some]
    rfl
  · refine ⟨fun r k h => ?_, fun D hD hR => ?_⟩
    · simp (disch := omega) only [cp_o, mup_o]
    · obtain ⟨h1, h2, h3, h4, h5, h6, h7, h8, h9⟩ := hR
      obtain ⟨-, b1, -, -, b2, -, -, b3⟩ := hD
      refine ⟨?_, ?_, fun f hf => ?_, ?_, fun i hi => ?_, ?_, fun i hi => ?_, h8.copy ?_ (fun i hi => ?_), h9.copy ?_ (fun i hi => ?_)⟩
      · simp (disch := omega) only [cp_o, mup_o, cp_s, mup_t]; exact h1
      · simp (disch := omega) only [cp_o, mup_o, cp_s, mup_t]; exact h2
      · have g := h3 f hf
        simp (disch := omega) only [cp_o, mup_o, cp_s, mup_t]; exact g
      · simp (disch := omega) only [cp_o, mup_o, cp_s, mup_t]; exact h4
      · have g := h5 i hi
        simp (disch := omega) only [cp_o, mup_o, cp_s, mup_t]; exact g
      · simp (disch := omega) only [cp_o, mup_o, cp_s, mup_t]; exact h6
      · have g := h7 i hi
        simp (disch := omega) only [cp_o, mup_o, cp_s, mup_t]; exact g
      · simp (disch := omega) only [cp_o, mup_o, cp_s, mup_t]
      · simp (disch := omega) only [cp_o, mup_o, cp_s, mup_t]
      · simp (disch := omega) only [cp_o, mup_o, cp_s, mup_t]
      · simp (disch := omega) only [cp_o, mup_o, cp_s, mup_t]
theorem mcopy_go {r0 r1 : Nat} (h : r0 ≠ r1) : ∀ j i m σ, 320 - i = j → j < m → i ≤ 320 → ∃ σ', c_X12_copies_2 r0 r1 m (nI i) σ = some σ' ∧ (∀ r k, (r ≠ r1 ∨ k < i ∨ 320 ≤ k) → σ' r k = σ r k) ∧ ∀ k, i ≤ k → k < 320 → σ' r1 k = σ r0 k := by
  intro j
  induction j with
  | zero =>
    intro i m σ hj hm hi
    obtain ⟨m, rfl⟩ : ∃ k, m = k + 1 := ⟨m - 1, by omega⟩
    refine ⟨σ, ?_, fun _ _ _ => rfl, fun k a b => by omega⟩
    unfold c_X12_copies_2
    rw [show (320 : Int32) = nI 320 from rfl, if_pos (nI_le (by omega) (by omega))]
  | succ j ih =>
    intro i m σ hj hm hi
    obtain ⟨m, rfl⟩ : ∃ k, m = k + 1 := ⟨m - 1, by omega⟩
    obtain ⟨σ', s1, s2, s3⟩ := ih (i + 1) m (mup σ r1 i (σ r0 i)) (by omega) (by omega) (by omega)
    refine ⟨σ', ?_, fun r k hr => ?_, fun k a b => ?_⟩
    · unfold c_X12_copies_2
      rw [show (320 : Int32) = nI 320 from rfl, if_neg (nI_ge (by omega) (by omega)), gdI (by omega) (by omega), gdI (by omega) (by omega), clI (by omega), nIp1]
      exact s1
    · rw [s2 r k (by omega), mup_o (by omega)]
    · by_cases z : k = i
      · subst z
        rw [s2 r1 k (by omega), mup_s]
      · rw [s3 k (by omega) b, mup_o (by omega)]
theorem mcopy {r0 r1 : Nat} (h : r0 ≠ r1) (σ : Sg) : ∃ σ', f_X12_copies r0 r1 σ = some σ' ∧ (∀ r k, (r ≠ r1 ∨ 320 ≤ k) → σ' r k = σ r k) ∧ ∀ k, k < 320 → σ' r1 k = σ r0 k := by
  obtain ⟨σ', a, b, c⟩ := mcopy_go h 320 0 1000 σ (by omega) (by omega) (by omega)
  exact ⟨σ', a, fun r k hr => b r k (by omega), fun k hk => c k (by omega) hk⟩
theorem eq_image {xs : Nat → Int32} {σ : Sg} (h : Inv xs σ) : Good xs (f_X11_image σ) f_X12_image := by
  obtain ⟨h1, h2, h3, h4⟩ := h.1
  obtain ⟨s1, x1, e1, k1⟩ := wcopy (a := 57) (r0 := 31) (x := 21) (y := 24) (z := 6) (u := 9) σ (by omega)
  obtain ⟨s2, x2, e2, k2⟩ := dcopy (a := 16) (r0 := 1) s1 (by omega)
  generalize hs3 : mup s2 0 10 (s2 0 10 + 1) = s3
  obtain ⟨s4, x4, e4, k4⟩ := mcopy (r0 := 94) (r1 := 96) (by omega) s3
  have e3 : ∀ r k, r ≠ 0 ∨ k ≠ 10 → s3 r k = s2 r k := fun r k a => by rw [← hs3, mup_o (by omega)]
  have v0 : s2 0 10 = σ 0 10 := by rw [e2 _ _ (by omega), e1 _ _ (by omega)]
  have v3 : s4 93 3 = σ 93 3 := by rw [e4 _ _ (by omega), e3 _ _ (by omega), e2 _ _ (by omega), e1 _ _ (by omega)]
  have v1 : s3 0 10 = σ 0 10 + 1 := by rw [← hs3, mup_s, v0]
  have h6 : σ 0 10 = σ 93 3 := h.2.2.1
  apply Good.mk
  · unfold f_X11_image
    rw [x1]
    simp only [Option.bind_some]
    rw [x2]
    simp only [Option.bind_some]
    rw [hs3]
  · unfold f_X12_image
    rw [x4]
    simp only [Option.bind_some]
    rw [mup_s, v3, ← h6, v1]
  · skip
    generalize hs5 : mup s4 93 3 (σ 0 10 + 1) = s5
    have e5 : ∀ r k, r ≠ 93 ∨ k ≠ 3 → s5 r k = s4 r k := fun r k a => by rw [← hs5, mup_o (by omega)]
    have eA : ∀ r k, ¬ (16 ≤ r ∧ r ≤ 30 ∧ r ≠ 23 ∧ r ≠ 26) → ¬ (57 ≤ r ∧ r ≤ 69) → (r ≠ 96 ∨ 320 ≤ k) → (r ≠ 93 ∨ k ≠ 3) → (r ≠ 0 ∨ k ≠ 10) → s5 r k = σ r k := fun r k a b c d f => by
      rw [e5 r k d, e4 r k c, e3 r k f, e2 r k (by omega), e1 r k (by omega)]
    have eR : ∀ r, ¬ (16 ≤ r ∧ r ≤ 30 ∧ r ≠ 23 ∧ r ≠ 26) → ¬ (57 ≤ r ∧ r ≤ 69) → r ≠ 96 → r ≠ 93 → r ≠ 0 → s5 r = σ r := fun r a b c d f => rows_eq (fun k => eA r k a b (by omega) (by omega) (by omega))
    have e94 : s5 94 = σ 94 := eR 94 (by omega) (by omega) (by omega) (by omega) (by omega)
    have e96 : ∀ j, j < 320 → s5 96 j = σ 94 j := fun j hj => by
      rw [e5 _ _ (by omega), k4 j hj, e3 _ _ (by omega), e2 _ _ (by omega), e1 _ _ (by omega)]
    obtain ⟨q1, q2, q3, q4, q5, q6, q7, q8, q9⟩ := h
    have d23 : σ 94 = s1 94 := (rows_eq (fun k => e1 94 k (by omega))).symm
    refine ⟨?_, fun k hk => ?_, ?_, Or.inr ⟨?_, ?_, ?_, ?_⟩, ?_, fun s hs => (q6 s hs).frame hs (fun r hr => eR r (by omega) (by omega) (by omega) (by omega) (by omega)), ?_, ?_, ?_⟩
    · rw [e94]
      exact ⟨h1, h2, h3.frame (fun r _ _ => eR r (by omega) (by omega) (by omega) (by omega) (by omega)), h4.frame (fun r _ _ _ _ => eR r (by omega) (by omega) (by omega) (by omega) (by omega))⟩
    · rw [eR 92 (by omega) (by omega) (by omega) (by omega) (by omega), eR 97 (by omega) (by omega) (by omega) (by omega) (by omega)]
      exact q2 k hk
    · rw [e5 _ _ (by omega), e4 _ _ (by omega), v1, ← hs5, mup_s]
    · exact h1.cong (fun j hj => e96 j (by omega))
    · exact h2.cong (fun j hj => e96 j (by omega)) (by rw [wN_cong (e96 1 (by omega))]; exact Nat.le_refl _)
    · refine RW.cong ?_ h1 (fun j hj => e96 j (by omega))
      refine RW.frame (k1 _ _ h1 h3) (fun r _ _ => rows_eq (fun k => ?_))
      rw [e5 _ _ (by omega), e4 _ _ (by omega), e3 _ _ (by omega), e2 _ _ (by omega)]
    · refine RD.cong ?_ h2 (fun j hj => e96 j (by omega))
      refine RD.frame (k2 _ h2 (h4.frame (fun r _ _ _ _ => rows_eq (fun k => e1 r k (by omega))))) (fun r _ _ _ _ => rows_eq (fun k => ?_))
      rw [e5 _ _ (by omega), e4 _ _ (by omega), e3 _ _ (by omega)]
    · obtain ⟨z1, z2, z3⟩ := q5
      rw [eA 93 15 (by omega) (by omega) (by omega) (by omega) (by omega), eR 81 (by omega) (by omega) (by omega) (by omega) (by omega), eR 82 (by omega) (by omega) (by omega) (by omega) (by omega), eR 101 (by omega) (by omega) (by omega) (by omega) (by omega)]
      exact ⟨z1, z2, z3⟩
    · rw [eR _ (by omega) (by omega) (by omega) (by omega) (by omega)]; exact q7
    · rw [eR _ (by omega) (by omega) (by omega) (by omega) (by omega)]; exact q8
    · rw [eR _ (by omega) (by omega) (by omega) (by omega) (by omega)]; exact q9
theorem eq_restore {xs : Nat → Int32} {σ : Sg} (h : Inv xs σ) : Good xs (f_X11_restore σ) f_X12_restore := by
  have h6 : σ 0 10 = σ 93 3 := h.2.2.1
  by_cases c : σ 93 3 = 0
  · refine good_err h (k := 2) (by decide) ?_ (fun σ1 e => ?_)
    · unfold f_X11_restore
      rw [h6, if_pos c]
      rfl
    · unfold f_X12_restore
      rw [e 93 (by decide), if_pos c]
      rfl
  · obtain ⟨h1, h2, h3, h4⟩ := h.2.2.2.1.resolve_left c
    obtain ⟨s1, x1, e1, k1⟩ := wcopy (a := 31) (r0 := 57) (x := 6) (y := 9) (z := 21) (u := 24) σ (by omega)
    obtain ⟨s2, x2, e2, k2⟩ := dcopy (a := 1) (r0 := 16) s1 (by omega)
    obtain ⟨s4, x4, e4, k4⟩ := mcopy (r0 := 96) (r1 := 94) (by omega) s2
    have e94 : ∀ j, j < 320 → s4 94 j = σ 96 j := fun j hj => by
      rw [k4 j hj, e2 _ _ (by omega), e1 _ _ (by omega)]
    have hRW : RW s4 31 (s4 94) := by
      refine RW.cong ?_ h1 (fun j hj => e94 j (by omega))
      refine RW.frame (k1 _ _ h1 h3) (fun r _ _ => rows_eq (fun k => ?_))
      rw [e4 _ _ (by omega), e2 _ _ (by omega)]
    have e31 : s2 31 4 = s4 94 0 := by rw [← hRW.1, e4 _ _ (by omega)]
    refine ⟨s2 31 4, s2, s4, ?_, ?_, ?_⟩
    · unfold f_X11_restore
      rw [h6, if_neg c, x1]
      simp only [Option.bind_some]
      rw [x2]
      rfl
    · unfold f_X12_restore
      rw [show s2 93 3 = σ 93 3 by rw [e2 _ _ (by omega), e1 _ _ (by omega)], if_neg c, x4, e31]
      rfl
    · have eR : ∀ r, Keep r ∨ r = 93 → s4 r = σ r := fun r hr => rows_eq (fun k => by
        unfold Keep at hr
        rw [e4 _ _ (by omega), e2 _ _ (by omega), e1 _ _ (by omega)])
      refine h.again ⟨h1.cong (fun j hj => e94 j (by omega)), h2.cong (fun j hj => e94 j (by omega)) (by rw [wN_cong (e94 1 (by omega))]; exact Nat.le_refl _), hRW, ?_⟩ (fun r hr => eR r (Or.inl hr)) (by rw [eR 93 (Or.inr rfl)]) (by rw [eR 93 (Or.inr rfl)])
      refine RD.cong ?_ h2 (fun j hj => e94 j (by omega))
      refine RD.frame (k2 _ h2 (h4.frame (fun r _ _ _ _ => rows_eq (fun k => e1 r k (by omega))))) (fun r _ _ _ _ => rows_eq (fun k => ?_))
      rw [e4 _ _ (by omega)]
