theorem up0 (k k' : Nat) (h : f_X12_above (nI k) (fun _ _ => 0) = some (nI k')) (h0 : ¬ nI k = (0 : Int32)) (h2 : ¬ nI k = (2 : Int32)) (h6 : ¬ nI k = (6 : Int32)) : ∀ f x σ, mAc 0 (f + 1) (nI k) x σ = (mAc 0 f (nI k') x σ).bind fun q => some (q.1, q.2) := fun f x σ => by
  show f_X12_sinks (f + 1) (nI k) x σ = (f_X12_sinks f (nI k') x σ).bind fun q => some (q.1, q.2)
  have h' : f_X12_above (nI k) σ = some (nI k') := h
  rw [f_X12_sinks_s]
  unfold b_X12_sinks
  rw [if_neg h0, if_neg h2, if_neg h6, h', Option.bind_some]
theorem up2 (k k' : Nat) (h : f_X12_above (nI k) (fun _ _ => 0) = some (nI k')) (h0 : ¬ nI k = (0 : Int32)) (h3 : ¬ nI k = (3 : Int32)) : ∀ f x σ, mAc 2 (f + 1) (nI k) x σ = (mAc 2 f (nI k') x σ).bind fun q => some (q.1, q.2) := fun f x σ => by
  show f_X12_waitsFor (f + 1) (nI k) x σ = (f_X12_waitsFor f (nI k') x σ).bind fun q => some (q.1, q.2)
  have h' : f_X12_above (nI k) σ = some (nI k') := h
  rw [f_X12_waitsFor_s]
  unfold b_X12_waitsFor
  rw [if_neg h0, if_neg h3, h', Option.bind_some]
theorem up1 (k k' : Nat) (h : f_X12_above (nI k) (fun _ _ => 0) = some (nI k')) (h0 : ¬ nI k = (0 : Int32)) (h1 : ¬ nI k = (1 : Int32)) (h4 : ¬ nI k = (4 : Int32)) : ∀ f x σ, mAc 1 (f + 1) (nI k) x σ = (mAc 1 f (nI k') x σ).bind fun q => some (q.1, q.2) := fun f x σ => by
  show f_X12_goes (f + 1) (nI k) x σ = (f_X12_goes f (nI k') x σ).bind fun q => some (q.1, q.2)
  have h' : f_X12_above (nI k) σ = some (nI k') := h
  rw [f_X12_goes_s]
  unfold b_X12_goes
  rw [if_neg h0, if_neg h1, if_neg h4, h', Option.bind_some]
  simp only [ite_self]
theorem up3 (k k' : Nat) (h : f_X12_above (nI k) (fun _ _ => 0) = some (nI k')) (h0 : ¬ nI k = (0 : Int32)) (h5 : ¬ nI k = (5 : Int32)) (h6 : ¬ nI k = (6 : Int32)) : ∀ f x σ, mAc 3 (f + 1) (nI k) x σ = (mAc 3 f (nI k') x σ).bind fun q => some (q.1, q.2) := fun f x σ => by
  show f_X12_tells (f + 1) (nI k) x σ = (f_X12_tells f (nI k') x σ).bind fun q => some (q.1, q.2)
  have h' : f_X12_above (nI k) σ = some (nI k') := h
  rw [f_X12_tells_s]
  unfold b_X12_tells
  rw [if_neg h0, if_neg h5, if_neg h6, h', Option.bind_some]
theorem sy0 (K t : Nat) (mm : Int32) (ht : t < 10) : ∀ k, k < 7 → Sy K t mm k 0 3 3 2 := fun k hk => by
  have s0 := b10 K t mm ht
  have s2 := b30 K t mm ht s0
  have s6 := b70 K t mm ht s2
  have s1 := s0.up (k := 1) (by decide) (by decide) (by decide) (by decide) (up0 1 0 rfl (by decide) (by decide) (by decide))
  have s3 := s0.up (k := 3) (by decide) (by decide) (by decide) (by decide) (up0 3 0 rfl (by decide) (by decide) (by decide))
  have s5 := s0.up (k := 5) (by decide) (by decide) (by decide) (by decide) (up0 5 0 rfl (by decide) (by decide) (by decide))
  have s4 := s1.up (k := 4) (by decide) (by decide) (by decide) (by decide) (up0 4 1 rfl (by decide) (by decide) (by decide))
  obtain rfl | rfl | rfl | rfl | rfl | rfl | rfl : k = 0 ∨ k = 1 ∨ k = 2 ∨ k = 3 ∨ k = 4 ∨ k = 5 ∨ k = 6 := by omega
  · exact s0.mono (by omega) (by omega) (by omega)
  · exact s1.mono (by omega) (by omega) (by omega)
  · exact s2.mono (by omega) (by omega) (by omega)
  · exact s3.mono (by omega) (by omega) (by omega)
  · exact s4.mono (by omega) (by omega) (by omega)
  · exact s5.mono (by omega) (by omega) (by omega)
  · exact s6.mono (by omega) (by omega) (by omega)
theorem sy2 (K t : Nat) (mm : Int32) (ht : t < 10) : ∀ k, k < 7 → Sy K t mm k 2 2 2 2 := fun k hk => by
  have s0 := b12 K t mm ht
  have s3 := b40 K t mm ht s0
  have s1 := s0.up (k := 1) (by decide) (by decide) (by decide) (by decide) (up2 1 0 rfl (by decide) (by decide))
  have s2 := s0.up (k := 2) (by decide) (by decide) (by decide) (by decide) (up2 2 0 rfl (by decide) (by decide))
  have s5 := s0.up (k := 5) (by decide) (by decide) (by decide) (by decide) (up2 5 0 rfl (by decide) (by decide))
  have s4 := s1.up (k := 4) (by decide) (by decide) (by decide) (by decide) (up2 4 1 rfl (by decide) (by decide))
  have s6 := s2.up (k := 6) (by decide) (by decide) (by decide) (by decide) (up2 6 2 rfl (by decide) (by decide))
  obtain rfl | rfl | rfl | rfl | rfl | rfl | rfl : k = 0 ∨ k = 1 ∨ k = 2 ∨ k = 3 ∨ k = 4 ∨ k = 5 ∨ k = 6 := by omega
  · exact s0.mono (by omega) (by omega) (by omega)
  · exact s1.mono (by omega) (by omega) (by omega)
  · exact s2.mono (by omega) (by omega) (by omega)
  · exact s3.mono (by omega) (by omega) (by omega)
  · exact s4.mono (by omega) (by omega) (by omega)
  · exact s5.mono (by omega) (by omega) (by omega)
  · exact s6.mono (by omega) (by omega) (by omega)
theorem sy1 (K t : Nat) (mm : Int32) (ht : t < 10) (hK : K < 7) : ∀ k, k < 7 → Sy K t mm k 1 8 9 2 := fun k hk => by
  have sK := sy0 K t mm ht K hK
  have wK := sy2 K t mm ht K hK
  have s0 := b11 K t mm ht sK (by omega)
  have s1 := b20 K t mm ht s0 wK (by omega)
  have s4 := b50 K t mm ht s1
  have s2 := s0.up (k := 2) (by decide) (by decide) (by decide) (by decide) (up1 2 0 rfl (by decide) (by decide) (by decide))
  have s3 := s0.up (k := 3) (by decide) (by decide) (by decide) (by decide) (up1 3 0 rfl (by decide) (by decide) (by decide))
  have s5 := s0.up (k := 5) (by decide) (by decide) (by decide) (by decide) (up1 5 0 rfl (by decide) (by decide) (by decide))
  have s6 := s2.up (k := 6) (by decide) (by decide) (by decide) (by decide) (up1 6 2 rfl (by decide) (by decide) (by decide))
  obtain rfl | rfl | rfl | rfl | rfl | rfl | rfl : k = 0 ∨ k = 1 ∨ k = 2 ∨ k = 3 ∨ k = 4 ∨ k = 5 ∨ k = 6 := by omega
  · exact s0.mono (by omega) (by omega) (by omega)
  · exact s1.mono (by omega) (by omega) (by omega)
  · exact s2.mono (by omega) (by omega) (by omega)
  · exact s3.mono (by omega) (by omega) (by omega)
  · exact s4.mono (by omega) (by omega) (by omega)
  · exact s5.mono (by omega) (by omega) (by omega)
  · exact s6.mono (by omega) (by omega) (by omega)
theorem sy3 (K t : Nat) (mm : Int32) (ht : t < 10) (hK : K < 7) : ∀ k, k < 7 → Sy K t mm k 3 20 30 4 := fun k hk => by
  have sK := sy0 K t mm ht K hK
  have wK := sy2 K t mm ht K hK
  have gK := sy1 K t mm ht hK K hK
  have s0 := b13 K t mm ht gK wK (by omega) (by omega)
  have s5 := b60 K t mm ht s0 sK (by omega)
  have s1 := s0.up (k := 1) (by decide) (by decide) (by decide) (by decide) (up3 1 0 rfl (by decide) (by decide) (by decide))
  have s2 := s0.up (k := 2) (by decide) (by decide) (by decide) (by decide) (up3 2 0 rfl (by decide) (by decide) (by decide))
  have s3 := s0.up (k := 3) (by decide) (by decide) (by decide) (by decide) (up3 3 0 rfl (by decide) (by decide) (by decide))
  have s4 := s1.up (k := 4) (by decide) (by decide) (by decide) (by decide) (up3 4 1 rfl (by decide) (by decide) (by decide))
  have s6 := b71 K t mm ht gK s2 (by omega)
  obtain rfl | rfl | rfl | rfl | rfl | rfl | rfl : k = 0 ∨ k = 1 ∨ k = 2 ∨ k = 3 ∨ k = 4 ∨ k = 5 ∨ k = 6 := by omega
  · exact s0.mono (by omega) (by omega) (by omega)
  · exact s1.mono (by omega) (by omega) (by omega)
  · exact s2.mono (by omega) (by omega) (by omega)
  · exact s3.mono (by omega) (by omega) (by omega)
  · exact s4.mono (by omega) (by omega) (by omega)
  · exact s5.mono (by omega) (by omega) (by omega)
  · exact s6.mono (by omega) (by omega) (by omega)
theorem sy_all (K t : Nat) (mm : Int32) (ht : t < 10) (hK : K < 7) (a : Nat) (ha : a < 4) : Sy K t mm K a 20 30 4 := by
  obtain rfl | rfl | rfl | rfl : a = 0 ∨ a = 1 ∨ a = 2 ∨ a = 3 := by omega
  · exact (sy0 K t mm ht K hK).mono (by omega) (by omega) (by omega)
  · exact (sy1 K t mm ht hK K hK).mono (by omega) (by omega) (by omega)
  · exact (sy2 K t mm ht K hK).mono (by omega) (by omega) (by omega)
  · exact (sy3 K t mm ht hK K hK).mono (by omega) (by omega) (by omega)
theorem Inv.voices {xs : Nat → Int32} {σ σ2 : Sg} (h : Inv xs σ) (e : ∀ r k, r ≠ 81 → r ≠ 82 → (r ≠ 93 ∨ (k ≠ 15 ∧ k ≠ 16)) → r ≠ 101 → σ2 r k = σ r k) {n : Nat} (hn : n ≤ 40) (h1 : σ2 81 1 = nI n) (h2 : σ2 93 15 = nI n) (h3 : ∀ i, i < n → σ2 82 i = σ2 101 i) : Inv xs σ2 := by
  obtain ⟨⟨a1, a2, a3, a4⟩, h5, h6, h7, -, h9, h10, h11, h12⟩ := h
  have eR : ∀ r, r ≠ 81 → r ≠ 82 → r ≠ 93 → r ≠ 101 → σ2 r = σ r := fun r a b c d => rows_eq (fun k => e r k a b (Or.inl c) d)
  have e94 := eR 94 (by decide) (by decide) (by decide) (by decide)
  have e96 := eR 96 (by decide) (by decide) (by decide) (by decide)
  have e3 : σ2 93 3 = σ 93 3 := e 93 3 (by decide) (by decide) (by omega) (by decide)
  unfold Inv
  rw [e94, e96, e3, h1, h2, eR 0 (by decide) (by decide) (by decide) (by decide), eR 1000000 (by decide) (by decide) (by decide) (by decide), eR 1000001 (by decide) (by decide) (by decide) (by decide), eR 1000002 (by decide) (by decide) (by decide) (by decide)]
  refine ⟨⟨a1, a2, a3.frame (fun r _ _ => eR r (by omega) (by omega) (by omega) (by omega)), a4.frame (fun r _ _ _ _ => eR r (by omega) (by omega) (by omega) (by omega))⟩, fun k hk => ?_, h6, ?_, ⟨⟨n, by omega, hn, rfl⟩, rfl, fun i hi hi2 => h3 i ?_⟩, fun s hs => (h9 s hs).frame hs (fun r hr => eR r (by omega) (by omega) (by omega) (by omega)), h10, h11, h12⟩
  · rw [eR 92 (by decide) (by decide) (by decide) (by decide), eR 97 (by decide) (by decide) (by decide) (by decide)]
    exact h5 k hk
  · rcases h7 with z | ⟨b1, b2, b3, b4⟩
    · exact Or.inl z
    · exact Or.inr ⟨b1, b2, b3.frame (fun r _ _ => eR r (by omega) (by omega) (by omega) (by omega)), b4.frame (fun r _ _ _ _ => eR r (by omega) (by omega) (by omega) (by omega))⟩
  · rw [nI_lt_iff (by omega) (by omega)] at hi
    exact hi
theorem eq_voice {xs : Nat → Int32} {σ : Sg} (h : Inv xs σ) (p0 p1 p2 : Int32) : Good xs (f_X11_voice p0 p1 p2 σ) (f_X12_voice p0 p1 p2) := by
  obtain ⟨w1, w2, w3, t1, t2, t3⟩ := h.base
  obtain ⟨h1, h2, h3, h4⟩ := h.1
  by_cases c1 : 0 ≤ p0 ∧ p0 < nI (tN (σ 94))
  · by_cases c2 : 0 ≤ p1 ∧ p1 ≤ 3
    · obtain ⟨t, ht, rfl⟩ := nI_get (by omega) c1.1 c1.2
      obtain ⟨a, ha0, ha, rfl⟩ := Sm_of (lo := 0) (hi := 3) (by decide) (by decide) c2.1 c2.2
      obtain ⟨r0, r1, -⟩ := h3.2.2.2.2 t ht
      obtain ⟨⟨K, K0, hK, eK⟩, -⟩ := h1.2.2.2.2.2.2 t ht
      obtain ⟨v, ns, ln, vx, vm⟩ := sy_all K t (σ 94 (46 + 6 * t + 1)) (by omega) (by omega) a (by omega)
      generalize hs : mup (mup (mup (mup σ 81 2 (nI K)) 81 3 (nI t)) 81 4 (σ 94 (46 + 6 * t + 1))) 81 1 0 = s
      have o1 : ∀ r, r ≠ 81 → s r = σ r := fun r hr => by rw [← hs, mup_ne hr, mup_ne hr, mup_ne hr, mup_ne hr]
      have hV : VX K t (σ 94 (46 + 6 * t + 1)) s 0 := by
        refine ⟨?_, ?_, ?_, ?_, by rw [o1 _ (by decide)]; exact h.2.2.2.2.2.2.2.1, by rw [o1 _ (by decide)]; exact h.2.2.2.2.2.2.2.2⟩
        · rw [← hs]; simp (disch := omega) only [mup_o, mup_s]
        · rw [← hs]; simp (disch := omega) only [mup_o, mup_s]
        · rw [← hs]; simp (disch := omega) only [mup_o, mup_s]
        · rw [← hs]; simp (disch := omega) only [mup_s]; rfl
      obtain ⟨σ1, e1, e2, e3, -, e5⟩ := vx p2 s 0 0 64 hV (by omega) (by omega) (by omega)
      have e94 : ∀ k, σ1 94 k = σ 94 k := fun k => by rw [e2 94 k (by decide) (by omega), o1 94 (by decide)]
      generalize hq : mup (mup σ1 93 15 0) 93 16 (nI t) = s2
      have o2 : ∀ r k, (r ≠ 93 ∨ (k ≠ 15 ∧ k ≠ 16)) → s2 r k = σ1 r k := fun r k hr => by rw [← hq, mup_o (by omega), mup_o (by omega)]
      have hM : VM K t (σ 94 (46 + 6 * t + 1)) s2 0 := by
        refine ⟨by rw [← hq, mup_s], by rw [← hq, mup_o (by omega), mup_s]; rfl, ?_, ?_⟩
        · rw [o2 94 _ (by omega), e94]; exact eK
        · rw [o2 94 _ (by omega), e94]
      obtain ⟨σ2, g1, g2, g3, -, g5⟩ := vm p2 s2 0 64 hM (by omega) (by omega)
      rw [Nat.zero_add] at e3 g3
      refine ⟨v p2, σ1, σ2, ?_, ?_, h.voices (n := ns.length) (fun r k x1 x2 x3 x4 => ?_) (by omega) ?_ g3 (fun i hi => ?_)⟩
      · unfold f_X11_voice f_X8_begin
        have q1 : σ 38 t = nI K := r0.trans eK
        have q2 : σ 39 t = σ 94 (46 + 6 * t + 1) := r1
        rw [thas_n t1, Option.bind_some, bI_1 c1, within_eq, Option.bind_some, bI_1 c2, pick_at (by omega) (by omega), Option.bind_some, pick_at (by omega) (by omega), Option.bind_some, q1, q2, hs, hV.1]
        refine Eq.trans (congrArg (fun o => Option.bind (Option.bind o _) _) e1) ?_
        rfl
      · have ik : f_X12_itsKind (nI t) s2 = some (nI K) := by
          have := itsK hM (by omega)
          rw [hM.1] at this
          exact this
        unfold f_X12_voice
        rw [isThing_n (by rw [e94]; exact t2) (by omega), Option.bind_some, bI_1 c1, isIn_eq, Option.bind_some, bI_1 c2, hq, ik, Option.bind_some]
        obtain rfl | rfl | rfl | rfl : a = 0 ∨ a = 1 ∨ a = 2 ∨ a = 3 := by omega
        · have g1' : f_X12_sinks 64 (nI K) p2 s2 = some (v p2, σ2) := g1
          rw [if_pos (show nI 0 = (0 : Int32) from rfl), g1', Option.bind_some]
        · have g1' : f_X12_goes 64 (nI K) p2 s2 = some (v p2, σ2) := g1
          rw [if_neg (by decide), if_pos (show nI 1 = (1 : Int32) from rfl), g1', Option.bind_some]
        · have g1' : f_X12_waitsFor 64 (nI K) p2 s2 = some (v p2, σ2) := g1
          rw [if_neg (by decide), if_neg (by decide), if_pos (show nI 2 = (2 : Int32) from rfl), g1', Option.bind_some]
        · have g1' : f_X12_tells 64 (nI K) p2 s2 = some (v p2, σ2) := g1
          rw [if_neg (by decide), if_neg (by decide), if_neg (by decide), g1', Option.bind_some]
      · rw [g2 r k x4 (by omega), o2 r k x3, e2 r k x2 (by omega), o1 r x1]
      · rw [g2 81 1 (by decide) (by omega), o2 81 1 (by omega), e3]
      · have a5 := e5 i hi
        have b5 := g5 i hi
        rw [Nat.zero_add] at a5 b5
        rw [g2 82 i (by decide) (by omega), o2 82 i (by omega), a5, b5]
    · refine good_err h (k := 1) (by decide) ?_ (fun σ1 e => ?_)
      · unfold f_X11_voice
        rw [thas_n t1, Option.bind_some, bI_1 c1, within_eq, Option.bind_some, bI_0 c2]
        rfl
      · unfold f_X12_voice
        rw [isThing_n (by rw [e 94 (by decide)]; exact t2) (by omega), Option.bind_some, bI_1 c1, isIn_eq, Option.bind_some, bI_0 c2]
        rfl
  · refine good_err h (k := 1) (by decide) ?_ (fun σ1 e => ?_)
    · unfold f_X11_voice
      rw [thas_n t1, Option.bind_some, bI_0 c1]
      rfl
    · unfold f_X12_voice
      rw [isThing_n (by rw [e 94 (by decide)]; exact t2) (by omega), Option.bind_some, bI_0 c1]
      rfl
