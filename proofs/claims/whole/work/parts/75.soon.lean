theorem xsum_yes {σ : Sg} {a n c s t K : Nat} {T : Nat → Int32} {dd w : Nat → Nat} {x4 : Int32} (hg : GM n T dd) (hn : n ≤ 9) (hc : σ a 4 = nI n) (hr : ∀ w, w < n → σ (a + 1) w = T w) (hs : s < n) (ht : t < n) (hcc : c ≤ 99) (hw : ∀ u, u < n → w u ≤ 99) (hx : ∀ u v, u < n → v < n → T u = nI v → (x4 = 0 → σ (a + 2) u = nI (w u)) ∧ (x4 ≠ 0 → σ (a + 3) v = nI (w u))) (h : Fst n T s t K) : ∀ j i m, K - i = j → i ≤ K → j < m → c_X9_leastSum_16 a σ m (nI t) (nI c) x4 (nI (itr n T i s)) (nI (sw n T w s i)) (nI i) = some (nI (if c < sw n T w s K then c else sw n T w s K)) := by
  have hK := Fst_lt hg hn hs ht h
  have hin := Fst_in hg hn hs ht h
  intro j
  induction j with
  | zero =>
    intro i m hj hi hm
    obtain ⟨m, rfl⟩ : ∃ k, m = k + 1 := ⟨m - 1, by omega⟩
    have e : i = K := by omega
    subst e
    have b := sw_b (T := T) (s := s) hw i (fun k hk => hin k (by omega))
    rw [c_X9_leastSum_16, hc, if_neg (nI_ge (by omega) (by omega)), h.1, if_pos rfl]
    unfold c_X9_leastSum_82
    rw [if_pos rfl]
    simp (disch := omega) only [nI_lt_iff]
    split <;> rfl
  | succ j ih =>
    intro i m hj hi hm
    obtain ⟨m, rfl⟩ : ∃ k, m = k + 1 := ⟨m - 1, by omega⟩
    have a1 := hin i (by omega)
    have a2 := hin (i + 1) (by omega)
    have ne := h.2 i (by omega)
    have e2 : T (itr n T i s) = nI (itr n T (i + 1) s) := by
      rw [← pI_nxt hg hn a1]
      show pI n (itr n T (i + 1) s) = _
      unfold pI; rw [if_pos a2]
    obtain ⟨y1, y2⟩ := hx _ _ a1 a2 e2
    have hl := leadsTo_at hc a1 hn
    rw [hr _ a1, e2] at hl
    have es : nI (sw n T w s i) + nI (w (itr n T i s)) = nI (sw n T w s (i + 1)) := nIa _ _
    rw [c_X9_leastSum_16, hc, if_neg (nI_ge (by omega) (by omega)), if_neg (by rw [nI_eq_iff (by omega) (by omega)]; exact ne), if_neg (nI_pos (by omega)), hl, Option.bind_some]
    unfold c_X9_leastSum_69
    by_cases y : x4 = 0
    · rw [if_pos y, daysOf_at (by omega), Option.bind_some, y1 y, es, nIp1]
      exact ih (i + 1) m (by omega) (by omega) (by omega)
    · rw [if_neg y, pick_at (by omega) (by omega), Option.bind_some, y2 y, es, nIp1]
      exact ih (i + 1) m (by omega) (by omega) (by omega)
theorem xsum_no {σ : Sg} {a n s t : Nat} {c : Int32} {T : Nat → Int32} {dd : Nat → Nat} {x4 : Int32} (hg : GM n T dd) (hn : n ≤ 9) (hc : σ a 4 = nI n) (hr : ∀ w, w < n → σ (a + 1) w = T w) (hs : s < n) (ht : t < n) (h : ∀ k, itr n T k s ≠ t) : ∀ j i m x6, n - i = j → i ≤ n → j < m → c_X9_leastSum_16 a σ m (nI t) c x4 (pI n (itr n T i s)) x6 (nI i) = some c := by
  intro j
  induction j with
  | zero =>
    intro i m x6 hj hi hm
    obtain ⟨m, rfl⟩ : ∃ k, m = k + 1 := ⟨m - 1, by omega⟩
    have a1 := itr_le hg hn i s (by omega)
    have hne : ¬ pI n (itr n T i s) = nI t := fun e => h i ((pI_eq hn a1 ht).mp e)
    rw [c_X9_leastSum_16, hc, if_pos (nI_le (by omega) (by omega))]
    unfold c_X9_leastSum_82
    rw [if_neg hne]
  | succ j ih =>
    intro i m x6 hj hi hm
    obtain ⟨m, rfl⟩ : ∃ k, m = k + 1 := ⟨m - 1, by omega⟩
    have a1 := itr_le hg hn i s (by omega)
    have hne : ¬ pI n (itr n T i s) = nI t := fun e => h i ((pI_eq hn a1 ht).mp e)
    have hl := xlead hg hn hc hr a1
    rw [c_X9_leastSum_16, hc, if_neg (nI_ge (by omega) (by omega)), if_neg hne]
    by_cases z : itr n T i s < n
    · have e1 : pI n (itr n T i s) = nI (itr n T i s) := by unfold pI; rw [if_pos z]
      have hq : ∀ y, c_X9_leastSum_16 a σ m (nI t) c x4 (pI n (nxt n T (itr n T i s))) y (nI (i + 1)) = some c := fun y => ih (i + 1) m y (by omega) (by omega) (by omega)
      rw [e1] at hl
      rw [e1, if_neg (nI_pos (by omega)), hl, Option.bind_some]
      unfold c_X9_leastSum_69
      by_cases y : x4 = 0
      · rw [if_pos y, daysOf_at (by omega), Option.bind_some, nIp1]
        exact hq _
      · rw [if_neg y]
        by_cases v : nxt n T (itr n T i s) < n
        · have e3 : pI n (nxt n T (itr n T i s)) = nI (nxt n T (itr n T i s)) := by unfold pI; rw [if_pos v]
          rw [e3] at hq ⊢
          rw [pick_at (by omega) (by omega), Option.bind_some, nIp1]
          exact hq _
        · have e3 : pI n (nxt n T (itr n T i s)) = -1 := by unfold pI; rw [if_neg v]
          rw [e3] at hq ⊢
          rw [pick_neg n1lt, Option.bind_some, nIp1]
          exact hq _
    · have e1 : pI n (itr n T i s) = -1 := by unfold pI; rw [if_neg z]
      rw [e1] at hne ⊢
      rw [if_pos n1lt]
      unfold c_X9_leastSum_82
      rw [if_neg hne]
theorem least_x {σ : Sg} {a n c s t d : Nat} {T : Nat → Int32} {dd w : Nat → Nat} {x4 : Int32} (hg : GM n T dd) (hn : n ≤ 9) (hc : σ a 4 = nI n) (hr : ∀ w, w < n → σ (a + 1) w = T w) (hs : s < n) (ht : t < n) (hcc : c ≤ 99) (hw : ∀ u, u < n → w u ≤ 99) (hx : ∀ u v, u < n → v < n → T u = nI v → (x4 = 0 → σ (a + 2) u = nI (w u)) ∧ (x4 ≠ 0 → σ (a + 3) v = nI (w u))) (hd : Dst n T w c s t d) : f_X9_leastSum a (nI s) (nI t) (nI c) x4 σ = some (nI d) := by
  unfold f_X9_leastSum
  by_cases z : s = t
  · subst z
    rw [if_pos rfl, Dst_0 hd]
    rfl
  · rw [if_neg (by rw [nI_eq_iff (by omega) (by omega)]; exact z)]
    rcases hd with ⟨k, k1, k2⟩ | ⟨k1, k2⟩
    · have := xsum_yes hg hn hc hr hs ht hcc hw hx k1 k 0 1000 (by omega) (by omega) (by have := Fst_lt hg hn hs ht k1; omega)
      rw [k2]
      exact this
    · have := xsum_no (c := nI c) (x4 := x4) hg hn hc hr hs ht k1 n 0 1000 0 (by omega) (by omega) (by omega)
      have e : pI n (itr n T 0 s) = nI s := by
        show pI n s = _
        unfold pI; rw [if_pos hs]
      rw [e] at this
      rw [k2]
      exact this
theorem Dst_ex (n : Nat) (T : Nat → Int32) (w : Nat → Nat) (c s v : Nat) : ∃ d, Dst n T w c s v d := by
  rcases Fst_ex (n := n) (T := T) (s := s) (v := v) with ⟨k, hk⟩ | hk
  · exact ⟨_, Or.inl ⟨k, hk, rfl⟩⟩
  · exact ⟨c, Or.inr ⟨hk, rfl⟩⟩
theorem eq_soon {xs : Nat → Int32} {σ : Sg} (h : Inv xs σ) (p0 p1 p2 : Int32) : Good xs (f_X11_soon p0 p1 p2 σ) (f_X12_soon p0 p1 p2) := by
  obtain ⟨w1, w2, w3, t1, t2, t3⟩ := h.base
  obtain ⟨h1, h2, h3, h4⟩ := h.1
  by_cases c1 : 0 ≤ p0 ∧ p0 < nI (wN (σ 94))
  · by_cases c2 : 0 ≤ p1 ∧ p1 < nI (wN (σ 94))
    · by_cases c3 : 1 ≤ p2 ∧ p2 ≤ 99
      · obtain ⟨s, hs, rfl⟩ := nI_get (by omega) c1.1 c1.2
        obtain ⟨t, ht, rfl⟩ := nI_get (by omega) c2.1 c2.2
        obtain ⟨c, hc1, hc2, rfl⟩ := Sm_of (lo := 1) (hi := 99) (by decide) (by decide) c3.1 c3.2
        have hg := GM_of h1
        have hw : ∀ u, u < wN (σ 94) → gD (σ 94) u ≤ 99 := fun u hu => by have := (hg u hu).2.2; omega
        obtain ⟨d, hd⟩ := Dst_ex (wN (σ 94)) (gT (σ 94)) (gD (σ 94)) c s t
        have hX := least_x (σ := σ) (a := 32) (x4 := 0) hg w3 w1 (fun w hw => (h3.2.2.2.1 w hw).1) hs ht hc2 hw (fun u v hu hv _ => ⟨fun _ => by rw [← gD_n h1 hu]; exact (h3.2.2.2.1 u hu).2.1, fun z => absurd rfl z⟩) hd
        obtain ⟨σ2, m1, m2⟩ := least_m (σ := σ) (x4 := 1) hg w3 hs ht hc2 hw w2 (fun u hu => rfl) (fun u v hu hv _ => ⟨fun z => absurd z one_ne, fun _ => gD_n h1 hu⟩) hd
        refine ⟨nI d, σ, σ2, ?_, ?_, h.hands (fun r k y1 y2 y3 y4 y5 y6 y7 y8 y9 => by rw [m2 r y8 y9])⟩
        · unfold f_X11_soon
          rw [has_n w1, Option.bind_some, bI_1 c1, has_n w1, Option.bind_some, bI_1 c2, within_eq, Option.bind_some, bI_1 c3, hX, Option.bind_some]
        · unfold f_X12_soon
          rw [isWell_n w2 (by omega), Option.bind_some, bI_1 c1, isWell_n w2 (by omega), Option.bind_some, bI_1 c2, isIn_eq, Option.bind_some, bI_1 c3, m1, Option.bind_some]
      · refine good_err h (k := 1) (by decide) ?_ (fun σ1 e => ?_)
        · unfold f_X11_soon
          rw [has_n w1, Option.bind_some, bI_1 c1, has_n w1, Option.bind_some, bI_1 c2, within_eq, Option.bind_some, bI_0 c3]
          rfl
        · unfold f_X12_soon
          rw [isWell_n (by rw [e 94 (by decide)]; exact w2) (by omega), Option.bind_some, bI_1 c1, isWell_n (by rw [e 94 (by decide)]; exact w2) (by omega), Option.bind_some, bI_1 c2, isIn_eq, Option.bind_some, bI_0 c3]
          rfl
    · refine good_err h (k := 1) (by decide) ?_ (fun σ1 e => ?_)
      · unfold f_X11_soon
        rw [has_n w1, Option.bind_some, bI_1 c1, has_n w1, Option.bind_some, bI_0 c2]
        rfl
      · unfold f_X12_soon
        rw [isWell_n (by rw [e 94 (by decide)]; exact w2) (by omega), Option.bind_some, bI_1 c1, isWell_n (by rw [e 94 (by decide)]; exact w2) (by omega), Option.bind_some, bI_0 c2]
        rfl
  · refine good_err h (k := 1) (by decide) ?_ (fun σ1 e => ?_)
    · unfold f_X11_soon
      rw [has_n w1, Option.bind_some, bI_0 c1]
      rfl
    · unfold f_X12_soon
      rw [isWell_n (by rw [e 94 (by decide)]; exact w2) (by omega), Option.bind_some, bI_0 c1]
      rfl
/-- the toll of the well that u leads to -/
def gL (D : Nat → Int32) (u : Nat) : Nat := (D (10 + 4 * (gT D u).toNatClampNeg + 2)).toNatClampNeg
theorem gL_n {D : Nat → Int32} {m u v : Nat} (h : WOK D m) (hv : v < wN D) (e : gT D u = nI v) : D (10 + 4 * v + 2) = nI (gL D u) := by
  have b := h.2.2.1
  obtain ⟨-, -, ⟨k, k1, k2, k3⟩, -⟩ := h.2.2.2.2.2.1 v hv
  unfold gL
  rw [e, clI (by omega), k3, clI (by omega)]
theorem gL_le {D : Nat → Int32} {m u : Nat} (h : WOK D m) (hu : u < wN D) : gL D u ≤ 99 := by
  have b := h.2.2.1
  rcases (GM_of h u hu).1 with y | ⟨j, hj, y⟩
  · obtain ⟨-, -, ⟨k, k1, k2, k3⟩, -⟩ := h.2.2.2.2.2.1 0 (by omega)
    unfold gL
    rw [y, show (-1 : Int32).toNatClampNeg = 0 from by decide, k3, clI (by omega)]
    exact k2
  · obtain ⟨-, -, ⟨k, k1, k2, k3⟩, -⟩ := h.2.2.2.2.2.1 j hj
    unfold gL
    rw [y, clI (by omega), k3, clI (by omega)]
    exact k2
theorem eq_cheap {xs : Nat → Int32} {σ : Sg} (h : Inv xs σ) (p0 p1 p2 : Int32) : Good xs (f_X11_cheap p0 p1 p2 σ) (f_X12_cheap p0 p1 p2) := by
  obtain ⟨w1, w2, w3, t1, t2, t3⟩ := h.base
  obtain ⟨h1, h2, h3, h4⟩ := h.1
  by_cases c1 : 0 ≤ p0 ∧ p0 < nI (wN (σ 94))
  · by_cases c2 : 0 ≤ p1 ∧ p1 < nI (wN (σ 94))
    · by_cases c3 : 0 ≤ p2 ∧ p2 ≤ 99
      · obtain ⟨s, hs, rfl⟩ := nI_get (by omega) c1.1 c1.2
        obtain ⟨t, ht, rfl⟩ := nI_get (by omega) c2.1 c2.2
        obtain ⟨c, hc1, hc2, rfl⟩ := Sm_of (lo := 0) (hi := 99) (by decide) (by decide) c3.1 c3.2
        have hg := GM_of h1
        have hw : ∀ u, u < wN (σ 94) → gL (σ 94) u ≤ 99 := fun u hu => gL_le h1 hu
        obtain ⟨d, hd⟩ := Dst_ex (wN (σ 94)) (gT (σ 94)) (gL (σ 94)) c s t
        have hX := least_x (σ := σ) (a := 32) (x4 := 1) hg w3 w1 (fun w hw => (h3.2.2.2.1 w hw).1) hs ht hc2 hw (fun u v hu hv e => ⟨fun z => absurd z one_ne, fun _ => by rw [← gL_n h1 hv e]; exact (h3.2.2.2.1 v hv).2.2.1⟩) hd
        obtain ⟨σ2, m1, m2⟩ := least_m (σ := σ) (x4 := 0) hg w3 hs ht hc2 hw w2 (fun u hu => rfl) (fun u v hu hv e => ⟨fun _ => gL_n h1 hv e, fun z => absurd rfl z⟩) hd
        refine ⟨nI d, σ, σ2, ?_, ?_, h.hands (fun r k y1 y2 y3 y4 y5 y6 y7 y8 y9 => by rw [m2 r y8 y9])⟩
        · unfold f_X11_cheap
          rw [has_n w1, Option.bind_some, bI_1 c1, has_n w1, Option.bind_some, bI_1 c2, within_eq, Option.bind_some, bI_1 c3, hX, Option.bind_some]
        · unfold f_X12_cheap
          rw [isWell_n w2 (by omega), Option.bind_some, bI_1 c1, isWell_n w2 (by omega), Option.bind_some, bI_1 c2, isIn_eq, Option.bind_some, bI_1 c3, m1, Option.bind_some]
      · refine good_err h (k := 1) (by decide) ?_ (fun σ1 e => ?_)
        · unfold f_X11_cheap
          rw [has_n w1, Option.bind_some, bI_1 c1, has_n w1, Option.bind_some, bI_1 c2, within_eq, Option.bind_some, bI_0 c3]
          rfl
        · unfold f_X12_cheap
          rw [isWell_n (by rw [e 94 (by decide)]; exact w2) (by omega), Option.bind_some, bI_1 c1, isWell_n (by rw [e 94 (by decide)]; exact w2) (by omega), Option.bind_some, bI_1 c2, isIn_eq, Option.bind_some, bI_0 c3]
          rfl
    · refine good_err h (k := 1) (by decide) ?_ (fun σ1 e => ?_)
      · unfold f_X11_cheap
        rw [has_n w1, Option.bind_some, bI_1 c1, has_n w1, Option.bind_some, bI_0 c2]
        rfl
      · unfold f_X12_cheap
        rw [isWell_n (by rw [e 94 (by decide)]; exact w2) (by omega), Option.bind_some, bI_1 c1, isWell_n (by rw [e 94 (by decide)]; exact w2) (by omega), Option.bind_some, bI_0 c2]
        rfl
  · refine good_err h (k := 1) (by decide) ?_ (fun σ1 e => ?_)
    · unfold f_X11_cheap
      rw [has_n w1, Option.bind_some, bI_0 c1]
      rfl
    · unfold f_X12_cheap
      rw [isWell_n (by rw [e 94 (by decide)]; exact w2) (by omega), Option.bind_some, bI_0 c1]
      rfl
