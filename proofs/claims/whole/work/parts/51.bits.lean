/-- things that are so, there, among the first n, as bits -/
def bv (D : Nat → Int32) (x y : Int32) : Nat → Int32
  | 0 => 0
  | n + 1 => if D (46 + 6 * n + 2) = x ∧ D (46 + 6 * n + 3) = y then bv D x y n ||| ((1 : Int32) <<< (nI n &&& 31)) else bv D x y n
theorem aThing_at {r t c : Nat} {σ : Sg} (ht : t < 10) (hc : c ≤ 5) : f_X12_aThing r (nI t) (nI c) σ = some (σ r (46 + 6 * t + c)) := by
  unfold f_X12_aThing
  rw [ixT, gdI (by omega) (by omega), clI (by omega)]
theorem aWell_at {r w c : Nat} {σ : Sg} (hw : w < 9) (hc : c ≤ 3) : f_X12_aWell r (nI w) (nI c) σ = some (σ r (10 + 4 * w + c)) := by
  unfold f_X12_aWell
  rw [ixW, gdI (by omega) (by omega), clI (by omega)]
theorem or0 (x : Int32) : x ||| 0 = x := by
  apply Int32.toBitVec_inj.mp
  simp
theorem bits_go {σ : Sg} {a n : Nat} {D : Nat → Int32} (h1 : σ a 6 = nI n) (hn : n ≤ 10) (hr : ∀ t, t < n → σ (a + 3) t = D (46 + 6 * t + 2) ∧ σ (a + 4) t = D (46 + 6 * t + 3)) (x y : Int32) : ∀ j i m, n - i = j → i ≤ n → j < m → c_X7_bits_5 a σ m x y (bv D x y i) (nI i) = some (bv D x y n) := by
  intro j
  induction j with
  | zero =>
    intro i m hj hi hm
    obtain ⟨m, rfl⟩ : ∃ k, m = k + 1 := ⟨m - 1, by omega⟩
    unfold c_X7_bits_5
    rw [h1, if_pos (nI_le (by omega) (by omega)), show i = n by omega]
  | succ j ih =>
    intro i m hj hi hm
    obtain ⟨m, rfl⟩ : ∃ k, m = k + 1 := ⟨m - 1, by omega⟩
    have g := ih (i + 1) m (by omega) (by omega) (by omega)
    obtain ⟨g1, g2⟩ := hr i (by omega)
    unfold c_X7_bits_5
    rw [h1, if_neg (nI_ge (by omega) (by omega)), show (10 : Int32) = nI 10 from rfl, if_neg (nI_ge (by omega) (by omega)), gdI (by omega) (by omega), gdI (by omega) (by omega), clI (by omega), g1, g2]
    unfold c_X7_bits_50
    rw [nIp1]
    by_cases z1 : D (46 + 6 * i + 2) = x
    · rw [if_pos z1]
      by_cases z2 : D (46 + 6 * i + 3) = y
      · rw [if_pos z2]
        rw [bv, if_pos ⟨z1, z2⟩] at g
        exact g
      · rw [if_neg z2]
        rw [bv, if_neg (fun z => z2 z.2)] at g
        exact g
    · rw [if_neg z1]
      rw [bv, if_neg (fun z => z1 z.1)] at g
      exact g
theorem thingsIn_go {σ : Sg} {r n : Nat} (h1 : σ r 2 = nI n) (hn : n ≤ 10) (x y : Int32) : ∀ j i m, n - i = j → i ≤ n → j < m → c_X12_thingsIn_5 r σ m x y (bv (σ r) x y i) (nI i) = some (bv (σ r) x y n) := by
  intro j
  induction j with
  | zero =>
    intro i m hj hi hm
    obtain ⟨m, rfl⟩ : ∃ k, m = k + 1 := ⟨m - 1, by omega⟩
    unfold c_X12_thingsIn_5
    rw [h1, if_pos (nI_le (by omega) (by omega)), show i = n by omega]
  | succ j ih =>
    intro i m hj hi hm
    obtain ⟨m, rfl⟩ : ∃ k, m = k + 1 := ⟨m - 1, by omega⟩
    have g := ih (i + 1) m (by omega) (by omega) (by omega)
    have a2 := aThing_at (r := r) (t := i) (c := 2) (σ := σ) (by omega) (by omega)
    have a3 := aThing_at (r := r) (t := i) (c := 3) (σ := σ) (by omega) (by omega)
    rw [show nI 2 = 2 from rfl] at a2
    rw [show nI 3 = 3 from rfl] at a3
    unfold c_X12_thingsIn_5
    rw [h1, if_neg (nI_ge (by omega) (by omega)), a2, a3]
    simp only [Option.bind_some]
    unfold c_X12_thingsIn_43 c_X12_thingsIn_44
    rw [nIp1]
    by_cases z1 : σ r (46 + 6 * i + 2) = x
    · rw [if_pos z1]
      by_cases z2 : σ r (46 + 6 * i + 3) = y
      · rw [if_pos z2]
        rw [bv, if_pos ⟨z1, z2⟩] at g
        exact g
      · rw [if_neg z2, or0]
        rw [bv, if_neg (fun z => z2 z.2)] at g
        exact g
    · rw [if_neg z1, or0]
      rw [bv, if_neg (fun z => z1 z.1)] at g
      exact g
theorem bits_eq {σ : Sg} {a m : Nat} {D : Nat → Int32} (hW : WOK D m) (hR : RW σ a D) (x y : Int32) : f_X7_bits (a + 6) x y σ = some (bv D x y (tN D)) := by
  unfold f_X7_bits
  exact bits_go (D := D) (hR.2.2.1.trans hW.2.2.2.1) hW.2.2.2.2.1 (fun t ht => ⟨(hR.2.2.2.2 t ht).2.2.1, (hR.2.2.2.2 t ht).2.2.2.1⟩) x y _ 0 1000 rfl (by omega) (by have := hW.2.2.2.2.1; omega)
theorem thingsIn_eq {σ : Sg} {r m : Nat} (hW : WOK (σ r) m) (x y : Int32) : f_X12_thingsIn r x y σ = some (bv (σ r) x y (tN (σ r))) := by
  unfold f_X12_thingsIn
  exact thingsIn_go hW.2.2.2.1 hW.2.2.2.2.1 x y _ 0 1000 rfl (by omega) (by have := hW.2.2.2.2.1; omega)
theorem daysOf_at {a w : Nat} {σ : Sg} (hw : w < 9) : f_X9_daysOf a (nI w) σ = some (σ (a + 2) w) := by
  unfold f_X9_daysOf
  rw [pick_at hw (by omega)]
  rfl
theorem eq_ofWell {xs : Nat → Int32} {σ : Sg} (h : Inv xs σ) (p0 p1 : Int32) : Good xs (f_X11_ofWell p0 p1 σ) (f_X12_ofWell p0 p1) := by
  obtain ⟨w1, w2, w3, t1, t2, t3⟩ := h.base
  obtain ⟨h1, h2, h3, h4⟩ := h.1
  by_cases c0 : 0 ≤ p0 ∧ p0 < nI (wN (σ 94))
  · by_cases c1 : 0 ≤ p1 ∧ p1 ≤ 5
    · obtain ⟨w, hw, rfl⟩ := nI_get (by omega) c0.1 c0.2
      obtain ⟨g0, g1, g2, g3⟩ := h3.2.2.2.1 w hw
      obtain ⟨k, hk, rfl⟩ := nI_getL (n := 5) (by decide) c1.1 c1.2
      have hM : ∀ k, k ≤ 3 → f_X12_ofWell (nI w) (nI k) σ = some (σ 94 (10 + 4 * w + k), σ) := fun k hk => by
        unfold f_X12_ofWell
        rw [isWell_n w2 (by omega), isIn_eq, itsWell_at (by omega) hk]
        simp only [Option.bind_some]
        rw [bI_1 c0, bI_1 ⟨nI_pos' (by omega), nI_le (b := 5) (by omega) (by omega)⟩, show (4 : Int32) = nI 4 from rfl, if_neg (nI_ge (by omega) (by omega))]
      have hX : f_X9_has 32 (nI w) σ = some 1 := by rw [has_n w1, if_pos c0]
      match k, hk with
      | 0, _ =>
        refine ⟨_, _, _, ?_, hM 0 (by omega), h⟩
        unfold f_X11_ofWell
        rw [hX, leadsTo_at w1 hw w3]
        exact congrArg (fun v => some (v, σ)) g0
      | 1, _ =>
        refine ⟨_, _, _, ?_, hM 1 (by omega), h⟩
        unfold f_X11_ofWell
        rw [hX, daysOf_at (by omega), ← g1]
        rfl
      | 2, _ =>
        refine ⟨_, _, _, ?_, hM 2 (by omega), h⟩
        unfold f_X11_ofWell
        rw [hX, pick_at (by omega) (by omega), ← g2]
        rfl
      | 3, _ =>
        refine ⟨_, _, _, ?_, hM 3 (by omega), h⟩
        unfold f_X11_ofWell
        rw [hX, pick_at (by omega) (by omega), pick_at (by omega) (by omega), ← g3]
        rfl
      | 4, _ =>
        refine ⟨bv (σ 94) 0 (nI w) (tN (σ 94)), σ, σ, ?_, ?_, h⟩
        · unfold f_X11_ofWell
          rw [hX, bits_eq (a := 31) h1 h3]
          rfl
        · unfold f_X12_ofWell
          rw [isWell_n w2 (by omega), isIn_eq]
          simp only [Option.bind_some]
          rw [bI_1 c0, bI_1 c1, if_pos (by decide), thingsIn_eq h1]
          rfl
      | 5, _ =>
        refine ⟨bv (σ 94) 1 (nI w) (tN (σ 94)), σ, σ, ?_, ?_, h⟩
        · unfold f_X11_ofWell
          rw [hX, bits_eq (a := 31) h1 h3, bits_eq (a := 31) h1 h3]
          rfl
        · unfold f_X12_ofWell
          rw [isWell_n w2 (by omega), isIn_eq]
          simp only [Option.bind_some]
          rw [bI_1 c0, bI_1 c1, if_pos (by decide), thingsIn_eq h1]
          rfl
    · refine good_err h (k := 1) (by decide) ?_ (fun σ1 e => ?_)
      · unfold f_X11_ofWell
        rw [has_n w1]
        simp only [Option.bind_some]
        rw [bI_1 c0, if_neg (fun z => c1 (by rw [z]; decide)), if_neg (fun z => c1 (by rw [z]; decide)), if_neg (fun z => c1 (by rw [z]; decide)), if_neg (fun z => c1 (by rw [z]; decide)), if_neg (fun z => c1 (by rw [z]; decide)), if_neg (fun z => c1 (by rw [z]; decide))]
        rfl
      · unfold f_X12_ofWell
        rw [isWell_n (by rw [e 94 (by decide)]; exact w2) (by omega), isIn_eq]
        simp only [Option.bind_some]
        rw [bI_1 c0, bI_0 c1]
        rfl
  · refine good_err h (k := 1) (by decide) ?_ (fun σ1 e => ?_)
    · unfold f_X11_ofWell
      rw [has_n w1]
      simp only [Option.bind_some]
      rw [bI_0 c0]
      rfl
    · unfold f_X12_ofWell
      rw [isWell_n (by rw [e 94 (by decide)]; exact w2) (by omega)]
      simp only [Option.bind_some]
      rw [bI_0 c0]
      rfl
/-- only goings have changed -/
theorem Inv.wells {xs : Nat → Int32} {σ σ2 : Sg} (h : Inv xs σ) (e : ∀ r k, (r < 33 ∨ 36 < r) → (r ≠ 94 ∨ k < 10 ∨ 46 ≤ k) → σ2 r k = σ r k) (ok : ∀ w, w < wN (σ 94) → WellOK (σ2 94) w) (m : ∀ w, w < wN (σ 94) → σ2 33 w = σ2 94 (10 + 4 * w) ∧ σ2 34 w = σ2 94 (10 + 4 * w + 1) ∧ σ2 35 w = σ2 94 (10 + 4 * w + 2) ∧ σ2 36 w = σ2 94 (10 + 4 * w + 3)) : Inv xs σ2 := by
  obtain ⟨h1, h2, h3, h4⟩ := h.1
  obtain ⟨a1, a2, a3, a4, a5, a6, a7⟩ := id h1
  have eD : ∀ j, (j < 10 ∨ 46 ≤ j) → σ2 94 j = σ 94 j := fun j ha => e 94 j (by omega) (by omega)
  have eR : ∀ r, r < 33 ∨ 36 < r → r ≠ 94 → σ2 r = σ r := fun r a b => rows_eq (fun k => e r k (by omega) (by omega))
  have wn : wN (σ2 94) = wN (σ 94) := wN_cong (eD 1 (by omega))
  have tn : tN (σ2 94) = tN (σ 94) := tN_cong (eD 2 (by omega))
  have hW : WOK (σ2 94) 9999 := by
    refine ⟨by rw [eD 0 (by omega)]; exact a1, by rw [eD 1 (by omega), wn]; exact a2, by omega, by rw [eD 2 (by omega), tn]; exact a4, by omega, fun w hw => ok w (by omega), fun u hu => ?_⟩
    exact (a7 u (by omega)).cong (by omega) (fun j x y => eD j (by omega))
  have hR : RW σ2 31 (σ2 94) := by
    obtain ⟨b1, b2, b3, b4, b5⟩ := h3
    refine ⟨by rw [eR _ (by omega) (by omega), eD 0 (by omega)]; exact b1, by rw [eR _ (by omega) (by omega), eD 1 (by omega)]; exact b2, by rw [eR _ (by omega) (by omega), eD 2 (by omega)]; exact b3, fun w hw => m w (by omega), fun u hu => ?_⟩
    simp (disch := omega) only [e]
    exact b5 u (by omega)
  exact h.again ⟨hW, h2.cong (fun j hj => eD j (by omega)) (by omega), hR, (h4.frame (fun r _ _ _ _ => eR r (by omega) (by omega))).cong h2 (fun j hj => eD j (by omega))⟩ (fun r hr => eR r (by unfold Keep at hr; omega) (by unfold Keep at hr; omega)) (by rw [eR 93 (by omega) (by omega)]) (by rw [eR 93 (by omega) (by omega)])
/-- the w-th going of a sheet's numbers may be -/
def gok (f : Nat → Int32) (c n w : Nat) : Prop := 2 * w + 1 < c ∧ w < n ∧ ((f (2 * w) = -1 ∨ (0 ≤ f (2 * w) ∧ f (2 * w) < nI n)) ∧ (1 ≤ f (2 * w + 1) ∧ f (2 * w + 1) ≤ 30))
theorem xgo_go {z c n : Nat} {f : Nat → Int32} (hz : 84 ≤ z) (hz2 : z ≤ 90) (hc : c ≤ 40) (hn : n ≤ 9) : ∀ j i m σ, n - i = j → j < m → i ≤ n → σ z 2 = nI c → σ 32 4 = nI n → (∀ k, k < 40 → σ (z + 1) k = f k) → ∃ r σ', c_X11_goings_43 m z (nI i) (nI (2 * i)) σ = some (nI r, σ') ∧ i ≤ r ∧ r ≤ n ∧ (∀ w, i ≤ w → w < r → gok f c n w) ∧ ¬ gok f c n r ∧ (∀ q k, ((q ≠ 33 ∧ q ≠ 34) ∨ k < i ∨ r ≤ k) → σ' q k = σ q k) ∧ ∀ w, i ≤ w → w < r → σ' 33 w = f (2 * w) ∧ σ' 34 w = f (2 * w + 1) := by
  intro j
  induction j with
  | zero =>
    intro i m σ hj hm hi hs hw hf
    obtain ⟨m, rfl⟩ : ∃ k, m = k + 1 := ⟨m - 1, by omega⟩
    refine ⟨i, σ, ?_, by omega, by omega, fun w a b => by omega, fun y => by have := y.2.1; omega, fun _ _ _ => rfl, fun w a b => by omega⟩
    unfold c_X11_goings_43
    rw [hs, hw, nIp1]
    by_cases y : nI c ≤ nI (2 * i + 1)
    · rw [if_pos y]
    · rw [if_neg y, if_pos (nI_le (by omega) (by omega))]
  | succ j ih =>
    intro i m σ hj hm hi hs hw hf
    obtain ⟨m, rfl⟩ : ∃ k, m = k + 1 := ⟨m - 1, by omega⟩
    by_cases y : c ≤ 2 * i + 1
    · refine ⟨i, σ, ?_, by omega, by omega, fun w a b => by omega, fun y => by have := y.1; omega, fun _ _ _ => rfl, fun w a b => by omega⟩
      unfold c_X11_goings_43
      rw [hs, nIp1, if_pos (nI_le (by omega) (by omega))]
    · by_cases ok : (f (2 * i) = -1 ∨ (0 ≤ f (2 * i) ∧ f (2 * i) < nI n)) ∧ (1 ≤ f (2 * i + 1) ∧ f (2 * i + 1) ≤ 30)
      · obtain ⟨r, σ', s1, s2, s3, s4, s5, s6, s7⟩ := ih (i + 1) m (mup (mup σ 33 i (f (2 * i))) 34 i (f (2 * i + 1))) (by omega) (by omega) (by omega) (by rw [mup_o (by omega), mup_o (by omega)]; exact hs) (by rw [mup_o (by omega), mup_o (by omega)]; exact hw) (fun k hk => by rw [mup_o (by omega), mup_o (by omega)]; exact hf k hk)
        refine ⟨r, σ', ?_, by omega, by omega, fun w a b => ?_, s5, fun q k hq => ?_, fun w a b => ?_⟩
        · unfold c_X11_goings_43
          rw [hs, hw, nIp1, nIp1, if_neg (nI_ge (by omega) (by omega)), if_neg (nI_ge (by omega) (by omega)), pick_at (by omega) (by omega), pick_at (by omega) (by omega), hf _ (by omega), hf _ (by omega)]
          simp only [Option.bind_some]
          rw [allows_n hw]
          simp only [Option.bind_some]
          rw [bI_1 ok, lead_at (by omega)]
          simp only [Option.bind_some]
          rw [show nI (2 * i) + 2 = nI (2 * (i + 1)) by rw [show (2 : Int32) = nI 2 from rfl, nI_add]; congr 1]
          exact s1
        · by_cases z : w = i
          · subst z; exact ⟨by omega, by omega, ok⟩
          · exact s4 w (by omega) b
        · rw [s6 q k (by omega), mup_o (by omega), mup_o (by omega)]
        · by_cases z : w = i
          · subst z
            rw [s6 _ _ (by omega), s6 _ _ (by omega), mup_s, mup_o (by omega), mup_s]
            exact ⟨rfl, rfl⟩
          · exact s7 w (by omega) b
      · refine ⟨i, σ, ?_, by omega, by omega, fun w a b => by omega, fun y => ok y.2.2, fun _ _ _ => rfl, fun w a b => by omega⟩
        unfold c_X11_goings_43
        rw [hs, hw, nIp1, nIp1, if_neg (nI_ge (by omega) (by omega)), if_neg (nI_ge (by omega) (by omega)), pick_at (by omega) (by omega), pick_at (by omega) (by omega), hf _ (by omega), hf _ (by omega)]
        simp only [Option.bind_some]
        rw [allows_n hw]
        simp only [Option.bind_some]
        rw [bI_0 ok]
        rfl
theorem ixS2 (s i : Nat) : (40 : Int32) * nI s + (2 : Int32) * nI i = nI (40 * s + 2 * i) := by
  show nI 40 * nI s + nI 2 * nI i = _
  rw [pk_mul, pk_mul, nI_add]
theorem ix22 (i : Nat) : (2 : Int32) * nI i + 2 = nI (2 * i + 2) := by
  show nI 2 * nI i + nI 2 = _
  rw [pk_mul, nI_add]
theorem mgo_go {s c n : Nat} {f : Nat → Int32} (hz : s < 4) (hc : c ≤ 40) (hn : n ≤ 9) : ∀ j i m σ, n - i = j → j < m → i ≤ n → σ 103 s = nI c → σ 94 1 = nI n → (∀ k, k < 40 → σ 104 (40 * s + k) = f k) → ∃ r σ', c_X12_goings_30 m (nI s) (nI i) σ = some (nI r, σ') ∧ i ≤ r ∧ r ≤ n ∧ (∀ w, i ≤ w → w < r → gok f c n w) ∧ ¬ gok f c n r ∧ (∀ q k, (q ≠ 94 ∨ k < 10 + 4 * i ∨ 10 + 4 * r ≤ k) → σ' q k = σ q k) ∧ ∀ w, i ≤ w → w < r → σ' 94 (10 + 4 * w) = f (2 * w) ∧ σ' 94 (10 + 4 * w + 1) = f (2 * w + 1) ∧ σ' 94 (10 + 4 * w + 2) = σ 94 (10 + 4 * w + 2) ∧ σ' 94 (10 + 4 * w + 3) = σ 94 (10 + 4 * w + 3) := by
  intro j
  induction j with
  | zero =>
    intro i m σ hj hm hi hs hw hf
    obtain ⟨m, rfl⟩ : ∃ k, m = k + 1 := ⟨m - 1, by omega⟩
    refine ⟨i, σ, ?_, by omega, by omega, fun w a b => by omega, fun y => by have := y.2.1; omega, fun _ _ _ => rfl, fun w a b => by omega⟩
    unfold c_X12_goings_30
    rw [gdI (by omega) (by omega), clI (by omega), hs, hw, ix22]
    by_cases y : nI c < nI (2 * i + 2)
    · rw [if_pos y]
    · rw [if_neg y, if_pos (nI_le (by omega) (by omega))]
  | succ j ih =>
    intro i m σ hj hm hi hs hw hf
    obtain ⟨m, rfl⟩ : ∃ k, m = k + 1 := ⟨m - 1, by omega⟩
    have i2 := ixS2 s i
    have i3 : (40 : Int32) * nI s + (2 : Int32) * nI i + 1 = nI (40 * s + 2 * i + 1) := by rw [i2, nIp1]
    by_cases y : c ≤ 2 * i + 1
    · refine ⟨i, σ, ?_, by omega, by omega, fun w a b => by omega, fun y => by have := y.1; omega, fun _ _ _ => rfl, fun w a b => by omega⟩
      unfold c_X12_goings_30
      rw [gdI (by omega) (by omega), clI (by omega), hs, ix22, if_pos (nI_lt (by omega) (by omega))]
    · have f0 : σ 104 (40 * s + 2 * i) = f (2 * i) := hf _ (by omega)
      have f1 : σ 104 (40 * s + 2 * i + 1) = f (2 * i + 1) := hf (2 * i + 1) (by omega)
      have hlt : ¬ nI c < nI (2 * i + 2) := by
        rw [ilt, nI_toInt (by omega), nI_toInt (by omega)]
        omega
      by_cases ok : (f (2 * i) = -1 ∨ (0 ≤ f (2 * i) ∧ f (2 * i) < nI n)) ∧ (1 ≤ f (2 * i + 1) ∧ f (2 * i + 1) ≤ 30)
      · obtain ⟨r, σ', s1, s2, s3, s4, s5, s6, s7⟩ := ih (i + 1) m (mup (mup σ 94 (10 + 4 * i) (f (2 * i))) 94 (10 + 4 * i + 1) (f (2 * i + 1))) (by omega) (by omega) (by omega) (by rw [mup_o (by omega), mup_o (by omega)]; exact hs) (by rw [mup_o (by omega), mup_o (by omega)]; exact hw) (fun k hk => by rw [mup_o (by omega), mup_o (by omega)]; exact hf k hk)
        refine ⟨r, σ', ?_, by omega, by omega, fun w a b => ?_, s5, fun q k hq => ?_, fun w a b => ?_⟩
        · unfold c_X12_goings_30
          rw [i3, i2, ix22]
          simp (disch := omega) only [gdI]
          simp (disch := omega) only [clI]
          rw [hs, hw, if_neg hlt, if_neg (nI_ge (by omega) (by omega)), f0, f1, mayGo_n hw (by omega)]
          simp only [Option.bind_some]
          rw [bI_1 ok, leads_at (by omega)]
          simp only [Option.bind_some]
          rw [nIp1]
          exact s1
        · by_cases z : w = i
          · subst z; exact ⟨by omega, by omega, ok⟩
          · exact s4 w (by omega) b
        · rw [s6 q k (by omega), mup_o (by omega), mup_o (by omega)]
        · by_cases z : w = i
          · subst z
            rw [s6 _ _ (by omega), s6 _ _ (by omega), s6 _ _ (by omega), s6 _ _ (by omega)]
            simp (disch := omega) only [mup_o, mup_s]
            exact ⟨trivial, trivial, trivial, trivial⟩
          · have g := s7 w (by omega) b
            simp (disch := omega) only [mup_o] at g
            exact g
      · refine ⟨i, σ, ?_, by omega, by omega, fun w a b => by omega, fun y => ok y.2.2, fun _ _ _ => rfl, fun w a b => by omega⟩
        unfold c_X12_goings_30
        rw [i3, i2, ix22]
        simp (disch := omega) only [gdI]
        simp (disch := omega) only [clI]
        rw [hs, hw, if_neg hlt, if_neg (nI_ge (by omega) (by omega)), f0, f1, mayGo_n hw (by omega)]
        simp only [Option.bind_some]
        rw [bI_0 ok]
theorem eq_goings {xs : Nat → Int32} {σ : Sg} (h : Inv xs σ) (p0 : Int32) : Good xs (f_X11_goings p0 σ) (f_X12_goings p0) := by
  obtain ⟨w1, w2, w3, t1, t2, t3⟩ := h.base
  obtain ⟨h1, h2, h3, h4⟩ := h.1
  by_cases c0 : 0 ≤ p0 ∧ p0 ≤ 3
  · obtain ⟨s, hs, rfl⟩ := nI_getL (n := 3) (by decide) c0.1 c0.2
    obtain ⟨a1, a2, a3, ⟨n, n1, n2, n3⟩, a5⟩ := h.2.2.2.2.2.1 s (by omega)
    by_cases c1 : σ 102 s = 0
    · refine good_err h (k := 2) (by decide) ?_ (fun σ1 e => ?_)
      · unfold f_X11_goings
        rw [sheetAt_in (by omega)]
        simp only [Option.bind_some]
        rw [a1, if_pos c1]
        rfl
      · unfold f_X12_goings
        rw [isSheet_eq]
        simp only [Option.bind_some]
        rw [bI_1 c0, gdI (by omega) (by omega), clI (by omega), e 102 (by decide), if_pos c1]
        rfl
    · obtain ⟨r, σ1, x1, x2, x3, x4, x5, x6, x7⟩ := xgo_go (z := 84 + 2 * s) (c := n) (n := wN (σ 94)) (f := σ (84 + 2 * s + 1)) (by omega) (by omega) n2 w3 (wN (σ 94)) 0 1000 σ (by omega) (by omega) (by omega) (a2.trans n3) w1 (fun k hk => rfl)
      obtain ⟨q, σ2, y1, y2, y3, y4, y5, y6, y7⟩ := mgo_go (s := s) (c := n) (n := wN (σ 94)) (f := σ (84 + 2 * s + 1)) (by omega) n2 w3 (wN (σ 94)) 0 1000 σ1 (by omega) (by omega) (by omega) (by rw [x6 _ _ (by omega)]; exact n3) (by rw [x6 _ _ (by omega)]; exact w2) (fun k hk => by rw [x6 _ _ (by omega)]; exact (a5 k hk).symm)
      have hrq : r = q := by
        rcases Nat.lt_trichotomy r q with z | z | z
        · exact absurd (y4 r (by omega) z) x5
        · exact z
        · exact absurd (x4 q (by omega) z) y5
      subst hrq
      refine ⟨nI r, σ1, σ2, ?_, ?_, ?_⟩
      · unfold f_X11_goings
        rw [sheetAt_in (by omega)]
        simp only [Option.bind_some]
        rw [a1, if_neg c1]
        exact x1
      · unfold f_X12_goings
        rw [isSheet_eq]
        simp only [Option.bind_some]
        rw [bI_1 c0, gdI (by omega) (by omega), clI (by omega), x6 _ _ (by omega), if_neg c1]
        exact y1
      · have eW : wN (σ2 94) = wN (σ 94) := wN_cong (by rw [y6 _ _ (by omega), x6 _ _ (by omega)])
        refine h.wells (fun r k a b => by rw [y6 _ _ (by omega), x6 _ _ (by omega)]) (fun w hw => ?_) (fun w hw => ?_)
        · by_cases z : w < r
          · obtain ⟨u1, u2, u3, u4⟩ := y7 w (by omega) z
            obtain ⟨-, -, g1, g2⟩ := x4 w (by omega) z
            obtain ⟨v1, v2, v3, v4⟩ := h1.2.2.2.2.2.1 w hw
            refine ⟨?_, ?_, ?_, ?_⟩
            · rw [u1, eW]
              rcases g1 with g | g
              · exact Or.inl g
              · exact Or.inr (nI_get (by omega) g.1 g.2)
            · rw [u2]; exact Sm_of (lo := 1) (hi := 30) (by decide) (by decide) g2.1 g2.2
            · rw [u3, x6 _ _ (by omega)]; exact v3
            · rw [u4, x6 _ _ (by omega)]; exact v4
          · exact (h1.2.2.2.2.2.1 w hw).cong (by omega) (fun j a b => by rw [y6 _ _ (by omega), x6 _ _ (by omega)])
        · obtain ⟨v1, v2, v3, v4⟩ := h3.2.2.2.1 w hw
          by_cases z : w < r
          · obtain ⟨u1, u2, u3, u4⟩ := y7 w (by omega) z
            obtain ⟨t1, t2⟩ := x7 w (by omega) z
            rw [u1, u2, u3, u4, y6 _ _ (by omega), y6 _ _ (by omega), y6 _ _ (by omega), y6 _ _ (by omega), t1, t2, x6 _ _ (by omega), x6 _ _ (by omega), x6 _ _ (by omega), x6 _ _ (by omega)]
            exact ⟨rfl, rfl, v3, v4⟩
          · simp (disch := omega) only [y6, x6]
            exact ⟨v1, v2, v3, v4⟩
  · refine good_err h (k := 1) (by decide) ?_ (fun σ1 e => ?_)
    · unfold f_X11_goings
      rw [sheetAt_out c0]
      rfl
    · unfold f_X12_goings
      rw [isSheet_eq]
      simp only [Option.bind_some]
      rw [bI_0 c0]
      rfl
