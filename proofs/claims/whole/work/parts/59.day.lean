/-- the row with all places 0: bits of states alone -/
def st0 (D : Nat → Int32) : Nat → Int32 := fun j => if j % 6 = 1 then 0 else D j
theorem st0_2 (D : Nat → Int32) (t : Nat) : st0 D (46 + 6 * t + 2) = D (46 + 6 * t + 2) := by
  unfold st0
  rw [if_neg (by omega)]
theorem st0_3 (D : Nat → Int32) (t : Nat) : st0 D (46 + 6 * t + 3) = 0 := by
  unfold st0
  rw [if_pos (by omega)]
theorem xbelow_go {σ : Sg} {a n : Nat} {D : Nat → Int32} (h1 : σ a 6 = nI n) (hn : n ≤ 10) (hr : ∀ t, t < n → σ (a + 3) t = D (46 + 6 * t + 2)) : ∀ j i m, n - i = j → i ≤ n → j < m → c_X7_belowBits_4 a σ m (bv (st0 D) 1 0 i) (nI i) = some (bv (st0 D) 1 0 n) := by
  intro j
  induction j with
  | zero =>
    intro i m hj hi hm
    obtain ⟨m, rfl⟩ : ∃ k, m = k + 1 := ⟨m - 1, by omega⟩
    unfold c_X7_belowBits_4
    rw [h1, if_pos (nI_le (by omega) (by omega)), show i = n by omega]
  | succ j ih =>
    intro i m hj hi hm
    obtain ⟨m, rfl⟩ : ∃ k, m = k + 1 := ⟨m - 1, by omega⟩
    have g := ih (i + 1) m (by omega) (by omega) (by omega)
    unfold c_X7_belowBits_4
    rw [h1, if_neg (nI_ge (by omega) (by omega)), pick_at (by omega) (by omega), Option.bind_some, hr i (by omega)]
    unfold c_X7_belowBits_30
    rw [nIp1]
    rw [bv, st0_2, st0_3] at g
    by_cases z1 : D (46 + 6 * i + 2) = 1
    · rw [if_pos z1]
      rw [if_pos ⟨z1, rfl⟩] at g
      exact g
    · rw [if_neg z1]
      rw [if_neg (fun z => z1 z.1)] at g
      exact g
theorem mbelow_go {σ : Sg} {r n : Nat} {D : Nat → Int32} (hr : Row σ r D) (h1 : D 2 = nI n) (hn : n ≤ 10) : ∀ j i m, n - i = j → i ≤ n → j < m → c_X12_goesBy_4 r m (bv (st0 D) 1 0 i) (nI i) σ = c_X12_goesBy_37 r (bv (st0 D) 1 0 n) σ := by
  intro j
  induction j with
  | zero =>
    intro i m hj hi hm
    obtain ⟨m, rfl⟩ : ∃ k, m = k + 1 := ⟨m - 1, by omega⟩
    rw [c_X12_goesBy_4, hr 2 (by omega), h1, if_pos (nI_le (by omega) (by omega)), show i = n by omega]
  | succ j ih =>
    intro i m hj hi hm
    obtain ⟨m, rfl⟩ : ∃ k, m = k + 1 := ⟨m - 1, by omega⟩
    have g := ih (i + 1) m (by omega) (by omega) (by omega)
    have a2 := aThing_at (r := r) (t := i) (c := 2) (σ := σ) (by omega) (by omega)
    rw [hr _ (by omega), show nI 2 = (2 : Int32) from rfl] at a2
    rw [c_X12_goesBy_4, hr 2 (by omega), h1, if_neg (nI_ge (by omega) (by omega)), a2, Option.bind_some]
    unfold c_X12_goesBy_29
    rw [nIp1]
    rw [bv, st0_2, st0_3] at g
    by_cases z1 : D (46 + 6 * i + 2) = 1
    · rw [if_pos z1]
      rw [if_pos ⟨z1, rfl⟩] at g
      exact g
    · rw [if_neg z1, or0]
      rw [if_neg (fun z => z1 z.1)] at g
      exact g
theorem TXs.keep {σ σ' τ : Sg} {a : Nat} (h : TXs σ τ) (ha : 11 < a) (e : XF a σ' σ) : TXs σ' τ :=
  ⟨(e 6 2 (by omega) (by omega) (by omega)).trans h.1, fun i hi => (e 7 i (by omega) (by omega) (by omega)).trans (h.2.1 i hi), (e 9 2 (by omega) (by omega) (by omega)).trans h.2.2.1, fun i hi => (e 10 i (by omega) (by omega) (by omega)).trans (h.2.2.2 i hi)⟩
theorem TDs.keep {σ σ' : Sg} {D0 : Nat → Int32} {r : Nat} (h : TDs σ D0) (e : MF r σ' σ) : TDs σ' D0 := fun j hj =>
  (e 94 j (by omega) (by omega) (by omega)).trans (h j hj)
theorem XF.trans {a : Nat} {x y z : Sg} (h : XF a x y) (g : XF a y z) : XF a x z := fun q k p1 p2 p3 => (h q k p1 p2 p3).trans (g q k p1 p2 p3)
theorem MF.trans {a : Nat} {x y z : Sg} (h : MF a x y) (g : MF a y z) : MF a x z := fun q k p1 p2 p3 => (h q k p1 p2 p3).trans (g q k p1 p2 p3)
theorem down_go {τ : Sg} {D0 : Nat → Int32} {G : Nat → Int32 → Int32 → Int32 → Int32 → Int32} {m : Nat} (hG : ∀ A B C F, Sm (G 0 A B C F) 0 30) (gx : GX τ G) (gd : GD D0 G) : ∀ j i D, WOK D m → tN D - i = j → i ≤ tN D → ∃ D', WOK D' m ∧ (∀ q, q < 46 ∨ 106 ≤ q → D' q = D q) ∧ (∀ u, D (46 + 6 * u + 2) ≠ 0 → D' (46 + 6 * u + 2) = D (46 + 6 * u + 2)) ∧ (∀ (a : Nat) (σ : Sg) (n : Nat) (k2 : Int32 → Int32 → Sg → Option Sg) (x1 x2 x3 : Int32), 11 < a → j < n → RW σ a D → TXs σ τ → ∃ σ', c_X10_goBy_18 k2 a 6 9 n x1 x2 x3 (nI i) σ = c_X10_goBy_42 k2 a 6 9 x1 x2 x3 σ' ∧ RW σ' a D' ∧ XF a σ' σ) ∧ (∀ (r : Nat) (σ : Sg) (n : Nat) (x2 : Int32), (r = 94 ∨ r = 95) → j < n → Row σ r D → TDs σ D0 → ∃ σ', c_X12_goesBy_39 r n x2 (nI i) σ = c_X12_goesBy_106 r x2 σ' ∧ Row σ' r D' ∧ MF r σ' σ) := by
  intro j
  induction j with
  | zero =>
    intro i D hW hj hi
    have b2 := hW.2.2.2.2.1
    refine ⟨D, hW, fun _ _ => rfl, fun _ _ => rfl, fun a σ n k2 x1 x2 x3 ha hn hR hT => ⟨σ, ?_, hR, fun _ _ _ _ _ => rfl⟩, fun r σ n x2 hr0 hn hr hT => ⟨σ, ?_, hr, fun _ _ _ _ _ => rfl⟩⟩
    · obtain ⟨n, rfl⟩ : ∃ k, n = k + 1 := ⟨n - 1, by omega⟩
      rw [c_X10_goBy_18, hR.2.2.1, hW.2.2.2.1, if_pos (nI_le (by omega) (by omega))]
    · obtain ⟨n, rfl⟩ : ∃ k, n = k + 1 := ⟨n - 1, by omega⟩
      rw [c_X12_goesBy_39, hr 2 (by omega), hW.2.2.2.1, if_pos (nI_le (by omega) (by omega))]
  | succ j ih =>
    intro i D hW hj hi
    have b2 := hW.2.2.2.2.1
    obtain ⟨D1, d1, d2, d3, dx, dm⟩ := down_eq hG gx gd hW (t := i) (by omega)
    have tn : tN D1 = tN D := tN_cong (d2 2 (by omega))
    obtain ⟨D', e1, e2, e3, ex, em⟩ := ih (i + 1) D1 d1 (by omega) (by omega)
    refine ⟨D', e1, fun q hq => (e2 q hq).trans (d2 q hq), fun u hu => (e3 u (by rw [d3 u hu]; exact hu)).trans (d3 u hu), fun a σ n k2 x1 x2 x3 ha hn hR hT => ?_, fun r σ n x2 hr0 hn hr hT => ?_⟩
    · obtain ⟨n, rfl⟩ : ∃ k, n = k + 1 := ⟨n - 1, by omega⟩
      obtain ⟨σ1, f1, f2, f3⟩ := dx a σ ha hR hT
      obtain ⟨σ', g1, g2, g3⟩ := ex a σ1 n k2 x1 x2 x3 ha (by omega) f2 (hT.keep ha f3)
      refine ⟨σ', ?_, g2, g3.trans f3⟩
      rw [c_X10_goBy_18, hR.2.2.1, hW.2.2.2.1, if_neg (nI_ge (by omega) (by omega)), f1, Option.bind_some, nIp1]
      exact g1
    · obtain ⟨n, rfl⟩ : ∃ k, n = k + 1 := ⟨n - 1, by omega⟩
      obtain ⟨σ1, f1, f2, f3⟩ := dm r σ n x2 hr0 hr hT
      obtain ⟨σ', g1, g2, g3⟩ := em r σ1 n x2 hr0 (by omega) f2 (hT.keep f3)
      exact ⟨σ', f1.trans g1, g2, g3.trans f3⟩
theorem up_go {τ : Sg} {D0 : Nat → Int32} {G : Nat → Int32 → Int32 → Int32 → Int32 → Int32} {m v : Nat} (gx : GX τ G) (gd : GD D0 G) (hv : v < 1024) : ∀ j i D, WOK D m → tN D - i = j → i ≤ tN D → (∀ u, i ≤ u → u < tN D → v.testBit u = true → D (46 + 6 * u + 2) = 1) → ∃ D', WOK D' m ∧ (∀ q, q < 46 ∨ 106 ≤ q → D' q = D q) ∧ (∀ u, D (46 + 6 * u + 2) = 2 → D' (46 + 6 * u + 2) = 2) ∧ (∀ (a : Nat) (σ : Sg) (n : Nat) (k2 : Int32 → Int32 → Sg → Option Sg) (x1 x2 : Int32), 11 < a → j < n → RW σ a D → TXs σ τ → ∃ σ', c_X10_goBy_45 k2 a 6 9 n x1 x2 (nI v) (nI i) σ = c_X10_goBy_78 k2 a 6 9 x1 x2 σ' ∧ RW σ' a D' ∧ XF a σ' σ) ∧ (∀ (r : Nat) (σ : Sg) (n : Nat), (r = 94 ∨ r = 95) → j < n → Row σ r D → TDs σ D0 → ∃ σ', c_X12_goesBy_108 r n (nI v) (nI i) σ = c_X12_goesBy_165 r σ' ∧ Row σ' r D' ∧ MF r σ' σ) := by
  intro j
  induction j with
  | zero =>
    intro i D hW hj hi hb
    have b2 := hW.2.2.2.2.1
    refine ⟨D, hW, fun _ _ => rfl, fun _ h => h, fun a σ n k2 x1 x2 ha hn hR hT => ⟨σ, ?_, hR, fun _ _ _ _ _ => rfl⟩, fun r σ n hr0 hn hr hT => ⟨σ, ?_, hr, fun _ _ _ _ _ => rfl⟩⟩
    · obtain ⟨n, rfl⟩ : ∃ k, n = k + 1 := ⟨n - 1, by omega⟩
      rw [c_X10_goBy_45, hR.2.2.1, hW.2.2.2.1, if_pos (nI_le (by omega) (by omega))]
    · obtain ⟨n, rfl⟩ : ∃ k, n = k + 1 := ⟨n - 1, by omega⟩
      rw [c_X12_goesBy_108, hr 2 (by omega), hW.2.2.2.1, if_pos (nI_le (by omega) (by omega))]
  | succ j ih =>
    intro i D hW hj hi hb
    have b2 := hW.2.2.2.2.1
    have bt := bt_all i (by omega) v hv
    by_cases z : v.testBit i = true
    · rw [if_pos z] at bt
      obtain ⟨D1, d1, d2, dx, dm⟩ := up_eq gx gd hW (t := i) (by omega) (hb i (by omega) (by omega) z)
      have tn : tN D1 = tN D := tN_cong (d2 2 (by omega))
      obtain ⟨D', e1, e2, e9, ex, em⟩ := ih (i + 1) D1 d1 (by omega) (by omega) (fun u u1 u2 u3 => by rw [d2 _ (by omega)]; exact hb u (by omega) (by omega) u3)
      refine ⟨D', e1, fun q hq => (e2 q hq).trans (d2 q (by omega)), fun u hu => e9 u (by
        by_cases y : u = i
        · rw [y, hb i (by omega) (by omega) z] at hu; exact absurd hu (by decide)
        · rw [d2 _ (by omega)]; exact hu), fun a σ n k2 x1 x2 ha hn hR hT => ?_, fun r σ n hr0 hn hr hT => ?_⟩
      · obtain ⟨n, rfl⟩ : ∃ k, n = k + 1 := ⟨n - 1, by omega⟩
        obtain ⟨σ1, f1, f2, f3⟩ := dx a σ ha hR hT
        obtain ⟨σ', g1, g2, g3⟩ := ex a σ1 n k2 x1 x2 ha (by omega) f2 (hT.keep ha f3)
        refine ⟨σ', ?_, g2, g3.trans f3⟩
        rw [c_X10_goBy_45, hR.2.2.1, hW.2.2.2.1, if_neg (nI_ge (by omega) (by omega)), bt, if_neg one_ne, f1, Option.bind_some]
        unfold c_X10_goBy_72
        rw [nIp1]
        exact g1
      · obtain ⟨n, rfl⟩ : ∃ k, n = k + 1 := ⟨n - 1, by omega⟩
        obtain ⟨σ1, f1, f2, f3⟩ := dm r σ n (nI v) hr0 hr hT bt
        obtain ⟨σ', g1, g2, g3⟩ := em r σ1 n hr0 (by omega) f2 (hT.keep f3)
        exact ⟨σ', f1.trans g1, g2, g3.trans f3⟩
    · rw [if_neg z] at bt
      obtain ⟨D', e1, e2, e9, ex, em⟩ := ih (i + 1) D hW (by omega) (by omega) (fun u u1 u2 u3 => hb u (by omega) (by omega) u3)
      refine ⟨D', e1, e2, e9, fun a σ n k2 x1 x2 ha hn hR hT => ?_, fun r σ n hr0 hn hr hT => ?_⟩
      · obtain ⟨n, rfl⟩ : ∃ k, n = k + 1 := ⟨n - 1, by omega⟩
        obtain ⟨σ', g1, g2, g3⟩ := ex a σ n k2 x1 x2 ha (by omega) hR hT
        refine ⟨σ', ?_, g2, g3⟩
        rw [c_X10_goBy_45, hR.2.2.1, hW.2.2.2.1, if_neg (nI_ge (by omega) (by omega)), bt, if_pos rfl]
        unfold c_X10_goBy_72
        rw [nIp1]
        exact g1
      · obtain ⟨n, rfl⟩ : ∃ k, n = k + 1 := ⟨n - 1, by omega⟩
        obtain ⟨σ', g1, g2, g3⟩ := em r σ n hr0 (by omega) hr hT
        refine ⟨σ', ?_, g2, g3⟩
        rw [c_X12_goesBy_108, hr 2 (by omega), hW.2.2.2.1, if_neg (nI_ge (by omega) (by omega)), bt, if_neg (by decide)]
        unfold c_X12_goesBy_159
        rw [nIp1]
        exact g1
/-- a day goes by, for both -/
theorem day_eq2 {τ : Sg} {D0 D : Nat → Int32} {G : Nat → Int32 → Int32 → Int32 → Int32 → Int32} {m : Nat} (hG : ∀ A B C F, Sm (G 0 A B C F) 0 30) (gx : GX τ G) (gd : GD D0 G) (hW : WOK D m) (hm : m < 100000) : ∃ D', WOK D' (m + 1) ∧ D' 0 = D 0 + 1 ∧ (∀ q, (1 ≤ q ∧ q < 46) ∨ 106 ≤ q → D' q = D q) ∧ (∀ u, D (46 + 6 * u + 2) = 2 → D' (46 + 6 * u + 2) = 2) ∧ (∀ (a : Nat) (σ : Sg) (n : Nat) (x1 x2 : Int32), 11 < a → RW σ a D → TXs σ τ → ¬ x1 ≤ x2 → ∃ σ', c_X10_goBy_2 a 6 9 (n + 1) x1 x2 σ = c_X10_goBy_2 a 6 9 n x1 (x2 + 1) σ' ∧ RW σ' a D' ∧ XF a σ' σ) ∧ (∀ (r : Nat) (σ : Sg), (r = 94 ∨ r = 95) → Row σ r D → TDs σ D0 → ∃ σ', f_X12_goesBy r σ = some σ' ∧ Row σ' r D' ∧ MF r σ' σ) := by
  have b2 := hW.2.2.2.2.1
  have hv := bN_1024 (st0 D) 1 0 b2
  have ev := bv_bN (st0 D) 1 0 (tN D) b2
  obtain ⟨D1, d1, d2, d3, dx, dm⟩ := down_go hG gx gd (tN D) 0 D hW (by omega) (by omega)
  have tn : tN D1 = tN D := tN_cong (d2 2 (by omega))
  obtain ⟨D2, e1, e2, e9, ex, em⟩ := up_go (m := m) gx gd hv (tN D) 0 D1 d1 (by omega) (by omega) (fun u _ u2 u3 => by
    rw [bN_bit (st0 D) 1 0 u (tN D) (by omega), st0_2, st0_3] at u3
    rw [d3 u (by rw [(of_decide_eq_true u3).1]; decide)]; exact (of_decide_eq_true u3).1)
  have h0 : D2 0 = D 0 := (e2 0 (by omega)).trans (d2 0 (by omega))
  have tn2 : tN D2 = tN D := tN_cong ((e2 2 (by omega)).trans (d2 2 (by omega)))
  refine ⟨upd D2 0 (D 0 + 1), ?_, upds _ _ _, fun q hq => by rw [updn (by omega), e2 q (by omega), d2 q (by omega)], fun u hu => by rw [updn (by omega)]; exact e9 u (by rw [d3 u (by rw [hu]; decide)]; exact hu), fun a σ n x1 x2 ha hR hT hx => ?_, fun r σ hr0 hr hT => ?_⟩
  · obtain ⟨⟨k, k1, k2, k3⟩, a2, a3, a4, a5, a6, a7⟩ := id e1
    have wn : wN (upd D2 0 (D 0 + 1)) = wN D2 := wN_cong (updn (by omega))
    have tn' : tN (upd D2 0 (D 0 + 1)) = tN D2 := tN_cong (updn (by omega))
    refine ⟨?_, by rw [updn (by omega), wn]; exact a2, by omega, by rw [updn (by omega), tn']; exact a4, by omega, fun w hw => (a6 w (by omega)).cong (by omega) (fun j x y => updn (by omega)), fun t ht => (a7 t (by omega)).cong (by omega) (fun j x y => updn (by omega))⟩
    rw [upds, ← h0, k3, nIp1]
    exact ⟨k + 1, by omega, by omega, rfl⟩
  · obtain ⟨σ1, f1, f2, f3⟩ := dx a σ 1000 (c_X10_goBy_2 a 6 9 n) x1 x2 (nI (bN (st0 D) 1 0 (tN D))) ha (by omega) hR hT
    obtain ⟨σ2, g1, g2, g3⟩ := ex a σ1 1000 (c_X10_goBy_2 a 6 9 n) x1 x2 ha (by omega) f2 (hT.keep ha f3)
    have hbel : f_X7_belowBits (a + 6) σ = some (nI (bN (st0 D) 1 0 (tN D))) := by
      unfold f_X7_belowBits
      rw [← ev]
      exact xbelow_go (hR.2.2.1.trans hW.2.2.2.1) b2 (fun t ht => (hR.2.2.2.2 t ht).2.2.1) (tN D) 0 1000 (by omega) (by omega) (by omega)
    refine ⟨mup σ2 a 4 (D 0 + 1), ?_, ?_, fun q k h8 h11 hq => by rw [mup_o (by omega)]; exact (g3.trans f3) q k h8 h11 hq⟩
    · rw [c_X10_goBy_2, if_neg hx, hbel, Option.bind_some]
      refine Eq.trans f1 ?_
      unfold c_X10_goBy_42
      refine Eq.trans g1 ?_
      unfold c_X10_goBy_78
      rw [g2.1, h0]
    · obtain ⟨r1, r2, r3, r4, r5⟩ := g2
      have wn : wN (upd D2 0 (D 0 + 1)) = wN D2 := wN_cong (updn (by omega))
      have tn' : tN (upd D2 0 (D 0 + 1)) = tN D2 := tN_cong (updn (by omega))
      refine ⟨by rw [mup_s, upds], by rw [mup_o (by omega), updn (by omega)]; exact r2, by rw [mup_o (by omega), updn (by omega)]; exact r3, fun w hw => ?_, fun t ht => ?_⟩
      · simp (disch := omega) only [mup_o, updn]
        exact r4 w (by omega)
      · simp (disch := omega) only [mup_o, updn]
        exact r5 t (by omega)
  · obtain ⟨σ1, f1, f2, f3⟩ := dm r σ 1000 (nI (bN (st0 D) 1 0 (tN D))) hr0 (by omega) hr hT
    obtain ⟨σ2, g1, g2, g3⟩ := em r σ1 1000 hr0 (by omega) f2 (hT.keep f3)
    have hbel := mbelow_go hr hW.2.2.2.1 b2 (tN D) 0 1000 (by omega) (by omega) (by omega)
    rw [ev] at hbel
    refine ⟨mup σ2 r 0 (D 0 + 1), ?_, fun j hj => ?_, fun q k h98 h93 hq => by rw [mup_o (by omega)]; exact (g3.trans f3) q k h98 h93 hq⟩
    · unfold f_X12_goesBy
      refine Eq.trans hbel ?_
      unfold c_X12_goesBy_37
      refine Eq.trans f1 ?_
      unfold c_X12_goesBy_106
      refine Eq.trans g1 ?_
      unfold c_X12_goesBy_165
      rw [g2 0 (by omega), h0]
    · by_cases z : j = 0
      · subst z; rw [mup_s, upds]
      · rw [mup_o (by omega), updn z]; exact g2 j hj
theorem day_eq {τ : Sg} {D0 D : Nat → Int32} {G : Nat → Int32 → Int32 → Int32 → Int32 → Int32} {m : Nat} (hG : ∀ A B C F, Sm (G 0 A B C F) 0 30) (gx : GX τ G) (gd : GD D0 G) (hW : WOK D m) (hm : m < 100000) : ∃ D', WOK D' (m + 1) ∧ D' 0 = D 0 + 1 ∧ (∀ q, (1 ≤ q ∧ q < 46) ∨ 106 ≤ q → D' q = D q) ∧ (∀ (a : Nat) (σ : Sg) (n : Nat) (x1 x2 : Int32), 11 < a → RW σ a D → TXs σ τ → ¬ x1 ≤ x2 → ∃ σ', c_X10_goBy_2 a 6 9 (n + 1) x1 x2 σ = c_X10_goBy_2 a 6 9 n x1 (x2 + 1) σ' ∧ RW σ' a D' ∧ XF a σ' σ) ∧ (∀ (r : Nat) (σ : Sg), (r = 94 ∨ r = 95) → Row σ r D → TDs σ D0 → ∃ σ', f_X12_goesBy r σ = some σ' ∧ Row σ' r D' ∧ MF r σ' σ) := by
  obtain ⟨D', e1, e2, e3, -, ex, em⟩ := day_eq2 hG gx gd hW hm
  exact ⟨D', e1, e2, e3, ex, em⟩
