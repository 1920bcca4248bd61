theorem one_day2 {τ : Sg} {D0 D : Nat → Int32} {G : Nat → Int32 → Int32 → Int32 → Int32 → Int32} {m : Nat} (hG : ∀ A B C F, Sm (G 0 A B C F) 0 30) (gx : GX τ G) (gd : GD D0 G) (hW : WOK D m) (hm : m < 100000) : ∃ D', WOK D' (m + 1) ∧ D' 0 = D 0 + 1 ∧ (∀ q, (1 ≤ q ∧ q < 46) ∨ 106 ≤ q → D' q = D q) ∧ (∀ (a : Nat) (σ : Sg), 11 < a → RW σ a D → TXs σ τ → ∃ σ', f_X10_goBy a 6 9 1 σ = some σ' ∧ RW σ' a D' ∧ XF a σ' σ) ∧ (∀ (r : Nat) (σ : Sg), (r = 94 ∨ r = 95) → Row σ r D → TDs σ D0 → ∃ σ', f_X12_goesBy r σ = some σ' ∧ Row σ' r D' ∧ MF r σ' σ) := by
  obtain ⟨D', e1, e2, e3, ex, em⟩ := day_eq hG gx gd hW hm
  refine ⟨D', e1, e2, e3, fun a σ ha hR hT => ?_, em⟩
  obtain ⟨σ', f1, f2, f3⟩ := ex a σ 999 1 0 ha hR hT (by decide)
  refine ⟨σ', ?_, f2, f3⟩
  unfold f_X10_goBy
  refine Eq.trans f1 ?_
  rw [c_X10_goBy_2, if_pos (by decide)]
/-- a draw -/
def dz (z : Int32) : Int32 := z * (1103515245 : Int32) + (12345 : Int32)
def dv (z : Int32) : Int32 := ((dz z).toUInt32 >>> (((8 : Int32)).toUInt32 &&& Int32.toUInt32 31)).toInt32
theorem dv_nI (z : Int32) : ∃ k, k < 16777216 ∧ dv z = nI k := by
  unfold dv
  have e : (((8 : Int32)).toUInt32 &&& Int32.toUInt32 31) = 8 := by decide
  rw [e]
  have hb : ((dz z).toUInt32 >>> (8 : UInt32)).toNat < 16777216 := by
    rw [UInt32.toNat_shiftRight]
    have := (dz z).toUInt32.toNat_lt
    have e8 : (8 : UInt32).toNat % 32 = 8 := by decide
    rw [e8, Nat.shiftRight_eq_div_pow]
    omega
  refine ⟨_, hb, ?_⟩
  show _ = Int32.ofNat _
  generalize (dz z).toUInt32 >>> (8 : UInt32) = u
  have e2 : u = UInt32.ofNat u.toNat := UInt32.ofNat_toNat.symm
  conv => lhs; rw [e2]
  rfl
theorem rem_nI {k n : Nat} (hk : k < 16777216) (h1 : 1 ≤ n) (hn : n ≤ 1000) : nI k - nI k / nI n * nI n = nI (k % n) := by
  have ek := nI_toInt (n := k) (by omega)
  have en := nI_toInt (n := n) (by omega)
  have hq := Nat.div_le_self k n
  have hm := Nat.div_mul_le_self k n
  have hmod := Nat.mod_add_div k n
  rw [Nat.mul_comm] at hmod
  have hlt := Nat.mod_lt k (show 0 < n by omega)
  have hd : (nI k / nI n).toInt = ((k / n : Nat) : Int) := by
    rw [Int32.toInt_div, ek, en, Int.tdiv_eq_ediv_of_nonneg (by omega), ← Int.natCast_ediv]
    generalize k / n = q at hq ⊢
    exact ibm (by omega) (by omega)
  generalize k / n = q at *
  generalize k % n = m at *
  have hc : (q : Int) * (n : Int) = ((q * n : Nat) : Int) := by simp
  have hm2 : (nI k / nI n * nI n).toInt = ((q * n : Nat) : Int) := by
    generalize hp : q * n = p at *
    rw [imul (by rw [hd, en, hc]; omega) (by rw [hd, en, hc]; omega), hd, en, hc]
  generalize q * n = p at *
  rw [ieq, isub (by rw [hm2, ek]; omega) (by rw [hm2, ek]; omega), hm2, ek, nI_toInt (by omega)]
  omega
theorem drawX (σ : Sg) : f_X1_draw 1 σ = some (dv (σ 1 5), mup σ 1 5 (dz (σ 1 5))) := by
  unfold f_X1_draw dv dz
  rw [mup_s]
theorem drawM (σ : Sg) : f_X12_drawn σ = some (dv (σ 94 4), mup σ 94 4 (dz (σ 94 4))) := by
  unfold f_X12_drawn dv dz
  rw [mup_s]
/-- one flood, on both sides -/
theorem flood_eq {D : Nat → Int32} {m : Nat} (hW : WOK D m) (h1 : 1 ≤ wN D) : ∃ D1, WOK D1 m ∧ (∀ q, q < 10 ∨ 46 ≤ q → q ≠ 4 → D1 q = D q) ∧ (∀ σ : Sg, RW σ 31 D → σ 1 5 = D 4 → ∃ σ', f_X11_flood σ = some σ' ∧ RW σ' 31 D1 ∧ σ' 1 5 = D1 4 ∧ (∀ q k, (q < 31 ∨ 43 < q) → (q ≠ 1 ∨ k ≠ 5) → σ' q k = σ q k)) ∧ (∀ (σ : Sg) (f : Nat) (x1 x2 : Int32), Row σ 94 D → ¬ x1 ≤ x2 → ∃ σ', (c_X12_floods_49 (f + 1) x1 x2 σ = (f_X12_goesBy 94 σ').bind fun q11 => c_X12_floods_49 f x1 (x2 + 1) q11) ∧ Row σ' 94 D1 ∧ (∀ q k, (q ≠ 94 ∨ 106 ≤ k) → σ' q k = σ q k)) := by
  obtain ⟨k1, a1, b1⟩ := dv_nI (D 4)
  obtain ⟨k2, a2, b2⟩ := dv_nI (dz (D 4))
  obtain ⟨k3, a3, b3⟩ := dv_nI (dz (dz (D 4)))
  obtain ⟨-, g1, g2, g3, g4, g5, g6⟩ := id hW
  have r1 := rem_nI a1 h1 (by omega)
  have r2 := rem_nI a2 h1 (by omega)
  have r3 := rem_nI a3 (n := 9) (by omega) (by omega)
  have l1 := Nat.mod_lt k1 (show 0 < wN D by omega)
  have l2 := Nat.mod_lt k2 (show 0 < wN D by omega)
  have l3 := Nat.mod_lt k3 (show 0 < 9 by omega)
  generalize hw : k1 % wN D = w at *
  generalize hu : k2 % wN D = u at *
  generalize hd : k3 % 9 = d at *
  have r3' : nI k3 - nI k3 / (9 : Int32) * (9 : Int32) + 1 = nI (d + 1) := by
    have : (9 : Int32) = nI 9 := rfl
    rw [this, r3, nIp1]
  have nz : ¬ nI (wN D) = 0 := nIne0 h1 (by omega)
  have np : 0 < nI (wN D) := by
    have := nI_gt0 h1 (show wN D < 2000 by omega)
    rw [ile] at this
    rw [ilt]
    omega
  refine ⟨upd (upd (upd D 4 (dz (dz (dz (D 4))))) (10 + 4 * w) (nI u)) (10 + 4 * w + 1) (nI (d + 1)), ?_, fun q hq h4 => ?_, fun σ hR hz => ?_, fun σ f x1 x2 hr hx => ?_⟩
  · have hW1 : WOK (upd D 4 (dz (dz (dz (D 4))))) m := hW.cong (fun j hj => updn (by omega))
    have wn : wN (upd D 4 (dz (dz (dz (D 4))))) = wN D := wN_cong (updn (by omega))
    refine hW1.setw (w := w) (by omega) (fun j hj => by rw [updn (by omega), updn (by omega)]) ?_
    have hw0 := g5 w l1
    have wn2 : wN (upd (upd (upd D 4 (dz (dz (dz (D 4))))) (10 + 4 * w) (nI u)) (10 + 4 * w + 1) (nI (d + 1))) = wN D := wN_cong (by rw [updn (by omega), updn (by omega), updn (by omega)])
    refine ⟨Or.inr ⟨u, by omega, by rw [updn (by omega), upds]⟩, ⟨d + 1, by omega, by omega, by rw [upds]⟩, ?_, ?_⟩
    · rw [updn (by omega), updn (by omega), updn (by omega)]; exact hw0.2.2.1
    · rw [updn (by omega), updn (by omega), updn (by omega)]; exact hw0.2.2.2
  · rw [updn (by omega), updn (by omega), updn (by omega)]
  · have n4 : σ 32 4 = nI (wN D) := hR.2.1.trans g1
    refine ⟨mup (mup (mup (mup (mup σ 1 5 (dz (D 4))) 1 5 (dz (dz (D 4)))) 1 5 (dz (dz (dz (D 4))))) 33 w (nI u)) 34 w (nI (d + 1)), ?_, ?_, ?_, fun q k hq hk => ?_⟩
    · unfold f_X11_flood
      rw [n4, if_pos np, drawX, Option.bind_some, hz, if_neg nz, drawX, Option.bind_some]
      dsimp only
      rw [mup_s, if_neg nz, drawX, Option.bind_some]
      dsimp only
      rw [mup_s, b1, b2, b3, r1, r2, r3', lead_at (by omega)]
      rfl
    · have hR1 : RW (mup (mup (mup σ 1 5 (dz (D 4))) 1 5 (dz (dz (D 4)))) 1 5 (dz (dz (dz (D 4))))) 31 (upd D 4 (dz (dz (dz (D 4))))) := (hR.frame (fun r _ _ => by rw [mup_ne (by omega), mup_ne (by omega), mup_ne (by omega)])).cong hW (fun j hj => updn (by omega))
      have hW1 : WOK (upd D 4 (dz (dz (dz (D 4))))) m := hW.cong (fun j hj => updn (by omega))
      have wn : wN (upd D 4 (dz (dz (dz (D 4))))) = wN D := wN_cong (updn (by omega))
      have rw0 := hR1.2.2.2.1 w (by omega)
      refine hR1.setw hW1 (w := w) (by omega) (fun j hj => by rw [updn (by omega), updn (by omega)]) (fun r k _ _ _ => by rw [mup_o (by omega), mup_o (by omega)]) ?_ ?_ ?_ ?_
      · rw [mup_o (by omega), mup_s, updn (by omega), upds]
      · rw [mup_s, upds]
      · rw [mup_o (by omega), mup_o (by omega), updn (by omega), updn (by omega)]; exact rw0.2.2.1
      · rw [mup_o (by omega), mup_o (by omega), updn (by omega), updn (by omega)]; exact rw0.2.2.2
    · rw [mup_o (by omega), mup_o (by omega), mup_s, updn (by omega), updn (by omega), upds]
    · rw [mup_o (by omega), mup_o (by omega), mup_o (by omega), mup_o (by omega), mup_o (by omega)]
  · have n1 : σ 94 1 = nI (wN D) := (hr 1 (by omega)).trans g1
    have n4 : σ 94 4 = D 4 := hr 4 (by omega)
    refine ⟨mup (mup (mup (mup (mup σ 94 4 (dz (D 4))) 94 4 (dz (dz (D 4)))) 94 4 (dz (dz (dz (D 4))))) 94 (10 + 4 * w) (nI u)) 94 (10 + 4 * w + 1) (nI (d + 1)), ?_, fun j hj => ?_, fun q k hq => ?_⟩
    · have m1 : ∀ v, mup σ 94 4 v 94 1 = nI (wN D) := fun v => by rw [mup_o (by omega)]; exact n1
      have m2 : ∀ v w, mup (mup σ 94 4 v) 94 4 w 94 1 = nI (wN D) := fun v w => by rw [mup_o (by omega), mup_o (by omega)]; exact n1
      rw [c_X12_floods_49, if_neg hx, drawM, Option.bind_some]
      dsimp only
      rw [n4, if_neg (show ¬ mup σ 94 4 (dz (D 4)) 94 1 = 0 by rw [m1]; exact nz), drawM, Option.bind_some]
      dsimp only
      rw [mup_s, if_neg (show ¬ mup (mup σ 94 4 (dz (D 4))) 94 4 (dz (dz (D 4))) 94 1 = 0 by rw [m2]; exact nz), drawM, Option.bind_some]
      dsimp only
      rw [mup_s, m1, m2, b1, b2, b3, r1, r2, r3', leads_at (by omega), Option.bind_some]
    · by_cases z1 : j = 10 + 4 * w + 1
      · rw [mup_t ⟨rfl, z1⟩, z1, upds]
      · by_cases z2 : j = 10 + 4 * w
        · rw [mup_o (by omega), mup_t ⟨rfl, z2⟩, updn (by omega), z2, upds]
        · by_cases z3 : j = 4
          · rw [mup_o (by omega), mup_o (by omega), mup_t ⟨rfl, z3⟩, updn (by omega), updn (by omega), z3, upds]
          · rw [mup_o (by omega), mup_o (by omega), mup_o (by omega), mup_o (by omega), mup_o (by omega), updn (by omega), updn (by omega), updn (by omega)]
            exact hr j hj
    · rw [mup_o (by omega), mup_o (by omega), mup_o (by omega), mup_o (by omega), mup_o (by omega)]
def XZ (σ' σ : Sg) : Prop := ∀ q k, q ≠ 8 → q ≠ 11 → (q < 31 ∨ 43 < q) → (q ≠ 1 ∨ k ≠ 5) → σ' q k = σ q k
theorem floods_go {τ : Sg} {D0 : Nat → Int32} {G : Nat → Int32 → Int32 → Int32 → Int32 → Int32} {n : Nat} (hG : ∀ A B C F, Sm (G 0 A B C F) 0 30) (gx : GX τ G) (gd : GD D0 G) (hn : n ≤ 200) : ∀ j i D m, WOK D m → m ≤ 50000 + i → n - i = j → i ≤ n → 1 ≤ wN D → ∃ D', WOK D' (m + j) ∧ D' 0 = D 0 + nI j ∧ (∀ q, (1 ≤ q ∧ q < 10 ∧ q ≠ 4) → D' q = D q) ∧ (∀ (σ : Sg) (f : Nat), j < f → RW σ 31 D → σ 1 5 = D 4 → TXs σ τ → ∃ σ', c_X11_floods_52 f (nI n) (nI i) σ = some (D' 0, σ') ∧ RW σ' 31 D' ∧ σ' 1 5 = D' 4 ∧ XZ σ' σ) ∧ (∀ (σ : Sg) (f : Nat), j < f → Row σ 94 D → TDs σ D0 → ∃ σ', c_X12_floods_49 f (nI n) (nI i) σ = some (D' 0, σ') ∧ Row σ' 94 D' ∧ MF 94 σ' σ) := by
  intro j
  induction j with
  | zero =>
    intro i D m hW hm hj hi hw
    have hle : nI n ≤ nI i := nI_le (by omega) (by omega)
    refine ⟨D, hW, by rw [show nI 0 = 0 from rfl, Int32.add_zero], fun _ _ => rfl, fun σ f hf hR hz hT => ⟨σ, ?_, hR, hz, fun _ _ _ _ _ _ => rfl⟩, fun σ f hf hr hT => ⟨σ, ?_, hr, fun _ _ _ _ _ => rfl⟩⟩
    · obtain ⟨f, rfl⟩ : ∃ k, f = k + 1 := ⟨f - 1, by omega⟩
      rw [c_X11_floods_52, if_pos hle, hR.1]
    · obtain ⟨f, rfl⟩ : ∃ k, f = k + 1 := ⟨f - 1, by omega⟩
      rw [c_X12_floods_49, if_pos hle, hr 0 (by omega)]
  | succ j ih =>
    intro i D m hW hm hj hi hw
    have hlt : ¬ nI n ≤ nI i := by rw [nI_le_iff (by omega) (by omega)]; omega
    obtain ⟨D1, a1, a2, ax, am⟩ := flood_eq hW hw
    obtain ⟨D2, d1, d0, d3, dx, dm⟩ := one_day2 hG gx gd a1 (by omega)
    have wn : wN D2 = wN D := wN_cong ((d3 1 (by omega)).trans (a2 1 (by omega) (by omega)))
    obtain ⟨D', e1, e2, e3, ex, em⟩ := ih (i + 1) D2 (m + 1) d1 (by omega) (by omega) (by omega) (by omega)
    refine ⟨D', by rw [show m + (j + 1) = m + 1 + j by omega]; exact e1, ?_, fun q hq => (e3 q hq).trans ((d3 q (by omega)).trans (a2 q (by omega) (by omega))), fun σ f hf hR hz hT => ?_, fun σ f hf hr hT => ?_⟩
    · rw [e2, d0, a2 0 (by omega) (by omega), Int32.add_assoc, show (1 : Int32) = nI 1 from rfl, nIa, show 1 + j = j + 1 by omega]
    · obtain ⟨f, rfl⟩ : ∃ k, f = k + 1 := ⟨f - 1, by omega⟩
      obtain ⟨s1, f1, f2, f3, f4⟩ := ax σ hR hz
      have hT1 : TXs s1 τ := ⟨(f4 6 2 (by omega) (by omega)).trans hT.1, fun i hi => (f4 7 i (by omega) (by omega)).trans (hT.2.1 i hi), (f4 9 2 (by omega) (by omega)).trans hT.2.2.1, fun i hi => (f4 10 i (by omega) (by omega)).trans (hT.2.2.2 i hi)⟩
      obtain ⟨s2, g1, g2, g3⟩ := dx 31 s1 (by omega) f2 hT1
      have z2 : s2 1 5 = D2 4 := by rw [g3 1 5 (by omega) (by omega) (by omega), d3 4 (by omega)]; exact f3
      obtain ⟨σ', h1, h2, h3, h4⟩ := ex s2 f (by omega) g2 z2 (hT1.keep (by omega) g3)
      refine ⟨σ', ?_, h2, h3, fun q k x y w v => (h4 q k x y w v).trans ((g3 q k x y w).trans (f4 q k w v))⟩
      rw [c_X11_floods_52, if_neg hlt, f1, Option.bind_some, g1, Option.bind_some, nIp1]
      exact h1
    · obtain ⟨f, rfl⟩ : ∃ k, f = k + 1 := ⟨f - 1, by omega⟩
      obtain ⟨s1, f1, f2, f3⟩ := am σ f (nI n) (nI i) hr hlt
      have hT1 : TDs s1 D0 := fun j hj => (f3 94 j (by omega)).trans (hT j hj)
      obtain ⟨s2, g1, g2, g3⟩ := dm 94 s1 (Or.inl rfl) f2 hT1
      obtain ⟨σ', h1, h2, h3⟩ := em s2 f (by omega) g2 (hT1.keep g3)
      refine ⟨σ', ?_, h2, fun q k x y w => (h3 q k x y w).trans ((g3 q k x y w).trans (f3 q k w))⟩
      rw [f1, g1, Option.bind_some, nIp1]
      exact h1
theorem Inv.seed {xs : Nat → Int32} {σ : Sg} (h : Inv xs σ) (p : Int32) : Inv xs (mup (mup σ 1 5 p) 94 4 p) := by
  obtain ⟨r, σ1, σ2, e1, e2, e3⟩ := eq_seed h p
  have x1 : f_X11_seed p σ = some (σ 1 5, mup σ 1 5 p) := rfl
  rw [x1] at e1
  have y1 := (Prod.mk.inj (Option.some.inj e1)).2
  rw [← y1] at e2
  have x2 : f_X12_seed p (mup σ 1 5 p) = some (mup σ 1 5 p 94 4, mup (mup σ 1 5 p) 94 4 p) := rfl
  rw [x2] at e2
  have y2 := (Prod.mk.inj (Option.some.inj e2)).2
  rw [y2]
  exact e3
theorem eq_floods {xs : Nat → Int32} {σ : Sg} (h : Inv xs σ) (p : Int32) : Good xs (f_X11_floods p σ) (f_X12_floods p) := by
  obtain ⟨w1, w2, w3, t1, t2, t3⟩ := h.base
  obtain ⟨h1, h2, h3, h4⟩ := h.1
  by_cases c : 1 ≤ p ∧ p ≤ 100
  · obtain ⟨n, n1, n2, rfl⟩ := Sm_of (lo := 1) (hi := 100) (by decide) (by decide) c.1 c.2
    obtain ⟨d, d1, d2, d3⟩ := h1.1
    by_cases c2 : d + n ≤ 9999
    · have c3 : ¬ (9999 : Int32) < nI d + nI n := by
        rw [nIa, show (9999 : Int32) = nI 9999 from rfl, nI_lt_iff (by omega) (by omega)]
        omega
      by_cases c4 : wN (σ 94) = 0
      · have z4 : nI (wN (σ 94)) = 0 := by rw [c4]; rfl
        refine good_err h (k := 3) (by decide) ?_ (fun σ1 e => ?_)
        · unfold f_X11_floods
          rw [within_eq, Option.bind_some, bI_1 c, h3.1, d3, if_neg c3, w1, if_pos z4]
          rfl
        · unfold f_X12_floods
          rw [isIn_eq, Option.bind_some, bI_1 c, e 94 (by decide), d3, if_neg c3, w2, if_pos z4]
          rfl
      · have z4 : ¬ nI (wN (σ 94)) = 0 := nIne0 (by omega) (by omega)
        obtain ⟨G, hG, gx, gd⟩ := gives_ex (τ := σ) (D := σ 94) h4.2.2.2.2.2.2.2.1 h4.2.2.2.2.2.2.2.2
        obtain ⟨D', e1, e2, e3, ex, em⟩ := floods_go (n := n) hG gx gd (by omega) n 0 (σ 94) 9999 h1 (by omega) (by omega) (by omega) (by omega)
        obtain ⟨σ1, x1, x2, x4, x3⟩ := ex σ 1000 (by omega) h3 h4.1 ⟨rfl, fun _ _ => rfl, rfl, fun _ _ => rfl⟩
        have e94 : ∀ k, σ1 94 k = σ 94 k := fun k => x3 94 k (by omega) (by omega) (by omega) (by omega)
        obtain ⟨σ2, m1, m2, m3⟩ := em σ1 1000 (by omega) (fun j _ => e94 j) (fun j _ => e94 j)
        refine ⟨D' 0, σ1, σ2, ?_, ?_, ?_⟩
        · unfold f_X11_floods
          rw [within_eq, Option.bind_some, bI_1 c, h3.1, d3, if_neg c3, w1, if_neg z4]
          exact x1
        · unfold f_X12_floods
          rw [isIn_eq, Option.bind_some, bI_1 c, e94, d3, if_neg c3, e94, w2, if_neg z4]
          exact m1
        · refine (h.seed (D' 4)).days (σ1 := mup σ1 94 4 (D' 4)) (fun q k y1 y2 y3 => ?_) (x2.frame (fun r _ _ => mup_ne (by omega))) (fun q k y1 y2 y3 => ?_) m2 e1 ⟨d + n, by omega, by omega, by rw [e2, d3, nIa]⟩ (fun q hq => ?_)
          · by_cases z : q = 94 ∧ k = 4
            · rw [mup_t z, mup_t z]
            · by_cases z2 : q = 1 ∧ k = 5
              · rw [mup_o (by omega), mup_o (by omega), mup_t z2, z2.1, z2.2]; exact x4
              · rw [mup_o (by omega), mup_o (by omega), mup_o (by omega)]
                exact x3 q k y1 y2 y3 (by omega)
          · rw [m3 q k y1 y2 y3, mup_o (by omega)]
          · by_cases z : q = 4
            · rw [mup_t ⟨rfl, z⟩, z]
            · rw [mup_o (by omega), mup_o (by omega)]
              exact e3 q (by omega)
    · have c3 : (9999 : Int32) < nI d + nI n := by
        rw [nIa, show (9999 : Int32) = nI 9999 from rfl, nI_lt_iff (by omega) (by omega)]
        omega
      refine good_err h (k := 3) (by decide) ?_ (fun σ1 e => ?_)
      · unfold f_X11_floods
        rw [within_eq, Option.bind_some, bI_1 c, h3.1, d3, if_pos c3]
        rfl
      · unfold f_X12_floods
        rw [isIn_eq, Option.bind_some, bI_1 c, e 94 (by decide), d3, if_pos c3]
        rfl
  · refine good_err h (k := 1) (by decide) ?_ (fun σ1 e => ?_)
    · unfold f_X11_floods
      rw [within_eq, Option.bind_some, bI_0 c]
      rfl
    · unfold f_X12_floods
      rw [isIn_eq, Option.bind_some, bI_0 c]
      rfl
