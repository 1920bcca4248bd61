theorem wk_range {n day : Nat} {T : Nat → Int32} {dd : Nat → Nat} (hg : GM n T dd) (hn : n ≤ 9) : ∀ m p now, (p = -1 ∨ ∃ k, k < n ∧ p = nI k) → (wk T dd day m p now = -1 ∨ ∃ k, k < n ∧ wk T dd day m p now = nI k) := by
  intro m
  induction m with
  | zero => intro p now hp; exact Or.inl rfl
  | succ m ih =>
    intro p now hp
    unfold wk
    by_cases z : day ≤ now
    · rw [if_pos z]
      by_cases y : now = day
      · rw [if_pos y]; exact hp
      · rw [if_neg y]; exact Or.inl rfl
    · rw [if_neg z]
      rcases hp with rfl | ⟨k, hk, rfl⟩
      · rw [if_pos n1lt]; exact Or.inl rfl
      · rw [if_neg (nI_pos (by omega)), clI (by omega)]
        exact ih _ _ (hg k hk).1
/-- all finds are so -/
def aS (T : Nat → Int32) (dd : Nat → Nat) (D : Nat → Int32) : Nat → Nat → Bool
  | 0, _ => true
  | j + 1, f => if wk T dd (D (106 + 3 * f + 2)).toNatClampNeg 1000 (D (106 + 3 * f)) 0 = D (106 + 3 * f + 1) then aS T dd D j (f + 1) else false
theorem xall_go {σ : Sg} {n : Nat} {T : Nat → Int32} {dd : Nat → Nat} {D : Nat → Int32} (hg : GM n T dd) (hn : n ≤ 9) (hD : DOK D) (hw : wN D = n) (hc : σ 75 4 = nI n) (hr : ∀ w, w < n → σ 76 w = T w ∧ σ 77 w = nI (dd w)) (h3 : σ 2 3 = D 3) (hf : ∀ f, f < fN D → σ 3 f = D (106 + 3 * f) ∧ σ 4 f = D (106 + 3 * f + 1) ∧ σ 5 f = D (106 + 3 * f + 2)) : ∀ j f m, fN D - f = j → f ≤ fN D → j < m → c_X2_allSo_2 2 75 σ m (nI f) = some (if aS T dd D j f then 1 else 0) := by
  obtain ⟨b1, b2, b3, -⟩ := hD
  intro j
  induction j with
  | zero =>
    intro f m hj hf2 hm
    obtain ⟨m, rfl⟩ : ∃ k, m = k + 1 := ⟨m - 1, by omega⟩
    rw [c_X2_allSo_2, h3, b1, if_pos (nI_le (by omega) (by omega))]
    rfl
  | succ j ih =>
    intro f m hj hf2 hm
    obtain ⟨m, rfl⟩ : ∃ k, m = k + 1 := ⟨m - 1, by omega⟩
    obtain ⟨r1, r2, r3⟩ := hf f (by omega)
    obtain ⟨⟨k, k1, k2⟩, -, ⟨d, d1, d2, d3⟩⟩ := b3 f (by omega)
    have x1 : f_X9_placeOn 75 (nI k) (nI d) σ = some (wk T dd d 1000 (nI k) 0) := by
      unfold f_X9_placeOn
      exact xwalk_go (a := 75) hg hn hc hr (by omega) d (nI k) 0 0 1000 1000 (by omega) (by omega) (by omega) (by omega) (by omega) (Or.inr ⟨k, by omega, rfl⟩)
    have hX : f_X2_isSo 2 75 (nI f) σ = some (if wk T dd (D (106 + 3 * f + 2)).toNatClampNeg 1000 (D (106 + 3 * f)) 0 = D (106 + 3 * f + 1) then 1 else 0) := by
      unfold f_X2_isSo
      rw [pick_at (by omega) (by omega), Option.bind_some, pick_at (by omega) (by omega), Option.bind_some, r1, r3, k2, d3, x1, Option.bind_some, pick_at (by omega) (by omega), Option.bind_some, r2, clI (by omega)]
      split <;> rfl
    rw [c_X2_allSo_2, h3, b1, if_neg (nI_ge (by omega) (by omega)), hX, Option.bind_some]
    unfold aS
    by_cases z : wk T dd (D (106 + 3 * f + 2)).toNatClampNeg 1000 (D (106 + 3 * f)) 0 = D (106 + 3 * f + 1)
    · rw [bI_1 z, if_pos z, nIp1]
      exact ih (f + 1) m (by omega) (by omega) (by omega)
    · rw [bI_0 z, if_neg z]
      rfl
theorem mall_go {σ : Sg} {n : Nat} {T : Nat → Int32} {dd : Nat → Nat} {p2 p3 p4 : Int32} (hg : GM n T dd) (hn : n ≤ 9) (hD : DOK (σ 94)) (hw : wN (σ 94) = n) (h2 : p2 ≠ -1) (hr : ∀ w, w < n → (nI w = p2 → T w = p3 ∧ nI (dd w) = p4) ∧ (nI w ≠ p2 → T w = σ 94 (10 + 4 * w) ∧ nI (dd w) = σ 94 (10 + 4 * w + 1))) : ∀ j f m, fN (σ 94) - f = j → f ≤ fN (σ 94) → j < m → c_X12_areSo_3 σ m p2 p3 p4 (nI f) = some (if aS T dd (σ 94) j f then 1 else 0) := by
  obtain ⟨b1, b2, b3, -⟩ := hD
  intro j
  induction j with
  | zero =>
    intro f m hj hf2 hm
    obtain ⟨m, rfl⟩ : ∃ k, m = k + 1 := ⟨m - 1, by omega⟩
    rw [c_X12_areSo_3, b1, if_pos (nI_le (by omega) (by omega))]
    rfl
  | succ j ih =>
    intro f m hj hf2 hm
    obtain ⟨m, rfl⟩ : ∃ k, m = k + 1 := ⟨m - 1, by omega⟩
    obtain ⟨⟨k, k1, k2⟩, -, ⟨d, d1, d2, d3⟩⟩ := b3 f (by omega)
    have x1 : f_X12_walk (nI k) (nI d) p2 p3 p4 σ = some (wk T dd d 1000 (nI k) 0) := by
      unfold f_X12_walk
      exact mwalk_go hg hn h2 hr (by omega) d (nI k) 0 1000 1000 (by omega) (by omega) (by omega) (by omega) (Or.inr ⟨k, by omega, rfl⟩)
    have hM : f_X12_isSo (nI f) p2 p3 p4 σ = some (if wk T dd (σ 94 (106 + 3 * f + 2)).toNatClampNeg 1000 (σ 94 (106 + 3 * f)) 0 = σ 94 (106 + 3 * f + 1) then 1 else 0) := by
      have i0 := ixF0 f
      have i1 := ixF f 1
      have i2 := ixF f 2
      rw [show nI 1 = 1 from rfl] at i1
      rw [show nI 2 = 2 from rfl] at i2
      unfold f_X12_isSo
      rw [i1, i2, i0]
      simp (disch := omega) only [gdI]
      simp (disch := omega) only [clI]
      rw [k2, d3, x1, Option.bind_some, clI (by omega)]
      split <;> rfl
    rw [c_X12_areSo_3, b1, if_neg (nI_ge (by omega) (by omega)), hM, Option.bind_some]
    unfold aS
    by_cases z : wk T dd (σ 94 (106 + 3 * f + 2)).toNatClampNeg 1000 (σ 94 (106 + 3 * f)) 0 = σ 94 (106 + 3 * f + 1)
    · rw [bI_1 z, if_pos z, nIp1]
      exact ih (f + 1) m (by omega) (by omega) (by omega)
    · rw [bI_0 z, if_neg z]
      rfl
/-- a row's goings with another of p laid over -/
def oT (D : Nat → Int32) (p x : Nat) : Nat → Int32 := fun w => if w = p then nI x else gT D w
def oD (D : Nat → Int32) (p y : Nat) : Nat → Nat := fun w => if w = p then y else gD D w
theorem oGM {D : Nat → Int32} {m p x y : Nat} (h : WOK D m) (hx : x < wN D) (h1 : 1 ≤ y) (h2 : y ≤ 30) : GM (wN D) (oT D p x) (oD D p y) := fun w hw => by
  unfold oT oD
  by_cases z : w = p
  · rw [if_pos z, if_pos z]; exact ⟨Or.inr ⟨x, hx, rfl⟩, h1, h2⟩
  · rw [if_neg z, if_neg z]; exact GM_of h w hw
def okB (D : Nat → Int32) (p x y : Nat) : Bool := aS (oT D p x) (oD D p y) D (fN D) 0
def wkO (D : Nat → Int32) (p day x y w : Nat) : Int32 := wk (oT D p x) (oD D p y) day 1000 (nI w) 0
/-- the bit of a place -/
def qB (D : Nat → Int32) (p day x y w : Nat) : Nat := if wkO D p day x y w < 0 then 9 else (wkO D p day x y w).toNatClampNeg
theorem mwO {σ : Sg} {m p x y : Nat} (h : WOK (σ 94) m) (hp : p < wN (σ 94)) : ∀ w, w < wN (σ 94) → (nI w = nI p → oT (σ 94) p x w = nI x ∧ nI (oD (σ 94) p y w) = nI y) ∧ (nI w ≠ nI p → oT (σ 94) p x w = σ 94 (10 + 4 * w) ∧ nI (oD (σ 94) p y w) = σ 94 (10 + 4 * w + 1)) := fun w hw => by
  have b := h.2.2.1
  unfold oT oD
  rw [ne_eq, nI_eq_iff (by omega) (by omega)]
  refine ⟨fun z => by rw [if_pos z, if_pos z]; exact ⟨rfl, rfl⟩, fun z => ?_⟩
  rw [if_neg z, if_neg z]
  exact ⟨rfl, (gD_n h hw).symm⟩
theorem neg1 {p : Nat} (hp : p < 1000) : nI p ≠ -1 := fun e => absurd (e ▸ nI_pos' (show p < 2 ^ 31 by omega) : (0 : Int32) ≤ -1) (by decide)
theorem areSo_eq {σ : Sg} {m p x y : Nat} (h : WOK (σ 94) m) (hD : DOK (σ 94)) (hp : p < wN (σ 94)) (hx : x < wN (σ 94)) (h1 : 1 ≤ y) (h2 : y ≤ 30) : f_X12_areSo (nI p) (nI x) (nI y) σ = some (if okB (σ 94) p x y then 1 else 0) := by
  have b := h.2.2.1
  have b2 := hD.2.1
  unfold f_X12_areSo
  exact mall_go (oGM h hx h1 h2) b hD rfl (neg1 (by omega)) (mwO h hp) (fN (σ 94)) 0 1000 (by omega) (by omega) (by omega)
theorem walkO_eq {σ : Sg} {m p x y w day : Nat} (h : WOK (σ 94) m) (hp : p < wN (σ 94)) (hx : x < wN (σ 94)) (h1 : 1 ≤ y) (h2 : y ≤ 30) (hw : w < wN (σ 94)) (hd : day ≤ 900) : f_X12_walk (nI w) (nI day) (nI p) (nI x) (nI y) σ = some (wkO (σ 94) p day x y w) := by
  have b := h.2.2.1
  unfold f_X12_walk
  exact mwalk_go (oGM h hx h1 h2) b (neg1 (by omega)) (mwO h hp) (by omega) day (nI w) 0 1000 1000 (by omega) (by omega) (by omega) (by omega) (Or.inr ⟨w, hw, rfl⟩)
theorem qB_cases {D : Nat → Int32} {m p day x y w : Nat} (h : WOK D m) (hx : x < wN D) (h1 : 1 ≤ y) (h2 : y ≤ 30) (hw : w < wN D) : (wkO D p day x y w = -1 ∧ qB D p day x y w = 9) ∨ ∃ k, k < wN D ∧ wkO D p day x y w = nI k ∧ qB D p day x y w = k := by
  have b := h.2.2.1
  have hr := wk_range (day := day) (oGM (p := p) h hx h1 h2) b 1000 (nI w) 0 (Or.inr ⟨w, hw, rfl⟩)
  rcases hr with e | ⟨k, hk, e⟩
  · have e' : wkO D p day x y w = -1 := e
    refine Or.inl ⟨e', ?_⟩
    unfold qB
    rw [e', if_pos n1lt]
  · have e' : wkO D p day x y w = nI k := e
    refine Or.inr ⟨k, hk, e', ?_⟩
    unfold qB
    rw [e', if_neg (nI_pos (by omega)), clI (by omega)]
/-- what a search has found: how many, the first, to which wells, and the places of each start -/
def stp (D : Nat → Int32) (p day x y : Nat) (s : Nat × Int32 × Nat × (Nat → Nat)) : Nat × Int32 × Nat × (Nat → Nat) := if okB D p x y then (s.1 + 1, (if s.1 = 0 then nI (10 * x + y) else s.2.1), s.2.2.1 ||| 2 ^ x, fun w => if w < wN D then s.2.2.2 w ||| 2 ^ qB D p day x y w else s.2.2.2 w) else s
def inn (D : Nat → Int32) (p day x : Nat) : Nat → Nat → (Nat × Int32 × Nat × (Nat → Nat)) → (Nat × Int32 × Nat × (Nat → Nat))
  | 0, _, s => s
  | j + 1, y, s => inn D p day x j (y + 1) (stp D p day x y s)
def outr (D : Nat → Int32) (p day P : Nat) : Nat → Nat → (Nat × Int32 × Nat × (Nat → Nat)) → (Nat × Int32 × Nat × (Nat → Nat))
  | 0, _, s => s
  | j + 1, x, s => outr D p day P j (x + 1) (inn D p day x P 1 s)
theorem stp_c (D : Nat → Int32) (p day x y : Nat) (s : Nat × Int32 × Nat × (Nat → Nat)) : (stp D p day x y s).1 ≤ s.1 + 1 := by
  unfold stp
  split
  · exact Nat.le_refl _
  · omega
theorem inn_c (D : Nat → Int32) (p day x : Nat) : ∀ j y s, (inn D p day x j y s).1 ≤ s.1 + j
  | 0, _, _ => Nat.le_refl _
  | j + 1, y, s => by
    have a := inn_c D p day x j (y + 1) (stp D p day x y s)
    have b := stp_c D p day x y s
    show (inn D p day x j (y + 1) (stp D p day x y s)).1 ≤ _
    omega
def XR (σ : Sg) (s : Nat × Int32 × Nat × (Nat → Nat)) : Prop := σ 74 2 = nI s.1 ∧ σ 74 3 = s.2.1 ∧ σ 74 4 = nI s.2.2.1 ∧ ∀ w, w < 9 → σ 80 w = nI (s.2.2.2 w)
/-- the wells that are tried: all as they are but p -/
def WV (D : Nat → Int32) (p : Nat) (σ : Sg) : Prop := σ 75 4 = nI (wN D) ∧ ∀ w, w < wN D → w ≠ p → σ 76 w = gT D w ∧ σ 77 w = nI (gD D w)
def FR (σ σ0 : Sg) : Prop := ∀ r k, (r < 70 ∨ 80 < r) → σ r k = σ0 r k
theorem note_go {σ0 : Sg} {n day : Nat} {T : Nat → Int32} {dd : Nat → Nat} {q : Nat → Nat} (hg : GM n T dd) (hn : n ≤ 9) (hd : day ≤ 900) (hc : σ0 75 4 = nI n) (hr : ∀ w, w < n → σ0 76 w = T w ∧ σ0 77 w = nI (dd w)) (hq : ∀ w, w < n → (wk T dd day 1000 (nI w) 0 = -1 ∧ q w = 9) ∨ ∃ k, k < n ∧ wk T dd day 1000 (nI w) 0 = nI k ∧ q w = k) : ∀ j i m (σ : Sg) (pl : Nat → Nat), n - i = j → i ≤ n → j < m → (∀ r, r ≠ 80 → r ≠ 74 → σ r = σ0 r) → (∀ w, w < 9 → σ 80 w = nI (pl w)) → ∃ σ', c_X0_note_42 m (nI day) (nI i) σ = some σ' ∧ (∀ w, w < 9 → σ' 80 w = nI (if i ≤ w ∧ w < n then pl w ||| 2 ^ q w else pl w)) ∧ (∀ r, r ≠ 80 → σ' r = σ r) := by
  intro j
  induction j with
  | zero =>
    intro i m σ pl hj hi hm h0 h8
    obtain ⟨m, rfl⟩ : ∃ k, m = k + 1 := ⟨m - 1, by omega⟩
    refine ⟨σ, ?_, fun w hw => by rw [if_neg (by omega)]; exact h8 w hw, fun _ _ => rfl⟩
    rw [c_X0_note_42, h0 75 (by decide) (by decide), hc, if_pos (nI_le (by omega) (by omega))]
  | succ j ih =>
    intro i m σ pl hj hi hm h0 h8
    obtain ⟨m, rfl⟩ : ∃ k, m = k + 1 := ⟨m - 1, by omega⟩
    have e75 := h0 75 (by decide) (by decide)
    have e76 := h0 76 (by decide) (by decide)
    have e77 := h0 77 (by decide) (by decide)
    have x1 : f_X9_placeOn 75 (nI i) (nI day) σ = some (wk T dd day 1000 (nI i) 0) := by
      unfold f_X9_placeOn
      exact xwalk_go (a := 75) hg hn (by rw [e75]; exact hc) (fun w hw => by rw [e76, e77]; exact hr w hw) (by omega) day (nI i) 0 0 1000 1000 (by omega) (by omega) (by omega) (by omega) (by omega) (Or.inr ⟨i, by omega, rfl⟩)
    have hq9 : q i < 10 := by
      rcases hq i (by omega) with ⟨-, z⟩ | ⟨k, hk, -, z⟩ <;> omega
    have key : c_X0_note_42 (m + 1) (nI day) (nI i) σ = c_X0_note_42 m (nI day) (nI (i + 1)) (mup σ 80 i (nI (pl i ||| 2 ^ q i))) := by
      have k78 : c_X0_note_78 (c_X0_note_42 m) (nI day) (nI i) (nI (q i)) σ = c_X0_note_42 m (nI day) (nI (i + 1)) (mup σ 80 i (nI (pl i ||| 2 ^ q i))) := by
        unfold c_X0_note_78
        rw [pick_at (by omega) (by omega), Option.bind_some, h8 i (by omega), or_bit hq9, lay_at (by omega) (by omega), Option.bind_some, nIp1]
      rw [c_X0_note_42, e75, hc, if_neg (nI_ge (by omega) (by omega)), x1, Option.bind_some]
      rcases hq i (by omega) with ⟨z1, z2⟩ | ⟨k, hk, z1, z2⟩
      · rw [z1, if_neg (by decide), show (9 : Int32) = nI 9 from rfl, ← z2]
        exact k78
      · rw [z1, if_pos (nI_pos' (by omega)), ← z2]
        exact k78
    obtain ⟨σ', e1, e2, e3⟩ := ih (i + 1) m (mup σ 80 i (nI (pl i ||| 2 ^ q i))) (fun w => if w = i then pl i ||| 2 ^ q i else pl w) (by omega) (by omega) (by omega) (fun r a b => by rw [mup_ne a]; exact h0 r a b) (fun w hw => by
      show _ = nI (if w = i then pl i ||| 2 ^ q i else pl w)
      by_cases z : w = i
      · rw [if_pos z, mup_t ⟨rfl, z⟩]
      · rw [if_neg z, mup_o (by omega)]; exact h8 w hw)
    refine ⟨σ', key.trans e1, fun w hw => ?_, fun r hr2 => by rw [e3 r hr2, mup_ne hr2]⟩
    rw [e2 w hw]
    show nI (if i + 1 ≤ w ∧ w < n then (if w = i then pl i ||| 2 ^ q i else pl w) ||| 2 ^ q w else (if w = i then pl i ||| 2 ^ q i else pl w)) = _
    by_cases z : w = i
    · rw [if_neg (by omega), if_pos z, if_pos (by omega), z]
    · rw [if_neg z]
      by_cases y : i + 1 ≤ w ∧ w < n
      · rw [if_pos y, if_pos (by omega)]
      · rw [if_neg y, if_neg (by omega)]
theorem xinn_go {σ0 : Sg} {D : Nat → Int32} {m0 p day P x : Nat} (hW : WOK D m0) (hDk : DOK D) (hp : p < wN D) (hx : x < wN D) (hP : P ≤ 5) (hd : day ≤ 900) (h3 : σ0 2 3 = D 3) (hf : ∀ f, f < fN D → σ0 3 f = D (106 + 3 * f) ∧ σ0 4 f = D (106 + 3 * f + 1) ∧ σ0 5 f = D (106 + 3 * f + 2)) (k53 : Int32 → Int32 → Int32 → Int32 → Sg → Option Sg) : ∀ j y m (σ : Sg) s, P + 1 - y = j → 1 ≤ y → y ≤ P + 1 → j < m → s.1 + j ≤ 100000 → WV D p σ → FR σ σ0 → XR σ s → ∃ σ', c_X0_search_65 k53 32 2 m (nI p) (nI P) (nI day) (nI x) (nI y) σ = c_X0_search_111 k53 32 2 (nI p) (nI P) (nI day) (nI x) σ' ∧ WV D p σ' ∧ FR σ' σ0 ∧ XR σ' (inn D p day x j y s) := by
  have b := hW.2.2.1
  have b2 := hDk.2.1
  intro j
  induction j with
  | zero =>
    intro y m σ s hj h1 hy hm hs hV hF hR
    obtain ⟨m, rfl⟩ : ∃ k, m = k + 1 := ⟨m - 1, by omega⟩
    refine ⟨σ, ?_, hV, hF, hR⟩
    rw [c_X0_search_65, if_pos (nI_lt (by omega) (by omega))]
  | succ j ih =>
    intro y m σ s hj h1 hy hm hs hV hF hR
    obtain ⟨m, rfl⟩ : ∃ k, m = k + 1 := ⟨m - 1, by omega⟩
    have hlt : ¬ nI P < nI y := by rw [nI_lt_iff (by omega) (by omega)]; omega
    have hg := oGM (p := p) (y := y) hW hx h1 (by omega)
    generalize hσ1 : mup (mup σ 76 p (nI x)) 77 p (nI y) = σ1
    have o1 : ∀ r, r ≠ 76 → r ≠ 77 → σ1 r = σ r := fun r a c => by rw [← hσ1, mup_ne c, mup_ne a]
    have hc1 : σ1 75 4 = nI (wN D) := by rw [o1 75 (by decide) (by decide)]; exact hV.1
    have hr1 : ∀ w, w < wN D → σ1 76 w = oT D p x w ∧ σ1 77 w = nI (oD D p y w) := fun w hw => by
      unfold oT oD
      rw [← hσ1]
      by_cases z : w = p
      · subst z
        rw [if_pos rfl, if_pos rfl, mup_o (by omega), mup_s, mup_s]
        exact ⟨rfl, rfl⟩
      · rw [if_neg z, if_neg z, mup_o (by omega), mup_o (by omega), mup_o (by omega), mup_o (by omega)]
        exact hV.2 w hw z
    have hV1 : WV D p σ1 := ⟨hc1, fun w hw z => by
      have := hr1 w hw
      unfold oT oD at this
      rw [if_neg z, if_neg z] at this
      exact this⟩
    have hF1 : FR σ1 σ0 := fun r k hk => by rw [o1 r (by omega) (by omega)]; exact hF r k hk
    have hall : f_X2_allSo 2 75 σ1 = some (if okB D p x y then 1 else 0) := by
      unfold f_X2_allSo
      exact xall_go hg b hDk rfl hc1 hr1 (by rw [hF1 2 3 (by omega)]; exact h3) (fun f hf2 => by rw [hF1 3 f (by omega), hF1 4 f (by omega), hF1 5 f (by omega)]; exact hf f hf2) (fN D) 0 1000 (by omega) (by omega) (by omega)
    have hu : c_X0_search_65 k53 32 2 (m + 1) (nI p) (nI P) (nI day) (nI x) (nI y) σ = (if okB D p x y = true then (f_X0_note (nI x) (nI y) (nI day) σ1).bind (fun q9 => c_X0_search_65 k53 32 2 m (nI p) (nI P) (nI day) (nI x) (nI (y + 1)) q9) else c_X0_search_65 k53 32 2 m (nI p) (nI P) (nI day) (nI x) (nI (y + 1)) σ1) := by
      have hlead := lead_at (a := 75) (w := p) (to := nI x) (d := nI y) (σ := σ) (by omega)
      rw [c_X0_search_65, if_neg hlt, hlead, Option.bind_some]
      have e9 : mup (mup σ (75 + 1) p (nI x)) (75 + 2) p (nI y) = σ1 := hσ1
      rw [e9, hall, Option.bind_some]
      unfold c_X0_search_105
      rw [nIp1]
      by_cases z : okB D p x y = true
      · rw [bI_1 z, if_pos z]
      · rw [bI_0 z, if_neg z]
    have es : inn D p day x (j + 1) y s = inn D p day x j (y + 1) (stp D p day x y s) := rfl
    rw [es]
    by_cases z : okB D p x y = true
    · have e4 : stp D p day x y s = (s.1 + 1, (if s.1 = 0 then nI (10 * x + y) else s.2.1), s.2.2.1 ||| 2 ^ x, fun w => if w < wN D then s.2.2.2 w ||| 2 ^ qB D p day x y w else s.2.2.2 w) := by
        unfold stp
        rw [if_pos z]
      obtain ⟨c1, c2, c3, c4⟩ := hR
      have d1 : σ1 74 = σ 74 := o1 74 (by decide) (by decide)
      have d8 : σ1 80 = σ 80 := o1 80 (by decide) (by decide)
      generalize hσ2 : (mup (mup (if s.1 = 0 then mup σ1 74 3 (nI (10 * x + y)) else σ1) 74 2 (nI (s.1 + 1))) 74 4 (nI (s.2.2.1 ||| 2 ^ x))) = σ2
      have o2 : ∀ r, r ≠ 74 → σ2 r = σ1 r := fun r hr => by
        rw [← hσ2, mup_ne hr, mup_ne hr]
        split
        · rw [mup_ne hr]
        · rfl
      have hnote : f_X0_note (nI x) (nI y) (nI day) σ1 = c_X0_note_42 1000 (nI day) (nI 0) σ2 := by
        unfold f_X0_note c_X0_note_17
        have ix : (10 : Int32) * nI x + nI y = nI (10 * x + y) := by
          rw [show (10 : Int32) = nI 10 from rfl, pk_mul, nIa]
        have z0 : (nI s.1 = 0) ↔ s.1 = 0 := by rw [show (0 : Int32) = nI 0 from rfl, nI_eq_iff (by omega) (by omega)]
        rw [ix, d1, c1]
        by_cases q : s.1 = 0
        · rw [if_pos (z0.mpr q), ← hσ2, if_pos q]
          rw [mup_o (a := 74) (j := 3) (r := 74) (k := 2) (by omega), d1, c1, nIp1, mup_o (a := 74) (j := 2) (r := 74) (k := 4) (by omega), mup_o (a := 74) (j := 3) (r := 74) (k := 4) (by omega), d1, c3, or_bit (by omega)]
          rfl
        · rw [if_neg (fun e => q (z0.mp e)), ← hσ2, if_neg q]
          rw [nIp1, mup_o (a := 74) (j := 2) (r := 74) (k := 4) (by omega), d1, c3, or_bit (by omega)]
          rfl
      obtain ⟨σ3, n1, n2, n3⟩ := note_go (σ0 := σ1) (q := qB D p day x y) hg b hd hc1 hr1 (fun w hw => qB_cases hW hx h1 (by omega) hw) (wN D) 0 1000 σ2 s.2.2.2 (by omega) (by omega) (by omega) (fun r _ a => o2 r a) (fun w hw => by rw [o2 80 (by decide), d8]; exact c4 w hw)
      obtain ⟨σ', e1, e2, e3, e5⟩ := ih (y + 1) m σ3 (stp D p day x y s) (by omega) (by omega) (by omega) (by omega) (by have := stp_c D p day x y s; omega) ⟨by rw [n3 75 (by decide), o2 75 (by decide)]; exact hc1, fun w hw q => by rw [n3 76 (by decide), n3 77 (by decide), o2 76 (by decide), o2 77 (by decide)]; exact hV1.2 w hw q⟩ (fun r k hk => by rw [n3 r (by omega), o2 r (by omega)]; exact hF1 r k hk) (by
        rw [e4]
        refine ⟨?_, ?_, ?_, fun w hw => ?_⟩
        · rw [n3 74 (by decide), ← hσ2, mup_o (by omega), mup_s]
        · rw [n3 74 (by decide), ← hσ2, mup_o (by omega), mup_o (by omega)]
          show _ = if s.1 = 0 then nI (10 * x + y) else s.2.1
          by_cases q : s.1 = 0
          · rw [if_pos q, if_pos q, mup_s]
          · rw [if_neg q, if_neg q, d1]; exact c2
        · rw [n3 74 (by decide), ← hσ2, mup_s]
        · rw [n2 w hw]
          show _ = nI (if w < wN D then s.2.2.2 w ||| 2 ^ qB D p day x y w else s.2.2.2 w)
          by_cases q : w < wN D
          · rw [if_pos q, if_pos (by omega)]
          · rw [if_neg q, if_neg (by omega)])
      refine ⟨σ', ?_, e2, e3, e5⟩
      rw [hu, if_pos z, hnote, n1, Option.bind_some]
      exact e1
    · have e4 : stp D p day x y s = s := by unfold stp; rw [if_neg z]
      rw [e4]
      obtain ⟨σ', e1, e2, e3, e5⟩ := ih (y + 1) m σ1 s (by omega) (by omega) (by omega) (by omega) (by omega) hV1 hF1 ⟨by rw [o1 74 (by decide) (by decide)]; exact hR.1, by rw [o1 74 (by decide) (by decide)]; exact hR.2.1, by rw [o1 74 (by decide) (by decide)]; exact hR.2.2.1, fun w hw => by rw [o1 80 (by decide) (by decide)]; exact hR.2.2.2 w hw⟩
      refine ⟨σ', ?_, e2, e3, e5⟩
      rw [hu, if_neg z]
      exact e1
