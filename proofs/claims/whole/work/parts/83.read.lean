/-! texts: what both readers see -/
def nb (B : Nat → Int32) (n p : Nat) : Int32 := if p < n then B p else -1
def XS (B : Nat → Int32) (n u p c : Nat) (σ : Sg) : Prop := σ 70 2 = nI u ∧ σ 70 3 = nI p ∧ σ 12 1 = nI n ∧ (∀ i, i < n → σ 13 i = B i) ∧ σ 71 2 = nI c
def XK (σ' σ : Sg) : Prop := ∀ r k, r ≠ 72 → (r ≠ 70 ∨ k ≠ 3) → (r ≠ 71 ∨ k ≠ 2) → σ' r k = σ r k
def XO (σ' σ : Sg) (p' c : Nat) (cd : List Int32) : Prop := σ' 70 3 = nI p' ∧ σ' 71 2 = nI (c + cd.length) ∧ (∀ j, j < c → σ' 72 j = σ 72 j) ∧ (∀ j, j < cd.length → σ' 72 (c + j) = cd.getD j 0) ∧ XK σ' σ
theorem XK.trans {a b c : Sg} (h : XK a b) (g : XK b c) : XK a c := fun r k x y z => (h r k x y z).trans (g r k x y z)
theorem XO.trans {σ2 σ1 σ : Sg} {p1 p2 c : Nat} {n1 n2 : List Int32} (h : XO σ1 σ p1 c n1) (g : XO σ2 σ1 p2 (c + n1.length) n2) : XO σ2 σ p2 c (n1 ++ n2) := by
  obtain ⟨h1, h2, h3, h4, h5⟩ := h
  obtain ⟨g1, g2, g3, g4, g5⟩ := g
  refine ⟨g1, by rw [g2, List.length_append, Nat.add_assoc], fun i hi => (g3 i (by omega)).trans (h3 i hi), fun i hi => ?_, g5.trans h5⟩
  rw [List.length_append] at hi
  by_cases z : i < n1.length
  · rw [g3 _ (by omega), h4 i z, List.getD_eq_getElem?_getD, List.getD_eq_getElem?_getD, List.getElem?_append_left z]
  · have := g4 (i - n1.length) (by omega)
    rw [show c + n1.length + (i - n1.length) = c + i by omega] at this
    rw [this, List.getD_eq_getElem?_getD, List.getD_eq_getElem?_getD, List.getElem?_append_right (by omega)]
theorem XS.keep {B : Nat → Int32} {n u p c p' : Nat} {σ σ' : Sg} {cd : List Int32} (h : XS B n u p c σ) (g : XO σ' σ p' c cd) : XS B n u p' (c + cd.length) σ' := by
  obtain ⟨h1, h2, h3, h4, h5⟩ := h
  obtain ⟨g1, g2, g3, g4, g5⟩ := g
  exact ⟨by rw [g5 _ _ (by omega) (by omega) (by omega)]; exact h1, g1, by rw [g5 _ _ (by omega) (by omega) (by omega)]; exact h3, fun i hi => by rw [g5 _ _ (by omega) (by omega) (by omega)]; exact h4 i hi, g2⟩
/-- one byte further -/
theorem XO.at1 {B : Nat → Int32} {n u p c : Nat} {σ : Sg} (h : XS B n u p c σ) : XO (mup σ 70 3 (σ 70 3 + 1)) σ (p + 1) c [] := by
  refine ⟨by rw [mup_s, h.2.1, nIp1], by rw [mup_o (by omega)]; exact h.2.2.2.2, fun j hj => by rw [mup_o (by omega)], fun j hj => absurd hj (by simp), fun r k a b c => mup_o (by omega)⟩
theorem x_append {B : Nat → Int32} {n u p c : Nat} {σ : Sg} {v : Int32} (h : XS B n u p c σ) (hc : c < 50) : ∃ σ', f_X6_append 71 v σ = some σ' ∧ XO σ' σ p c [v] := by
  obtain ⟨h1, h2, h3, h4, h5⟩ := h
  refine ⟨mup (mup σ 72 c v) 71 2 (nI (c + 1)), ?_, ?_, ?_, fun j hj => ?_, fun j hj => ?_, fun r k a b d => ?_⟩
  · unfold f_X6_append
    rw [h5, lay_at hc (by omega), Option.bind_some, mup_o (by omega), h5, nIp1]
  · rw [mup_o (by omega), mup_o (by omega)]; exact h2
  · rw [mup_s]; rfl
  · rw [mup_o (by omega), mup_o (by omega)]
  · have : j = 0 := by simp at hj; exact hj
    subst this
    rw [mup_o (by omega), Nat.add_zero, mup_s]
    rfl
  · rw [mup_o (by omega), mup_o (by omega)]
theorem x_next {B : Nat → Int32} {n u p c : Nat} {σ : Sg} (h : XS B n u p c σ) (hp : p ≤ n) (hn : n ≤ 50) : f_X3_next σ = some (nb B n p) := by
  obtain ⟨h1, h2, h3, h4, h5⟩ := h
  unfold f_X3_next nb
  rw [h2, h3, if_neg (nI_pos (by omega))]
  by_cases z : p < n
  · rw [if_pos z, if_neg (nI_ge z (by omega)), if_neg (by rw [show (50 : Int32) = nI 50 from rfl, nI_le_iff (by omega) (by omega)]; omega), gdI (by omega) (by omega), clI (by omega), h4 p z]
  · rw [if_neg z, if_pos (nI_le (by omega) (by omega))]
def MS (B : Nat → Int32) (base n o p : Nat) (sl : Int32) (σ : Sg) : Prop := σ 93 5 = nI base ∧ σ 93 6 = nI p ∧ σ 93 7 = nI n ∧ σ 93 8 = -1 ∧ σ 93 9 = nI o ∧ σ 93 10 = sl ∧ ∀ i, i < n → σ 94 (base + i) = B i
def MK (σ' σ : Sg) : Prop := ∀ r k, (r ≠ 93 ∨ (k ≠ 6 ∧ k ≠ 8 ∧ k ≠ 9)) → σ' r k = σ r k
theorem MK.trans {a b c : Sg} (h : MK a b) (g : MK b c) : MK a c := fun r k x => (h r k x).trans (g r k x)
theorem MK.at (σ : Sg) (v : Int32) : MK (mup σ 93 6 v) σ := fun r k h => mup_o (by omega)
theorem m_here {B : Nat → Int32} {base n o p : Nat} {sl : Int32} {σ : Sg} (h : MS B base n o p sl σ) (hp : p ≤ n) (hn : n ≤ 50) (hb : base ≤ 264) : f_X12_here σ = some (nb B n p) := by
  obtain ⟨h1, h2, h3, h4, h5, h6, h7⟩ := h
  unfold f_X12_here nb
  rw [h1, h2, h3, h4]
  by_cases z : p < n
  · rw [if_pos z, if_neg (nI_ge z (by omega)), if_neg (by decide), nIa, gdI (by omega) (by omega), clI (by omega), h7 p z]
  · rw [if_neg z, if_pos (nI_le (by omega) (by omega))]
theorem m_bad {σ : Sg} (h : 0 ≤ σ 93 8) : f_X12_here σ = some (-1) := by
  unfold f_X12_here
  by_cases z : σ 93 7 ≤ σ 93 6
  · rw [if_pos z]
  · rw [if_neg z, if_pos h]
theorem MS.at1 {B : Nat → Int32} {base n o p : Nat} {sl : Int32} {σ : Sg} (h : MS B base n o p sl σ) : MS B base n o (p + 1) sl (mup σ 93 6 (σ 93 6 + 1)) := by
  obtain ⟨h1, h2, h3, h4, h5, h6, h7⟩ := h
  refine ⟨?_, ?_, ?_, ?_, ?_, ?_, fun i hi => ?_⟩
  · rw [mup_o (by omega)]; exact h1
  · rw [mup_s, h2, nIp1]
  · rw [mup_o (by omega)]; exact h3
  · rw [mup_o (by omega)]; exact h4
  · rw [mup_o (by omega)]; exact h5
  · rw [mup_o (by omega)]; exact h6
  · rw [mup_o (by omega)]; exact h7 i hi
theorem m_wrong {B : Nat → Int32} {base n o p : Nat} {sl : Int32} {σ : Sg} (h : MS B base n o p sl σ) : f_X12_wrong σ = some (0, mup σ 93 8 (nI p)) := by
  unfold f_X12_wrong
  rw [h.2.2.2.1, if_neg (by decide), h.2.1]
theorem m_wrong2 {σ : Sg} (h : 0 ≤ σ 93 8) : f_X12_wrong σ = some (0, mup σ 93 8 (σ 93 8)) := by
  unfold f_X12_wrong
  rw [if_pos h]
/-- two joined -/
theorem joined_ex (op v w : Int32) : ∃ r, f_X6_joined op v w (fun _ _ => 0) = some r := by
  unfold f_X6_joined c_X6_joined_92
  by_cases w0 : w = 0
  · by_cases v0 : v = 0
    · simp only [w0, v0, if_true]
      repeat' split
      all_goals exact ⟨_, rfl⟩
    · simp only [w0, if_true]
      repeat' split
      all_goals exact ⟨_, rfl⟩
  · simp only [if_neg w0]
    repeat' split
    all_goals exact ⟨_, rfl⟩
def jn (op v w : Int32) : Int32 := (f_X6_joined op v w (fun _ _ => 0)).getD 0
theorem joined_eq (op v w : Int32) (σ : Sg) : f_X6_joined op v w σ = some (jn op v w) := by
  obtain ⟨r, hr⟩ := joined_ex op v w
  have e : f_X6_joined op v w σ = f_X6_joined op v w (fun _ _ => 0) := rfl
  rw [e]
  unfold jn
  rw [hr]
  rfl
/-- a piece of code leaves one value -/
def Wk (cd : List Int32) (V : Int32 → Int32 → Int32 → Int32 → Int32) : Prop := 1 ≤ cd.length ∧ ∀ (a m : Nat) (A Bb C F : Int32) (s i L : Nat) (σ : Sg) (x5 : Int32), x5 + 1 = nI s → s ≤ i → i + cd.length ≤ L → L ≤ 50 → σ a 2 = nI L → (∀ j, j < cd.length → σ (a + 1) (i + j) = cd.getD j 0) → ∃ σ', c_X6_worth_6 a (m + cd.length) A Bb C F x5 (nI i) σ = c_X6_worth_6 a m A Bb C F (nI s) (nI (i + cd.length)) σ' ∧ σ' (a + 2) s = V A Bb C F ∧ (∀ j, j < s → σ' (a + 2) j = σ (a + 2) j) ∧ (∀ r, r ≠ a + 2 → σ' r = σ r)
theorem Wk_num {k : Nat} (hk : k ≤ 100000) : Wk [nI k] (fun _ _ _ _ => nI k) := by
  refine ⟨Nat.le_refl _, fun a m A Bb C F s i L σ x5 h5 hs hL hL2 h2 hc => ?_⟩
  have hL' : i + 1 ≤ L := hL
  have c0 : σ (a + 1) i = nI k := hc 0 (show 0 < 1 by omega)
  have n4 : ¬ nI k < (-4 : Int32) := by
    rw [ilt, nI_toInt (by omega)]
    have : (-4 : Int32).toInt = -4 := rfl
    omega
  refine ⟨mup σ (a + 2) s (nI k), ?_, by rw [mup_s], fun j hj => mup_o (by omega), fun r hr => mup_ne hr⟩
  show c_X6_worth_6 a (m + 1) A Bb C F x5 (nI i) σ = c_X6_worth_6 a m A Bb C F (nI s) (nI (i + 1)) _
  rw [c_X6_worth_6, h2, if_neg (nI_ge (by omega) (by omega)), pick_at (by omega) (by omega), Option.bind_some, c0, if_neg n4, if_neg (nI_pos (by omega))]
  unfold c_X6_worth_64 c_X6_worth_144
  rw [h5, lay_at (by omega) (by omega), Option.bind_some, nIp1]
def nmd (q : Nat) (A Bb C F : Int32) : Int32 := if q = 0 then A else if q = 1 then Bb else if q = 2 then C else F
theorem Wk_name {q : Nat} (hq : q < 4) : Wk [(-1 : Int32) - nI q] (nmd q) := by
  refine ⟨Nat.le_refl _, fun a m A Bb C F s i L σ x5 h5 hs hL hL2 h2 hc => ?_⟩
  have hL' : i + 1 ≤ L := hL
  have c0 : σ (a + 1) i = (-1 : Int32) - nI q := hc 0 (show 0 < 1 by omega)
  have n4 : ¬ (-1 : Int32) - nI q < (-4 : Int32) ∧ (-1 : Int32) - nI q < 0 ∧ f_X6_named ((-1 : Int32) - ((-1 : Int32) - nI q)) A Bb C F σ = some (nmd q A Bb C F) := by
    obtain rfl | rfl | rfl | rfl : q = 0 ∨ q = 1 ∨ q = 2 ∨ q = 3 := by omega
    · exact ⟨by decide, by decide, rfl⟩
    · exact ⟨by decide, by decide, rfl⟩
    · exact ⟨by decide, by decide, rfl⟩
    · exact ⟨by decide, by decide, rfl⟩
  refine ⟨mup σ (a + 2) s (nmd q A Bb C F), ?_, by rw [mup_s], fun j hj => mup_o (by omega), fun r hr => mup_ne hr⟩
  show c_X6_worth_6 a (m + 1) A Bb C F x5 (nI i) σ = c_X6_worth_6 a m A Bb C F (nI s) (nI (i + 1)) _
  rw [c_X6_worth_6, h2, if_neg (nI_ge (by omega) (by omega)), pick_at (by omega) (by omega), Option.bind_some, c0, if_neg n4.1, if_pos n4.2.1, n4.2.2, Option.bind_some]
  unfold c_X6_worth_64 c_X6_worth_144
  rw [h5, lay_at (by omega) (by omega), Option.bind_some, nIp1]
theorem getD_l {l1 l2 : List Int32} {j : Nat} (h : j < l1.length) : (l1 ++ l2).getD j 0 = l1.getD j 0 := by
  rw [List.getD_eq_getElem?_getD, List.getD_eq_getElem?_getD, List.getElem?_append_left h]
theorem getD_r {l1 l2 : List Int32} (j : Nat) : (l1 ++ l2).getD (l1.length + j) 0 = l2.getD j 0 := by
  rw [List.getD_eq_getElem?_getD, List.getD_eq_getElem?_getD, List.getElem?_append_right (by omega), Nat.add_sub_cancel_left]
theorem Wk_not {cd : List Int32} {V : Int32 → Int32 → Int32 → Int32 → Int32} (h : Wk cd V) : Wk (cd ++ [-33]) (fun A Bb C F => if V A Bb C F = 0 then 1 else 0) := by
  obtain ⟨h0, h⟩ := h
  refine ⟨by rw [List.length_append]; omega, fun a m A Bb C F s i L σ x5 h5 hs hL hL2 h2 hc => ?_⟩
  have hl : (cd ++ [(-33 : Int32)]).length = cd.length + 1 := by rw [List.length_append]; rfl
  rw [hl] at hL hc ⊢
  obtain ⟨σ1, e1, e2, e3, e4⟩ := h a (m + 1) A Bb C F s i L σ x5 h5 hs (by omega) hL2 h2 (fun j hj => by rw [hc j (by omega), getD_l hj])
  have c0 : σ (a + 1) (i + cd.length) = -33 := by
    rw [hc cd.length (by omega)]
    have := getD_r (l1 := cd) (l2 := [(-33 : Int32)]) 0
    rw [Nat.add_zero] at this
    rw [this]; rfl
  refine ⟨mup σ1 (a + 2) s (if V A Bb C F = 0 then 1 else 0), ?_, by rw [mup_s], fun j hj => by rw [mup_o (by omega)]; exact e3 j hj, fun r hr => by rw [mup_ne hr]; exact e4 r hr⟩
  rw [show m + (cd.length + 1) = m + 1 + cd.length by omega, e1]
  rw [c_X6_worth_6, e4 a (by omega), h2, if_neg (nI_ge (by omega) (by omega)), pick_at (by omega) (by omega), Option.bind_some, e4 (a + 1) (by omega), c0, if_pos (by decide), if_pos rfl, pick_at (by omega) (by omega), Option.bind_some, e2]
  unfold c_X6_worth_100 c_X6_worth_144
  by_cases z : V A Bb C F = 0
  · rw [if_pos z, if_pos z, lay_at (by omega) (by omega), Option.bind_some, nIp1]; rfl
  · rw [if_neg z, if_neg z, lay_at (by omega) (by omega), Option.bind_some, nIp1]; rfl
theorem Wk_bin {c1 c2 : List Int32} {V1 V2 : Int32 → Int32 → Int32 → Int32 → Int32} {op : Int32} (h1 : Wk c1 V1) (h2 : Wk c2 V2) (ho : -op < (-4 : Int32)) (ho2 : -op ≠ -33) (ho3 : -(-op) = op) : Wk (c1 ++ (c2 ++ [-op])) (fun A Bb C F => jn op (V1 A Bb C F) (V2 A Bb C F)) := by
  obtain ⟨a1, h1⟩ := h1
  obtain ⟨a2, h2⟩ := h2
  refine ⟨by rw [List.length_append]; omega, fun a m A Bb C F s i L σ x5 h5 hs hL hL2 hA hc => ?_⟩
  have hl : (c1 ++ (c2 ++ [-op])).length = c1.length + (c2.length + 1) := by rw [List.length_append, List.length_append]; rfl
  rw [hl] at hL hc ⊢
  obtain ⟨σ1, e1, e2, e3, e4⟩ := h1 a (m + 1 + c2.length) A Bb C F s i L σ x5 h5 hs (by omega) hL2 hA (fun j hj => by rw [hc j (by omega), getD_l hj])
  obtain ⟨σ2, g1, g2, g3, g4⟩ := h2 a (m + 1) A Bb C F (s + 1) (i + c1.length) L σ1 (nI s) (nIp1 s) (by omega) (by omega) hL2 (by rw [e4 a (by omega)]; exact hA) (fun j hj => by rw [e4 (a + 1) (by omega), Nat.add_assoc, hc _ (by omega), getD_r, getD_l hj])
  have c0 : σ (a + 1) (i + c1.length + c2.length) = -op := by
    rw [Nat.add_assoc, hc _ (by omega), getD_r]
    have := getD_r (l1 := c2) (l2 := [-op]) 0
    rw [Nat.add_zero] at this
    rw [this]; rfl
  refine ⟨mup σ2 (a + 2) s (jn op (V1 A Bb C F) (V2 A Bb C F)), ?_, by rw [mup_s], fun j hj => by rw [mup_o (by omega), g3 j (by omega)]; exact e3 j hj, fun r hr => by rw [mup_ne hr, g4 r hr]; exact e4 r hr⟩
  rw [show m + (c1.length + (c2.length + 1)) = m + 1 + c2.length + c1.length by omega, e1, g1]
  have sm : nI (s + 1) + (-1 : Int32) = nI s := by rw [← nIm1 s, Int32.sub_eq_add_neg]
  rw [c_X6_worth_6, g4 a (by omega), e4 a (by omega), hA, if_neg (nI_ge (by omega) (by omega)), pick_at (by omega) (by omega), Option.bind_some, g4 (a + 1) (by omega), e4 (a + 1) (by omega), c0, if_pos ho, if_neg ho2, sm, nIp1, pick_at (by omega) (by omega), Option.bind_some, pick_at (by omega) (by omega), Option.bind_some, g3 s (by omega), e2, g2, ho3, joined_eq, Option.bind_some, lay_at (by omega) (by omega), Option.bind_some]
  unfold c_X6_worth_144
  rw [nIp1, show i + c1.length + c2.length + 1 = i + (c1.length + (c2.length + 1)) by omega]
