def xb (g_X8_says : Int32 → Int32 → Int32 → Int32 → Sg → Option (Int32 × Sg)) (q3 q4 p2 p3 : Int32) (q5 : Sg) : Option (Int32 × Sg) := (if q4 = (10 : Int32) then (some ((p2 + (q5 81 3)), q5)) else (if q4 = (11 : Int32) then ((g_X8_says (q5 81 2) (0 : Int32) p2 (p3 + (1 : Int32)) q5).bind fun q6 => (some ((q6.1 * (2 : Int32)), q6.2))) else (if q4 = (12 : Int32) then (some ((p2 - (q5 81 4)), q5)) else (if q4 = (13 : Int32) then ((g_X8_says (q5 81 2) (1 : Int32) p2 (p3 + (1 : Int32)) q5).bind fun q7 => ((g_X8_says (q7.2 81 2) (2 : Int32) p2 (p3 + (1 : Int32)) q7.2).bind fun q8 => (some ((q7.1 ^^^ q8.1), q8.2)))) else (if q4 = (20 : Int32) then ((g_X8_says q3 (1 : Int32) p2 (p3 + (1 : Int32)) q5).bind fun q9 => ((g_X8_says (q9.2 81 2) (2 : Int32) (1 : Int32) (p3 + (1 : Int32)) q9.2).bind fun q10 => (some ((q9.1 - q10.1), q10.2)))) else (if q4 = (30 : Int32) then ((g_X8_says q3 (0 : Int32) p2 (p3 + (1 : Int32)) q5).bind fun q11 => (some ((q11.1 * (3 : Int32)), q11.2))) else (if q4 = (40 : Int32) then ((g_X8_says q3 (2 : Int32) p2 (p3 + (1 : Int32)) q5).bind fun q12 => (some ((-q12.1), q12.2))) else (if q4 = (50 : Int32) then ((g_X8_says q3 (1 : Int32) (p2 + (1 : Int32)) (p3 + (1 : Int32)) q5).bind fun q13 => (some (q13.1, q13.2))) else (if q4 = (60 : Int32) then ((g_X8_says q3 (3 : Int32) p2 (p3 + (1 : Int32)) q5).bind fun q14 => ((g_X8_says (q14.2 81 2) (0 : Int32) (2 : Int32) (p3 + (1 : Int32)) q14.2).bind fun q15 => (some ((q14.1 - q15.1), q15.2)))) else (if q4 = (70 : Int32) then ((g_X8_says q3 (0 : Int32) p2 (p3 + (1 : Int32)) q5).bind fun q16 => (some ((q16.1 ^^^ (q16.2 81 3)), q16.2))) else (if q4 = (71 : Int32) then ((g_X8_says (q5 81 2) (1 : Int32) p2 (p3 + (1 : Int32)) q5).bind fun q17 => ((g_X8_says q3 (3 : Int32) p2 (p3 + (1 : Int32)) q17.2).bind fun q18 => (some ((q17.1 - q18.1), q18.2)))) else (some ((0 : Int32), q5)))))))))))))
/-- where a body lies -/
def hdt (k a : Nat) : Nat := ([0, 0, 0, 0, 0, 1, 0, 0, 2, 0, 0, 0, 0, 0, 3, 0, 0, 4, 0, 0, 0, 0, 0, 5, 6, 0, 0, 6] : List Nat).getD (4 * k + a) 0
theorem hdt_lt : ∀ k, k < 7 → ∀ a, a < 4 → hdt k a < 7 := by decide
theorem pick_cong {r n : Nat} {p : Int32} {σ τ : Sg} (h : σ r = τ r) : f_X11_pick r n p σ = f_X11_pick r n p τ := by
  unfold f_X11_pick
  rw [h]
theorem hold_c {σ τ : Sg} (h1 : σ (1000000 + 1) = τ (1000000 + 1)) (h2 : σ (1000000 + 2) = τ (1000000 + 2)) : ∀ n x1 x2 x3, c_X8_holderOf_4 σ n x1 x2 x3 = c_X8_holderOf_4 τ n x1 x2 x3 := by
  intro n
  induction n with
  | zero => intros; rfl
  | succ n ih =>
    intro x1 x2 x3
    rw [c_X8_holderOf_4, c_X8_holderOf_4, pick_cong h2, pick_cong h1]
    simp only [ih]
theorem hold_all : ∀ k, k < 7 → ∀ a, a < 4 → f_X8_holderOf (nI k) (nI a) (mS00 (fun _ => 0)) = some (nI (hdt k a)) := by
  decide +kernel
/-- notes laid behind c others -/
def Ap (cr ck rr : Nat) (σ' σ : Sg) (c : Nat) (ns : List Int32) : Prop := (∀ r k, r ≠ rr → (r ≠ cr ∨ k ≠ ck) → σ' r k = σ r k) ∧ σ' cr ck = nI (c + ns.length) ∧ (∀ i, i < c → σ' rr i = σ rr i) ∧ (∀ i, i < ns.length → σ' rr (c + i) = ns.getD i 0)
theorem Ap.trans {cr ck rr c : Nat} {σ2 σ1 σ : Sg} {n1 n2 : List Int32} (h : Ap cr ck rr σ1 σ c n1) (g : Ap cr ck rr σ2 σ1 (c + n1.length) n2) : Ap cr ck rr σ2 σ c (n1 ++ n2) := by
  obtain ⟨h1, h2, h3, h4⟩ := h
  obtain ⟨g1, g2, g3, g4⟩ := g
  refine ⟨fun r k a b => (g1 r k a b).trans (h1 r k a b), by rw [g2, List.length_append, Nat.add_assoc], fun i hi => (g3 i (by omega)).trans (h3 i hi), fun i hi => ?_⟩
  rw [List.length_append] at hi
  by_cases z : i < n1.length
  · rw [g3 _ (by omega), h4 i z, List.getD_eq_getElem?_getD, List.getD_eq_getElem?_getD, List.getElem?_append_left z]
  · have := g4 (i - n1.length) (by omega)
    rw [show c + n1.length + (i - n1.length) = c + i by omega] at this
    rw [this, List.getD_eq_getElem?_getD, List.getD_eq_getElem?_getD, List.getElem?_append_right (by omega)]
def VX (K t : Nat) (mm : Int32) (σ : Sg) (c : Nat) : Prop := σ 81 2 = nI K ∧ σ 81 3 = nI t ∧ σ 81 4 = mm ∧ σ 81 1 = nI c ∧ σ 1000001 = mka ∧ σ 1000002 = mbod
def VM (K t : Nat) (mm : Int32) (σ : Sg) (c : Nat) : Prop := σ 93 16 = nI t ∧ σ 93 15 = nI c ∧ σ 94 (46 + 6 * t) = nI K ∧ σ 94 (46 + 6 * t + 1) = mm
theorem VX.keep {K t c : Nat} {mm : Int32} {σ σ' : Sg} {ns : List Int32} (h : VX K t mm σ c) (e : Ap 81 1 82 σ' σ c ns) : VX K t mm σ' (c + ns.length) := by
  obtain ⟨h1, h2, h3, h4, h5, h6⟩ := h
  obtain ⟨e1, e2, -, -⟩ := e
  exact ⟨by rw [e1 _ _ (by omega) (by omega)]; exact h1, by rw [e1 _ _ (by omega) (by omega)]; exact h2, by rw [e1 _ _ (by omega) (by omega)]; exact h3, e2, by rw [← h5]; exact rows_eq (fun k => e1 _ _ (by omega) (by omega)), by rw [← h6]; exact rows_eq (fun k => e1 _ _ (by omega) (by omega))⟩
theorem VM.keep {K t c : Nat} {mm : Int32} {σ σ' : Sg} {ns : List Int32} (h : VM K t mm σ c) (e : Ap 93 15 101 σ' σ c ns) : VM K t mm σ' (c + ns.length) := by
  obtain ⟨h1, h2, h3, h4⟩ := h
  obtain ⟨e1, e2, -, -⟩ := e
  exact ⟨by rw [e1 _ _ (by omega) (by omega)]; exact h1, e2, by rw [e1 _ _ (by omega) (by omega)]; exact h3, by rw [e1 _ _ (by omega) (by omega)]; exact h4⟩
theorem hold_eq {K t c k a : Nat} {mm : Int32} {σ : Sg} (hV : VX K t mm σ c) (hk : k < 7) (ha : a < 4) : f_X8_holderOf (nI k) (nI a) σ = some (nI (hdt k a)) := by
  rw [← hold_all k hk a ha]
  unfold f_X8_holderOf
  exact hold_c hV.2.2.2.2.1 hV.2.2.2.2.2 _ _ _ _
theorem xsay {K t c d f k a : Nat} {mm x : Int32} {σ : Sg} (hk : k < 7) (ha : a < 4) (hV : VX K t mm σ c) (hc : c < 40) (hd : d ≤ 40) : ∃ σ1, Ap 81 1 82 σ1 σ c [mbod (4 * hdt k a + a)] ∧ f_X8_says (f + 1) (nI k) (nI a) x (nI d) σ = xb (f_X8_says f) (mka (hdt k a)) (mbod (4 * hdt k a + a)) x (nI d) σ1 := by
  have hl := hdt_lt k hk a ha
  have hh := hold_eq hV hk ha
  generalize hdt k a = q at hl hh ⊢
  obtain ⟨h1, h2, h3, h4, h5, h6⟩ := hV
  have i4 : nI q * (4 : Int32) + nI a = nI (4 * q + a) := by
    rw [show (4 : Int32) = nI 4 from rfl, pk_mul, nIa, Nat.mul_comm]
  have p1 : f_X11_pick (1000000 + 1) 7 (nI q) σ = some (mka q) := by
    rw [pick_at hl (by omega)]
    exact congrArg (fun g => some (g q)) h5
  have p2 : f_X11_pick (1000000 + 2) 28 (nI (4 * q + a)) σ = some (mbod (4 * q + a)) := by
    rw [pick_at (by omega) (by omega)]
    exact congrArg (fun g => some (g (4 * q + a))) h6
  generalize mbod (4 * q + a) = B at p2 ⊢
  have n1 : f_X8_note B σ = some (mup (mup σ 82 c B) 81 1 (nI (c + 1))) := by
    unfold f_X8_note
    rw [h4, if_neg (by rw [show (40 : Int32) = nI 40 from rfl, nI_le_iff (by omega) (by omega)]; omega), lay_at hc (by omega), Option.bind_some, mup_o (by omega), h4, nIp1]
  refine ⟨mup (mup σ 82 c B) 81 1 (nI (c + 1)), ⟨fun r j a b => ?_, ?_, fun i hi => ?_, fun i hi => ?_⟩, ?_⟩
  · rw [mup_o (by omega), mup_o (by omega)]
  · rw [mup_s]; rfl
  · rw [mup_o (by omega), mup_o (by omega)]
  · have : i = 0 := by simp at hi; exact hi
    subst this
    rw [mup_o (by omega), Nat.add_zero, mup_s]
    rfl
  · rw [f_X8_says_s]
    unfold b_X8_says
    rw [if_pos (by rw [show (40 : Int32) = nI 40 from rfl, nI_le_iff (by omega) (by omega)]; omega), hh, Option.bind_some, p1, Option.bind_some, i4, p2, Option.bind_some, n1, Option.bind_some]
    rfl
theorem mran {K t c : Nat} {mm B : Int32} {σ : Sg} (hV : VM K t mm σ c) (hc : c < 40) : ∃ σ1, Ap 93 15 101 σ1 σ c [B] ∧ f_X12_ran B σ = some σ1 := by
  obtain ⟨h1, h2, h3, h4⟩ := hV
  refine ⟨mup (mup σ 101 c B) 93 15 (nI (c + 1)), ⟨fun r j a b => ?_, ?_, fun i hi => ?_, fun i hi => ?_⟩, ?_⟩
  · rw [mup_o (by omega), mup_o (by omega)]
  · rw [mup_s]; rfl
  · rw [mup_o (by omega), mup_o (by omega)]
  · have : i = 0 := by simp at hi; exact hi
    subst this
    rw [mup_o (by omega), Nat.add_zero, mup_s]
    rfl
  · unfold f_X12_ran
    rw [h2, if_neg (by rw [show (40 : Int32) = nI 40 from rfl, nI_le_iff (by omega) (by omega)]; omega), gdI hc (by omega), clI (by omega), mup_o (by omega), h2, nIp1]
def mAc (a f : Nat) (k x : Int32) (σ : Sg) : Option (Int32 × Sg) := if a = 0 then f_X12_sinks f k x σ else if a = 1 then f_X12_goes f k x σ else if a = 2 then f_X12_waitsFor f k x σ else f_X12_tells f k x σ
/-- both say the same of kind k, act a -/
def Sy (K t : Nat) (mm : Int32) (k a len H gm : Nat) : Prop := ∃ (v : Int32 → Int32) (ns : List Int32), ns.length ≤ len ∧ (∀ x σ c d f, VX K t mm σ c → c + len ≤ 40 → d + H ≤ 40 → H < f → ∃ σ', f_X8_says f (nI k) (nI a) x (nI d) σ = some (v x, σ') ∧ Ap 81 1 82 σ' σ c ns) ∧ (∀ x σ c f, VM K t mm σ c → c + len ≤ 40 → gm < f → ∃ σ', mAc a f (nI k) x σ = some (v x, σ') ∧ Ap 93 15 101 σ' σ c ns)
theorem Sy.mono {K t k a len H gm len' H' gm' : Nat} {mm : Int32} (h : Sy K t mm k a len H gm) (h1 : len ≤ len') (h2 : H ≤ H') (h3 : gm ≤ gm') : Sy K t mm k a len' H' gm' := by
  obtain ⟨v, ns, l, hx, hm⟩ := h
  exact ⟨v, ns, by omega, fun x σ c d f a b e g => hx x σ c d f a (by omega) (by omega) (by omega), fun x σ c f a b e => hm x σ c f a (by omega) (by omega)⟩
theorem Sy.up {K t k k' a len H gm : Nat} {mm : Int32} (hk : k < 7) (hk' : k' < 7) (ha : a < 4) (he : hdt k a = hdt k' a) (hm : ∀ f x σ, mAc a (f + 1) (nI k) x σ = (mAc a f (nI k') x σ).bind fun q => some (q.1, q.2)) (h : Sy K t mm k' a len H gm) : Sy K t mm k a len H (gm + 1) := by
  obtain ⟨v, ns, l, vx, vm⟩ := h
  refine ⟨v, ns, l, fun x σ c d f hV hc hd hf => ?_, fun x σ c f hV hc hf => ?_⟩
  · obtain ⟨f, rfl⟩ : ∃ n, f = n + 1 := ⟨f - 1, by omega⟩
    obtain ⟨σ', e1, e2⟩ := vx x σ c d (f + 1) hV hc hd hf
    refine ⟨σ', ?_, e2⟩
    rw [← e1, f_X8_says_s, f_X8_says_s]
    unfold b_X8_says
    rw [hold_eq hV hk ha, hold_eq hV hk' ha, he]
  · obtain ⟨f, rfl⟩ : ∃ n, f = n + 1 := ⟨f - 1, by omega⟩
    obtain ⟨σ', e1, e2⟩ := vm x σ c f hV hc (by omega)
    refine ⟨σ', ?_, e2⟩
    rw [hm, e1]
    rfl
theorem itsK {K t c : Nat} {mm : Int32} {σ : Sg} (hV : VM K t mm σ c) (ht : t < 10) : f_X12_itsKind (σ 93 16) σ = some (nI K) := by
  have i0 : (46 : Int32) + (6 : Int32) * nI t + 0 = nI (46 + 6 * t) := ixT t 0
  unfold f_X12_itsKind
  rw [hV.1, i0, gdI (by omega) (by omega), clI (by omega), hV.2.2.1]
