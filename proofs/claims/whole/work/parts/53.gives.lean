theorem mrow_self (σ : Sg) (a : Nat) : mrow σ a (σ a) = σ := by
  funext r
  unfold mrow
  by_cases z : r = a
  · rw [if_pos z, z]
  · rw [if_neg z]
theorem mrow_ne {σ : Sg} {a r : Nat} {f : Nat → Int32} (h : r ≠ a) : mrow σ a f r = σ r := by unfold mrow; rw [if_neg h]
theorem mrow_at (σ : Sg) (a : Nat) (f : Nat → Int32) : mrow σ a f a = f := by unfold mrow; rw [if_pos rfl]
/-- what the class's texts give, on every state that has the texts of τ -/
def GX (τ : Sg) (G : Nat → Int32 → Int32 → Int32 → Int32 → Int32) : Prop := ∀ σ : Sg, σ 6 2 = τ 6 2 → (∀ i, i < 50 → σ 7 i = τ 7 i) → σ 9 2 = τ 9 2 → (∀ i, i < 50 → σ 10 i = τ 10 i) → ∀ u, u < 2 → ∀ (a : Nat) (A B C F : Int32), ∃ f, f_X10_gives a 6 9 (nI u) A B C F σ = some (G u A B C F, mrow σ (8 + 3 * u) f)
/-- what the reference's texts give, on every state that has the texts of D -/
def GD (D : Nat → Int32) (G : Nat → Int32 → Int32 → Int32 → Int32 → Int32) : Prop := ∀ σ : Sg, (∀ j, j = 142 ∨ j = 143 ∨ (164 ≤ j ∧ j < 264) → σ 94 j = D j) → ∀ u, u < 2 → ∀ A B C F : Int32, ∃ σ', f_X12_gives (nI u) A B C F σ = some (G u A B C F, σ') ∧ ∀ r k, r ≠ 98 → (r ≠ 93 ∨ k < 5 ∨ 10 < k) → σ' r k = σ r k
theorem clamp_eq (v : Int32) : (if (0 : Int32) < (if v < (30 : Int32) then v else (30 : Int32)) then (if v < (30 : Int32) then v else (30 : Int32)) else (0 : Int32)) = (if (0 : Int32) ≤ v then (if v ≤ (30 : Int32) then v else (30 : Int32)) else (0 : Int32)) := by
  have e0 : (0 : Int32).toInt = 0 := rfl
  have e30 : (30 : Int32).toInt = 30 := rfl
  by_cases z1 : v < 30
  · rw [if_pos z1]
    by_cases z2 : 0 < v
    · rw [if_pos z2, if_pos (by rw [ile]; rw [ilt] at z2; omega), if_pos (by rw [ile]; rw [ilt] at z1; omega)]
    · rw [if_neg z2]
      by_cases z3 : 0 ≤ v
      · rw [if_pos z3, if_pos (by rw [ile]; rw [ilt] at z1; omega), ieq]
        rw [ilt] at z2
        rw [ile] at z3
        omega
      · rw [if_neg z3]
  · rw [if_neg z1, if_pos (by decide), if_pos (by rw [ile]; rw [ilt] at z1; omega)]
    by_cases z3 : v ≤ 30
    · rw [if_pos z3, ieq]
      rw [ilt] at z1
      rw [ile] at z3
      omega
    · rw [if_neg z3]
theorem held_Sm (v : Int32) : Sm (if (0 : Int32) ≤ v then (if v ≤ (30 : Int32) then v else (30 : Int32)) else (0 : Int32)) 0 30 := by
  by_cases z1 : 0 ≤ v
  · rw [if_pos z1]
    by_cases z2 : v ≤ 30
    · rw [if_pos z2]; exact Sm_of (by decide) (by decide) z1 z2
    · rw [if_neg z2]; exact ⟨30, by omega, by omega, rfl⟩
  · rw [if_neg z1]; exact ⟨0, by omega, by omega, rfl⟩
theorem held_eq (v : Int32) (σ : Sg) : f_X12_held v 0 30 σ = some (if (0 : Int32) ≤ v then (if v ≤ (30 : Int32) then v else (30 : Int32)) else (0 : Int32)) := by
  unfold f_X12_held
  by_cases z1 : 0 ≤ v
  · rw [if_pos z1, if_pos z1]
    by_cases z2 : v ≤ 30
    · rw [if_pos z2, if_pos z2]
    · rw [if_neg z2, if_neg z2]
  · rw [if_neg z1, if_neg z1]
theorem nIne0 {k : Nat} (h1 : 1 ≤ k) (h2 : k < 2000) : ¬ nI k = 0 := by
  rw [show (0 : Int32) = nI 0 from rfl, nI_eq_iff (by omega) (by omega)]
  omega
theorem nI_gt0 {k : Nat} (h1 : 1 ≤ k) (h2 : k < 2000) : ¬ nI k ≤ 0 := by
  rw [show (0 : Int32) = nI 0 from rfl, nI_le_iff (by omega) (by omega)]
  omega
theorem gives_one {τ : Sg} {D : Nat → Int32} {u : Nat} (hu : u < 2) (h : TR τ (6 + 3 * u) D u) (A B C F : Int32) : ∃ v, (u = 0 → Sm v 0 30) ∧ (∀ (a : Nat) (σ : Sg), σ (6 + 3 * u) 2 = τ (6 + 3 * u) 2 → (∀ i, i < 50 → σ (6 + 3 * u + 1) i = τ (6 + 3 * u + 1) i) → ∃ f, f_X10_gives a 6 9 (nI u) A B C F σ = some (v, mrow σ (8 + 3 * u) f)) ∧ (∀ σ : Sg, (∀ j, j = 142 ∨ j = 143 ∨ (164 ≤ j ∧ j < 264) → σ 94 j = D j) → ∃ σ', f_X12_gives (nI u) A B C F σ = some (v, σ') ∧ ∀ r k, r ≠ 98 → (r ≠ 93 ∨ k < 5 ∨ 10 < k) → σ' r k = σ r k) := by
  have i1 : (142 : Int32) + nI u = nI (142 + u) := by
    show nI 142 + nI u = _
    rw [nIa]
  have i2 : (164 : Int32) + (50 : Int32) * nI u = nI (164 + 50 * u) := by
    show nI 164 + nI 50 * nI u = _
    rw [pk_mul, nIa]
  rcases h with ⟨d0, l0⟩ | ⟨⟨l, l1, l2, l3⟩, ⟨n, n1, n2, n3⟩, hx⟩
  · have hM : ∀ σ : Sg, (∀ j, j = 142 ∨ j = 143 ∨ (164 ≤ j ∧ j < 264) → σ 94 j = D j) → f_X12_gives (nI u) A B C F σ = c_X12_gives_71 (nI u) (nI u) σ := fun σ e => by
      unfold f_X12_gives
      rw [i1, gdI (by omega) (by omega), clI (by omega), e _ (by omega), d0, if_pos (by decide)]
    match u, hu with
    | 0, _ =>
      refine ⟨0, fun _ => ⟨0, by omega, by omega, rfl⟩, fun a σ e1 e2 => ⟨σ 8, ?_⟩, fun σ e => ⟨σ, ?_, fun _ _ _ _ => rfl⟩⟩
      · unfold f_X10_gives
        have e3 : σ 6 2 = 0 := e1.trans l0
        rw [if_pos (show nI 0 = 0 from rfl), e3, if_pos rfl, mrow_self]
      · rw [hM σ e]
        rfl
    | 1, _ =>
      refine ⟨1, fun z => absurd z (by decide), fun a σ e1 e2 => ⟨σ 11, ?_⟩, fun σ e => ⟨σ, ?_, fun _ _ _ _ => rfl⟩⟩
      · unfold f_X10_gives
        have e3 : σ 9 2 = 0 := e1.trans l0
        rw [if_neg (show ¬ nI 1 = 0 by decide), e3, if_pos rfl, mrow_self]
      · rw [hM σ e]
        rfl
  · obtain ⟨v, v1, v2⟩ := hx A B C F
    have hM : ∀ σ : Sg, (∀ j, j = 142 ∨ j = 143 ∨ (164 ≤ j ∧ j < 264) → σ 94 j = D j) → ∃ σ', f_X12_gives (nI u) A B C F σ = c_X12_gives_71 (nI u) v σ' ∧ ∀ r k, r ≠ 98 → (r ≠ 93 ∨ k < 5 ∨ 10 < k) → σ' r k = σ r k := fun σ e => by
      generalize hs : mup (mup (mup (mup σ 98 0 A) 98 1 B) 98 2 C) 98 3 F = s
      have es : ∀ r k, r ≠ 98 → s r k = σ r k := fun r k a => by
        rw [← hs]; simp (disch := omega) only [mup_o]
      obtain ⟨f, f1, f2⟩ := v2 (164 + 50 * u) s (by omega) (fun i hi => by
        rw [n3, clI (by omega)] at hi
        rw [es _ _ (by omega), e _ (by omega)]) (by rw [← hs]; simp (disch := omega) only [mup_o, mup_s]) (by rw [← hs]; simp (disch := omega) only [mup_o, mup_s]) (by rw [← hs]; simp (disch := omega) only [mup_o, mup_s]) (by rw [← hs]; simp (disch := omega) only [mup_s])
      refine ⟨mrow s 93 f, ?_, fun r k a b => ?_⟩
      · unfold f_X12_gives
        rw [i1, i2, gdI (by omega) (by omega), gdI (by omega) (by omega), clI (by omega), hs, e _ (by omega), n3, if_neg (nI_gt0 n1 (by omega)), es _ _ (by omega), e _ (by omega), f1]
        rfl
      · by_cases z : r = 93
        · subst z
          rw [mrow_at, f2 k (by omega), es _ _ a]
        · rw [mrow_ne z, es _ _ a]
    match u, hu with
    | 0, _ =>
      refine ⟨_, fun _ => held_Sm v, fun a σ e1 e2 => ?_, fun σ e => ?_⟩
      · obtain ⟨f, hf⟩ := v1 6 σ e2 e1
        refine ⟨f, ?_⟩
        unfold f_X10_gives
        have e3 : σ 6 2 = nI l := e1.trans l3
        rw [if_pos (show nI 0 = 0 from rfl), e3, if_neg (nIne0 l1 (by omega)), hf]
        simp only [Option.bind_some]
        rw [clamp_eq]
      · obtain ⟨σ', g1, g2⟩ := hM σ e
        refine ⟨σ', ?_, g2⟩
        rw [g1]
        unfold c_X12_gives_71
        rw [if_pos (show nI 0 = 0 from rfl), held_eq]
        rfl
    | 1, _ =>
      refine ⟨v, fun z => absurd z (by decide), fun a σ e1 e2 => ?_, fun σ e => ?_⟩
      · obtain ⟨f, hf⟩ := v1 9 σ e2 e1
        refine ⟨f, ?_⟩
        unfold f_X10_gives
        have e3 : σ 9 2 = nI l := e1.trans l3
        rw [if_neg (show ¬ nI 1 = 0 by decide), e3, if_neg (nIne0 l1 (by omega)), hf]
        rfl
      · obtain ⟨σ', g1, g2⟩ := hM σ e
        refine ⟨σ', ?_, g2⟩
        rw [g1]
        unfold c_X12_gives_71
        rw [if_neg (show ¬ nI 1 = 0 by decide)]
theorem gives_ex {τ : Sg} {D : Nat → Int32} (h0 : TR τ 6 D 0) (h1 : TR τ 9 D 1) : ∃ G, (∀ A B C F, Sm (G 0 A B C F) 0 30) ∧ GX τ G ∧ GD D G := by
  have H : ∀ q : Nat × Int32 × Int32 × Int32 × Int32, ∃ v, q.1 < 2 → (q.1 = 0 → Sm v 0 30) ∧ (∀ (a : Nat) (σ : Sg), σ (6 + 3 * q.1) 2 = τ (6 + 3 * q.1) 2 → (∀ i, i < 50 → σ (6 + 3 * q.1 + 1) i = τ (6 + 3 * q.1 + 1) i) → ∃ f, f_X10_gives a 6 9 (nI q.1) q.2.1 q.2.2.1 q.2.2.2.1 q.2.2.2.2 σ = some (v, mrow σ (8 + 3 * q.1) f)) ∧ (∀ σ : Sg, (∀ j, j = 142 ∨ j = 143 ∨ (164 ≤ j ∧ j < 264) → σ 94 j = D j) → ∃ σ', f_X12_gives (nI q.1) q.2.1 q.2.2.1 q.2.2.2.1 q.2.2.2.2 σ = some (v, σ') ∧ ∀ r k, r ≠ 98 → (r ≠ 93 ∨ k < 5 ∨ 10 < k) → σ' r k = σ r k) := by
    rintro ⟨u, A, B, C, F⟩
    by_cases hu : u < 2
    · have ht : TR τ (6 + 3 * u) D u := by
        match u, hu with
        | 0, _ => exact h0
        | 1, _ => exact h1
      obtain ⟨v, hv⟩ := gives_one hu ht A B C F
      exact ⟨v, fun _ => hv⟩
    · exact ⟨0, fun z => absurd z hu⟩
  obtain ⟨g, hg⟩ := Classical.skolem.mp H
  refine ⟨fun u A B C F => g (u, A, B, C, F), fun A B C F => (hg (0, A, B, C, F) (show 0 < 2 by decide)).1 rfl, fun σ e1 e2 e3 e4 u hu a A B C F => ?_, fun σ e u hu A B C F => (hg (u, A, B, C, F) hu).2.2 σ e⟩
  refine (hg (u, A, B, C, F) hu).2.1 a σ ?_ ?_
  · match u, hu with
    | 0, _ => exact e1
    | 1, _ => exact e3
  · match u, hu with
    | 0, _ => exact e2
    | 1, _ => exact e4
/-- only the stacks of the texts and the reference's own hands have changed -/
theorem Inv.hands {xs : Nat → Int32} {σ σ2 : Sg} (h : Inv xs σ) (e : ∀ r k, r ≠ 8 → r ≠ 11 → (r < 44 ∨ 56 < r) → (r < 70 ∨ 80 < r) → (r ≠ 93 ∨ k < 5 ∨ (10 < k ∧ k ≠ 16)) → r ≠ 95 → r ≠ 98 → r ≠ 99 → r ≠ 100 → σ2 r k = σ r k) : Inv xs σ2 := by
  have eR : ∀ r, r ≠ 8 → r ≠ 11 → (r < 44 ∨ 56 < r) → (r < 70 ∨ 80 < r) → r ≠ 93 → r ≠ 95 → r ≠ 98 → r ≠ 99 → r ≠ 100 → σ2 r = σ r := fun r a b c d x y z u v => rows_eq (fun k => e r k a b c d (by omega) y z u v)
  obtain ⟨h1, h2, h3, h4⟩ := h.1
  have e94 := eR 94 (by omega) (by omega) (by omega) (by omega) (by omega) (by omega) (by omega) (by omega) (by omega)
  refine h.again ?_ (fun r hr => ?_) (e _ _ (by omega) (by omega) (by omega) (by omega) (by omega) (by omega) (by omega) (by omega) (by omega)) (e _ _ (by omega) (by omega) (by omega) (by omega) (by omega) (by omega) (by omega) (by omega) (by omega))
  · rw [e94]
    exact ⟨h1, h2, h3.frame (fun r _ _ => eR r (by omega) (by omega) (by omega) (by omega) (by omega) (by omega) (by omega) (by omega) (by omega)), h4.frame (fun r _ _ _ _ => eR r (by omega) (by omega) (by omega) (by omega) (by omega) (by omega) (by omega) (by omega) (by omega))⟩
  · unfold Keep at hr
    exact eR r (by omega) (by omega) (by omega) (by omega) (by omega) (by omega) (by omega) (by omega) (by omega)
theorem eq_law {xs : Nat → Int32} {σ : Sg} (h : Inv xs σ) (p0 p1 p2 p3 p4 : Int32) : Good xs (f_X11_law p0 p1 p2 p3 p4 σ) (f_X12_law p0 p1 p2 p3 p4) := by
  by_cases c : 0 ≤ p0 ∧ p0 ≤ 1
  · obtain ⟨u, hu, rfl⟩ := nI_getL (n := 1) (by decide) c.1 c.2
    have hr := h.1.2.2.2
    obtain ⟨G, -, gx, gd⟩ := gives_ex (τ := σ) (D := σ 94) hr.2.2.2.2.2.2.2.1 hr.2.2.2.2.2.2.2.2
    obtain ⟨f, hf⟩ := gx σ rfl (fun _ _ => rfl) rfl (fun _ _ => rfl) u (by omega) 31 p1 p2 p3 p4
    obtain ⟨σ2, g1, g2⟩ := gd (mrow σ (8 + 3 * u) f) (fun j _ => by rw [mrow_ne (by omega)]) u (by omega) p1 p2 p3 p4
    have hU : f_X11_isUse (nI u) σ = some 1 := by
      match u, hu with
      | 0, _ => rfl
      | 1, _ => rfl
    refine ⟨G u p1 p2 p3 p4, mrow σ (8 + 3 * u) f, σ2, ?_, ?_, ?_⟩
    · unfold f_X11_law
      rw [hU]
      simp only [Option.bind_some]
      rw [if_neg one_ne, hf]
      rfl
    · unfold f_X12_law
      rw [isIn_eq]
      simp only [Option.bind_some]
      rw [bI_1 c, g1]
      rfl
    · refine h.hands (fun r k a b c d x y z v w => ?_)
      rw [g2 _ _ z (by omega), mrow_ne (by omega)]
  · have hU : f_X11_isUse p0 σ = some 0 := by
      unfold f_X11_isUse
      rw [if_neg (fun z => c (by rw [z]; decide)), if_neg (fun z => c (by rw [z]; decide))]
    refine good_err h (k := 1) (by decide) ?_ (fun σ1 e => ?_)
    · unfold f_X11_law
      rw [hU]
      rfl
    · unfold f_X12_law
      rw [isIn_eq]
      simp only [Option.bind_some]
      rw [bI_0 c]
      rfl
