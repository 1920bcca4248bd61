/-- the reference ahead -/
def HF (σ' σ : Sg) : Prop := ∀ q j, q ≠ 98 → (q ≠ 93 ∨ j < 5 ∨ 10 < j) → q ≠ 95 → σ' q j = σ q j
theorem one_day {τ : Sg} {D0 D : Nat → Int32} {G : Nat → Int32 → Int32 → Int32 → Int32 → Int32} {m : Nat} (hG : ∀ A B C F, Sm (G 0 A B C F) 0 30) (gx : GX τ G) (gd : GD D0 G) (hW : WOK D m) (hm : m < 100000) : ∃ D', WOK D' (m + 1) ∧ (∀ q, (1 ≤ q ∧ q < 46) ∨ 106 ≤ q → D' q = D q) ∧ (∀ (a : Nat) (σ : Sg), 11 < a → RW σ a D → TXs σ τ → ∃ σ', f_X10_goBy a 6 9 1 σ = some σ' ∧ RW σ' a D' ∧ XF a σ' σ) ∧ (∀ (r : Nat) (σ : Sg), (r = 94 ∨ r = 95) → Row σ r D → TDs σ D0 → ∃ σ', f_X12_goesBy r σ = some σ' ∧ Row σ' r D' ∧ MF r σ' σ) := by
  obtain ⟨D', e1, e2, e3, ex, em⟩ := day_eq hG gx gd hW hm
  refine ⟨D', e1, e3, fun a σ ha hR hT => ?_, em⟩
  obtain ⟨σ', f1, f2, f3⟩ := ex a σ 999 1 0 ha hR hT (by decide)
  refine ⟨σ', ?_, f2, f3⟩
  unfold f_X10_goBy
  refine Eq.trans f1 ?_
  rw [c_X10_goBy_2, if_pos (by decide)]
theorem seen_go {τ : Sg} {D0 : Nat → Int32} {G : Nat → Int32 → Int32 → Int32 → Int32 → Int32} {n t : Nat} {p : Int32} (hG : ∀ A B C F, Sm (G 0 A B C F) 0 30) (gx : GX τ G) (gd : GD D0 G) (hn : n ≤ 200) : ∀ j i D m, WOK D m → m ≤ 50000 + i → n + 1 - i = j → i ≤ n + 1 → t < tN D → (∃ v, (∀ (σ : Sg) (f : Nat), j < f → RW σ 44 D → TXs σ τ → ∃ σ', c_X11_seen_59 f (nI n) (nI t) p (nI i) σ = some (v, σ') ∧ XF 44 σ' σ) ∧ (∀ (σ : Sg) (f : Nat), j < f → Row σ 95 D → TDs σ D0 → ∃ σ', c_X12_seen_48 f (nI n) (nI t) p (nI i) σ = some (v, σ') ∧ HF σ' σ)) ∨ ((∀ (σ : Sg) (f : Nat), j < f → RW σ 44 D → TXs σ τ → ∃ σ', (c_X11_seen_59 f (nI n) (nI t) p (nI i) σ = (f_X11_error (nI 2) σ').bind fun q => some (q.1, q.2)) ∧ XF 44 σ' σ) ∧ (∀ (σ : Sg) (f : Nat), j < f → Row σ 95 D → TDs σ D0 → ∃ σ', (c_X12_seen_48 f (nI n) (nI t) p (nI i) σ = (f_X12_finds (nI 2) σ').bind fun q => some (q.1, q.2)) ∧ HF σ' σ)) := by
  intro j
  induction j with
  | zero =>
    intro i D m hW hm hj hi ht
    refine Or.inr ⟨fun σ f hf hR hT => ⟨σ, ?_, fun _ _ _ _ _ => rfl⟩, fun σ f hf hr hT => ⟨σ, ?_, fun _ _ _ _ _ => rfl⟩⟩
    · obtain ⟨f, rfl⟩ : ∃ k, f = k + 1 := ⟨f - 1, by omega⟩
      rw [c_X11_seen_59, if_pos (nI_lt (by omega) (by omega))]
      rfl
    · obtain ⟨f, rfl⟩ : ∃ k, f = k + 1 := ⟨f - 1, by omega⟩
      rw [c_X12_seen_48, if_pos (nI_lt (by omega) (by omega))]
      rfl
  | succ j ih =>
    intro i D m hW hm hj hi ht
    have hlt : ¬ nI n < nI i := by rw [nI_lt_iff (by omega) (by omega)]; omega
    obtain ⟨D1, d1, d3, dx, dm⟩ := one_day hG gx gd hW (by omega)
    have tn : tN D1 = tN D := tN_cong (d3 2 (by omega))
    have hX : ∀ (σ : Sg) (f : Nat), RW σ 44 D → TXs σ τ → ∃ σ1, RW σ1 44 D1 ∧ XF 44 σ1 σ ∧ c_X11_seen_59 (f + 1) (nI n) (nI t) p (nI i) σ = (if wo D1 t = p then some (nI i, σ1) else c_X11_seen_59 f (nI n) (nI t) p (nI (i + 1)) σ1) := fun σ f hR hT => by
      obtain ⟨σ1, f1, f2, f3⟩ := dx 44 σ (by omega) hR hT
      refine ⟨σ1, f2, f3, ?_⟩
      have g := wellOf_eq (a := 44) (t := t) d1 f2 (by omega)
      rw [c_X11_seen_59, if_neg hlt, f1, Option.bind_some, show (50 : Nat) = 44 + 6 from rfl, g, Option.bind_some, nIp1]
    have hM : ∀ (σ : Sg) (f : Nat), Row σ 95 D → TDs σ D0 → ∃ σ1, Row σ1 95 D1 ∧ MF 95 σ1 σ ∧ c_X12_seen_48 (f + 1) (nI n) (nI t) p (nI i) σ = (if wo D1 t = p then some (nI i, σ1) else c_X12_seen_48 f (nI n) (nI t) p (nI (i + 1)) σ1) := fun σ f hr hT => by
      obtain ⟨σ1, f1, f2, f3⟩ := dm 95 σ (Or.inr rfl) hr hT
      refine ⟨σ1, f2, f3, ?_⟩
      rw [c_X12_seen_48, if_neg hlt, f1, Option.bind_some, inWhich_eq d1 f2 (by omega), Option.bind_some, nIp1]
    by_cases z : wo D1 t = p
    · refine Or.inl ⟨nI i, fun σ f hf hR hT => ?_, fun σ f hf hr hT => ?_⟩
      · obtain ⟨f, rfl⟩ : ∃ k, f = k + 1 := ⟨f - 1, by omega⟩
        obtain ⟨σ1, a1, a2, a3⟩ := hX σ f hR hT
        exact ⟨σ1, by rw [a3, if_pos z], a2⟩
      · obtain ⟨f, rfl⟩ : ∃ k, f = k + 1 := ⟨f - 1, by omega⟩
        obtain ⟨σ1, a1, a2, a3⟩ := hM σ f hr hT
        exact ⟨σ1, by rw [a3, if_pos z], fun q k x y w => a2 q k x y (Or.inl w)⟩
    · rcases ih (i + 1) D1 (m + 1) d1 (by omega) (by omega) (by omega) (by omega) with ⟨v, vx, vm⟩ | ⟨vx, vm⟩
      · refine Or.inl ⟨v, fun σ f hf hR hT => ?_, fun σ f hf hr hT => ?_⟩
        · obtain ⟨f, rfl⟩ : ∃ k, f = k + 1 := ⟨f - 1, by omega⟩
          obtain ⟨σ1, a1, a2, a3⟩ := hX σ f hR hT
          obtain ⟨σ', b1, b2⟩ := vx σ1 f (by omega) a1 (hT.keep (by omega) a2)
          exact ⟨σ', by rw [a3, if_neg z]; exact b1, b2.trans a2⟩
        · obtain ⟨f, rfl⟩ : ∃ k, f = k + 1 := ⟨f - 1, by omega⟩
          obtain ⟨σ1, a1, a2, a3⟩ := hM σ f hr hT
          obtain ⟨σ', b1, b2⟩ := vm σ1 f (by omega) a1 (hT.keep a2)
          exact ⟨σ', by rw [a3, if_neg z]; exact b1, fun q k x y w => (b2 q k x y w).trans (a2 q k x y (Or.inl w))⟩
      · refine Or.inr ⟨fun σ f hf hR hT => ?_, fun σ f hf hr hT => ?_⟩
        · obtain ⟨f, rfl⟩ : ∃ k, f = k + 1 := ⟨f - 1, by omega⟩
          obtain ⟨σ1, a1, a2, a3⟩ := hX σ f hR hT
          obtain ⟨σ', b1, b2⟩ := vx σ1 f (by omega) a1 (hT.keep (by omega) a2)
          exact ⟨σ', by rw [a3, if_neg z]; exact b1, b2.trans a2⟩
        · obtain ⟨f, rfl⟩ : ∃ k, f = k + 1 := ⟨f - 1, by omega⟩
          obtain ⟨σ1, a1, a2, a3⟩ := hM σ f hr hT
          obtain ⟨σ', b1, b2⟩ := vm σ1 f (by omega) a1 (hT.keep a2)
          exact ⟨σ', by rw [a3, if_neg z]; exact b1, fun q k x y w => (b2 q k x y w).trans (a2 q k x y (Or.inl w))⟩
