/-! what holds between the class's cells and the reference's rows -/
def wN (D : Nat → Int32) : Nat := (D 1).toNatClampNeg
def tN (D : Nat → Int32) : Nat := (D 2).toNatClampNeg
def fN (D : Nat → Int32) : Nat := (D 3).toNatClampNeg
def pN (D : Nat → Int32) : Nat := (D 5).toNatClampNeg
def aN (D : Nat → Int32) : Nat := (D 6).toNatClampNeg
/-- a small number -/
def Sm (x : Int32) (lo hi : Nat) : Prop := ∃ k : Nat, lo ≤ k ∧ k ≤ hi ∧ x = nI k
/-- a well's row -/
def WellOK (D : Nat → Int32) (w : Nat) : Prop := (D (10 + 4 * w) = -1 ∨ ∃ j, j < wN D ∧ D (10 + 4 * w) = nI j) ∧ Sm (D (10 + 4 * w + 1)) 1 30 ∧ Sm (D (10 + 4 * w + 2)) 0 99 ∧ Sm (D (10 + 4 * w + 3)) 0 1
def ThingOK (D : Nat → Int32) (t : Nat) : Prop := Sm (D (46 + 6 * t)) 0 6 ∧ Sm (D (46 + 6 * t + 1)) 0 30 ∧ Sm (D (46 + 6 * t + 2)) 0 2 ∧ ((D (46 + 6 * t + 2) = 2 ∧ D (46 + 6 * t + 3) = -1) ∨ ∃ j, j < wN D ∧ D (46 + 6 * t + 3) = nI j) ∧ ((D (46 + 6 * t + 2) = 1 ∧ Sm (D (46 + 6 * t + 4)) 1 200) ∨ (D (46 + 6 * t + 2) ≠ 1 ∧ D (46 + 6 * t + 4) = 0)) ∧ Sm (D (46 + 6 * t + 5)) 0 999999
def WOK (D : Nat → Int32) (most : Nat) : Prop := Sm (D 0) 0 most ∧ D 1 = nI (wN D) ∧ wN D ≤ 9 ∧ D 2 = nI (tN D) ∧ tN D ≤ 10 ∧ (∀ w, w < wN D → WellOK D w) ∧ (∀ t, t < tN D → ThingOK D t)
/-- a world's cells hold what a row holds -/
def RW (σ : Sg) (a : Nat) (D : Nat → Int32) : Prop := σ a 4 = D 0 ∧ σ (a + 1) 4 = D 1 ∧ σ (a + 6) 6 = D 2 ∧ (∀ w, w < wN D → σ (a + 2) w = D (10 + 4 * w) ∧ σ (a + 3) w = D (10 + 4 * w + 1) ∧ σ (a + 4) w = D (10 + 4 * w + 2) ∧ σ (a + 5) w = D (10 + 4 * w + 3)) ∧ (∀ t, t < tN D → σ (a + 7) t = D (46 + 6 * t) ∧ σ (a + 8) t = D (46 + 6 * t + 1) ∧ σ (a + 9) t = D (46 + 6 * t + 2) ∧ σ (a + 10) t = D (46 + 6 * t + 3) ∧ σ (a + 11) t = D (46 + 6 * t + 4) ∧ σ (a + 12) t = D (46 + 6 * t + 5))
/-- the same text: the class's pieces and the reference's bytes are worth the same, for all names -/
def TRx (code : Nat → Int32) (ln : Int32) (by_ : Nat → Int32) (n : Int32) (u : Nat) : Prop := Sm ln 1 50 ∧ Sm n 1 50 ∧ ∀ A B C F : Int32, ∃ v : Int32,
  (∀ (a : Nat) (σ : Sg), (∀ i, i < 50 → σ (a + 1) i = code i) → σ a 2 = ln → ∃ f, f_X6_worth a A B C F σ = some (v, mrow σ (a + 2) f)) ∧
  (∀ (base : Nat) (σ : Sg), base ≤ 264 → (∀ i, i < n.toNatClampNeg → σ 94 (base + i) = by_ i) → σ 98 0 = A → σ 98 1 = B → σ 98 2 = C → σ 98 3 = F → ∃ f, f_X12_worked (nI base) n (nI u) σ = some (v, mrow σ 93 f) ∧ ∀ k, k < 5 ∨ 10 < k → f k = σ 93 k)
def TR (σ : Sg) (c : Nat) (D : Nat → Int32) (u : Nat) : Prop := (D (142 + u) = 0 ∧ σ c 2 = 0) ∨ TRx (σ (c + 1)) (σ c 2) (fun i => D (164 + 50 * u + i)) (D (142 + u)) u
def DOK (D : Nat → Int32) : Prop := D 3 = nI (fN D) ∧ fN D ≤ 12 ∧ (∀ f, f < fN D → (∃ j, j < wN D ∧ D (106 + 3 * f) = nI j) ∧ (∃ j, j < wN D ∧ D (106 + 3 * f + 1) = nI j) ∧ Sm (D (106 + 3 * f + 2)) 1 99) ∧ D 5 = nI (pN D) ∧ pN D ≤ 50 ∧ (∀ i, i < pN D → Sm (D (264 + i)) 0 255) ∧ D 6 = nI (aN D) ∧ aN D ≤ 20
/-- a desk's cells hold what a row holds -/
def RD (σ : Sg) (b : Nat) (D : Nat → Int32) : Prop := σ b 5 = D 4 ∧ σ (b + 1) 3 = D 3 ∧ (∀ f, f < fN D → σ (b + 2) f = D (106 + 3 * f) ∧ σ (b + 3) f = D (106 + 3 * f + 1) ∧ σ (b + 4) f = D (106 + 3 * f + 2)) ∧ σ (b + 11) 1 = D 5 ∧ (∀ i, i < pN D → σ (b + 12) i = D (264 + i)) ∧ σ (b + 13) 1 = D 6 ∧ (∀ i, i < aN D → σ (b + 14) i = D (144 + i)) ∧ TR σ (b + 5) D 0 ∧ TR σ (b + 8) D 1
def SheetOK (σ : Sg) (s : Nat) : Prop := σ (84 + 2 * s) 1 = σ 102 s ∧ σ (84 + 2 * s) 2 = σ 103 s ∧ (σ 102 s = 0 ∨ σ 102 s = 8 ∨ σ 102 s = 16 ∨ σ 102 s = 32) ∧ Sm (σ 103 s) 0 40 ∧ (∀ i, i < 40 → σ (84 + 2 * s + 1) i = σ 104 (40 * s + i))
def Inv (xs : Nat → Int32) (σ : Sg) : Prop :=
  (WOK (σ 94) 9999 ∧ DOK (σ 94) ∧ RW σ 31 (σ 94) ∧ RD σ 1 (σ 94)) ∧
  (∀ k, k < 6 → σ 92 k = σ 97 k) ∧ σ 0 10 = σ 93 3 ∧
  (σ 93 3 = 0 ∨ (WOK (σ 96) 9999 ∧ DOK (σ 96) ∧ RW σ 57 (σ 96) ∧ RD σ 16 (σ 96))) ∧
  (Sm (σ 93 15) 0 40 ∧ σ 81 1 = σ 93 15 ∧ ∀ i, nI i < σ 93 15 → i < 40 → σ 82 i = σ 101 i) ∧
  (∀ s, s < 4 → SheetOK σ s) ∧
  σ 1000000 = xs ∧ σ 1000001 = mka ∧ σ 1000002 = mbod
/-- both answer alike, and all holds again -/
def Good (xs : Nat → Int32) (A : Option (Int32 × Sg)) (B : Sg → Option (Int32 × Sg)) : Prop := ∃ (r : Int32) (σ1 σ2 : Sg), A = some (r, σ1) ∧ B σ1 = some (r, σ2) ∧ Inv xs σ2
theorem RW.frame {σ σ' : Sg} {a : Nat} {D : Nat → Int32} (h : RW σ a D) (hf : ∀ r, a ≤ r → r ≤ a + 12 → σ' r = σ r) : RW σ' a D := by
  obtain ⟨h1, h2, h3, h4, h5⟩ := h
  have e : ∀ k, k ≤ 12 → σ' (a + k) = σ (a + k) := fun k hk => hf _ (by omega) (by omega)
  refine ⟨by rw [hf a (by omega) (by omega)]; exact h1, by rw [e 1 (by omega)]; exact h2, by rw [e 6 (by omega)]; exact h3, fun w hw => ?_, fun t ht => ?_⟩
  · rw [e 2 (by omega), e 3 (by omega), e 4 (by omega), e 5 (by omega)]; exact h4 w hw
  · rw [e 7 (by omega), e 8 (by omega), e 9 (by omega), e 10 (by omega), e 11 (by omega), e 12 (by omega)]; exact h5 t ht
theorem TR.frame {σ σ' : Sg} {c u : Nat} {D : Nat → Int32} (h : TR σ c D u) (h0 : σ' c 2 = σ c 2) (h1 : σ' (c + 1) = σ (c + 1)) : TR σ' c D u := by
  unfold TR at *
  rw [h0, h1]
  exact h
theorem RD.frame {σ σ' : Sg} {b : Nat} {D : Nat → Int32} (h : RD σ b D) (hf : ∀ r, b ≤ r → r ≤ b + 14 → r ≠ b + 7 → r ≠ b + 10 → σ' r = σ r) : RD σ' b D := by
  obtain ⟨h1, h2, h3, h4, h5, h6, h7, h8, h9⟩ := h
  have e : ∀ k, k ≤ 14 → k ≠ 7 → k ≠ 10 → σ' (b + k) = σ (b + k) := fun k hk _ _ => hf _ (by omega) (by omega) (by omega) (by omega)
  refine ⟨by rw [hf b (by omega) (by omega) (by omega) (by omega)]; exact h1, by rw [e 1 (by omega) (by omega) (by omega)]; exact h2, fun f hff => ?_, by rw [e 11 (by omega) (by omega) (by omega)]; exact h4, fun i hi => by rw [e 12 (by omega) (by omega) (by omega)]; exact h5 i hi, by rw [e 13 (by omega) (by omega) (by omega)]; exact h6, fun i hi => by rw [e 14 (by omega) (by omega) (by omega)]; exact h7 i hi, h8.frame (by rw [e 5 (by omega) (by omega) (by omega)]) (e 6 (by omega) (by omega) (by omega)), h9.frame (by rw [e 8 (by omega) (by omega) (by omega)]) (e 9 (by omega) (by omega) (by omega))⟩
  rw [e 2 (by omega) (by omega) (by omega), e 3 (by omega) (by omega) (by omega), e 4 (by omega) (by omega) (by omega)]
  exact h3 f hff
theorem SheetOK.frame {σ σ' : Sg} {s : Nat} (h : SheetOK σ s) (hs : s < 4) (hf : ∀ r, (84 ≤ r ∧ r ≤ 91) ∨ r = 102 ∨ r = 103 ∨ r = 104 → σ' r = σ r) : SheetOK σ' s := by
  obtain ⟨h1, h2, h3, h4, h5⟩ := h
  have e1 := hf (84 + 2 * s) (by omega)
  have e2 := hf (84 + 2 * s + 1) (by omega)
  refine ⟨by rw [e1, hf 102 (by omega)]; exact h1, by rw [e1, hf 103 (by omega)]; exact h2, by rw [hf 102 (by omega)]; exact h3, by rw [hf 103 (by omega)]; exact h4, fun i hi => by rw [e2, hf 104 (by omega)]; exact h5 i hi⟩
/-- only the counts of errors have changed, by the same -/
theorem Inv.errs {xs : Nat → Int32} {σ : Sg} (h : Inv xs σ) (k : Nat) (v : Int32) : Inv xs (mup (mup σ 92 k v) 97 k v) := by
  obtain ⟨⟨h1, h2, h3, h4⟩, h5, h6, h7, h8, h9, h10, h11, h12⟩ := h
  have e : ∀ r, r ≠ 92 → r ≠ 97 → mup (mup σ 92 k v) 97 k v r = σ r := fun r a b => by rw [mup_ne b, mup_ne a]
  have e94 := e 94 (by decide) (by decide)
  have e96 := e 96 (by decide) (by decide)
  have e93 := e 93 (by decide) (by decide)
  unfold Inv
  rw [e94, e96, e93, e 0 (by decide) (by decide), e 81 (by decide) (by decide), e 82 (by decide) (by decide), e 101 (by decide) (by decide), e 1000000 (by decide) (by decide), e 1000001 (by decide) (by decide), e 1000002 (by decide) (by decide)]
  refine ⟨⟨h1, h2, h3.frame (fun r _ _ => e r (by omega) (by omega)), h4.frame (fun r _ _ _ _ => e r (by omega) (by omega))⟩, fun j hj => ?_, h6, ?_, h8, fun s hs => (h9 s hs).frame hs (fun r hr => e r (by omega) (by omega)), h10, h11, h12⟩
  · simp only [mup_eq]
    by_cases z : j = k
    · simp [z]
    · simp [z]; exact h5 j hj
  · rcases h7 with z | ⟨z1, z2, z3, z4⟩
    · exact Or.inl z
    · exact Or.inr ⟨z1, z2, z3.frame (fun r _ _ => e r (by omega) (by omega)), z4.frame (fun r _ _ _ _ => e r (by omega) (by omega))⟩
theorem good_err {xs : Nat → Int32} {σ : Sg} (h : Inv xs σ) {k : Nat} (hk : k < 6) {A : Option (Int32 × Sg)} {B : Sg → Option (Int32 × Sg)} (hA : A = (f_X11_error (nI k) σ).bind fun q => some (q.1, q.2)) (hB : ∀ σ1, (∀ r, r ≠ 92 → σ1 r = σ r) → B σ1 = (f_X12_finds (nI k) σ1).bind fun q => some (q.1, q.2)) : Good xs A B := by
  rw [error_eq hk] at hA
  have e : ∀ r, r ≠ 92 → mup σ 92 k (σ 92 k + 1) r = σ r := fun r hr => mup_ne hr
  refine ⟨_, _, _, hA, ?_, h.errs k (σ 92 k + 1)⟩
  rw [hB _ e, finds_eq hk]
  have e2 : mup σ 92 k (σ 92 k + 1) 97 k = σ 92 k := by rw [mup_ne (by decide), h.2.1 k hk]
  simp only [Option.bind_some, e2]
