/-- the weight from u to v, carried or sent -/
def ew (T : Nat → Int32) (w : Nat → Nat) (c u v : Nat) : Nat := if T u = nI v then (if c ≤ w u then c else w u) else c
theorem ew_le {T : Nat → Int32} {w : Nat → Nat} {c u v : Nat} : ew T w c u v ≤ c := by
  unfold ew
  split
  · split <;> omega
  · exact Nat.le_refl _
theorem gdN {α : Type} {k n : Nat} {y : Option α} (h : k < n) (hn : n ≤ 100000) : (if nI k < 0 ∨ n ≤ k then none else y) = y := if_neg (fun z => by
  rcases z with z | z
  · exact nI_pos (by omega) z
  · omega)
theorem relax_go {n c u : Nat} {T : Nat → Int32} {w : Nat → Nat} {x4 : Int32} {F : Nat → Int32} (hn : n ≤ 9) (hu : u < n) (hc : c ≤ 99) (hw : w u ≤ 99) (h1 : F 1 = nI n) (hT : F (10 + 4 * u) = T u) (hx : ∀ v, v < n → T u = nI v → (x4 = 0 → F (10 + 4 * v + 2) = nI (w u)) ∧ (x4 ≠ 0 → F (10 + 4 * u + 1) = nI (w u))) : ∀ j i m (σ : Sg) (C : Nat → Nat), n - i = j → i ≤ n → j < m → σ 94 = F → (∀ v, v < 9 → σ 99 v = nI (C v)) → (∀ v, C v ≤ 100000000) → ∀ (k46 : Int32 → Int32 → Int32 → Int32 → Sg → Option (Int32 × Sg)) (x2 x5 : Int32), ∃ (σ' : Sg) (C' : Nat → Nat), c_X12_least_132 k46 m x2 (nI c) x4 x5 (nI u) (nI i) σ = c_X12_least_249 k46 x2 (nI c) x4 x5 σ' ∧ (∀ v, v < 9 → σ' 99 v = nI (C' v)) ∧ (∀ r, r ≠ 99 → σ' r = σ r) ∧ (∀ v, C' v = if i ≤ v ∧ v < n ∧ C u + ew T w c u v < C v then C u + ew T w c u v else C v) := by
  intro j
  induction j with
  | zero =>
    intro i m σ C hj hi hm hF hC hb k46 x2 x5
    obtain ⟨m, rfl⟩ : ∃ k, m = k + 1 := ⟨m - 1, by omega⟩
    refine ⟨σ, C, ?_, hC, fun _ _ => rfl, fun v => by rw [if_neg (by omega)]⟩
    rw [c_X12_least_132, hF, h1, if_pos (nI_le (by omega) (by omega))]
  | succ j ih =>
    intro i m σ C hj hi hm hF hC hb k46 x2 x5
    obtain ⟨m, rfl⟩ : ∃ k, m = k + 1 := ⟨m - 1, by omega⟩
    have el := ew_le (T := T) (w := w) (c := c) (u := u) (v := i)
    have b1 := hb u
    have b2 := hb i
    have key : c_X12_least_132 k46 (m + 1) x2 (nI c) x4 x5 (nI u) (nI i) σ = c_X12_least_196 k46 (c_X12_least_132 k46 m) x2 (nI c) x4 x5 (nI u) (nI i) (nI (ew T w c u i)) σ := by
      have i0 := itsWell_at (w := u) (c := 0) (σ := σ) (by omega) (by omega)
      have i1 := itsWell_at (w := u) (c := 1) (σ := σ) (by omega) (by omega)
      have i2 := itsWell_at (w := i) (c := 2) (σ := σ) (by omega) (by omega)
      rw [show nI 0 = 0 from rfl, Nat.add_zero, hF, hT] at i0
      rw [show nI 1 = 1 from rfl, hF] at i1
      rw [show nI 2 = 2 from rfl, hF] at i2
      rw [c_X12_least_132, hF, h1, if_neg (nI_ge (by omega) (by omega)), i0, Option.bind_some]
      by_cases z : T u = nI i
      · obtain ⟨y1, y2⟩ := hx i (by omega) z
        rw [if_pos z]
        have e9 : ew T w c u i = if c ≤ w u then c else w u := by unfold ew; rw [if_pos z]
        by_cases y : x4 = 0
        · rw [if_pos y, i2, Option.bind_some, y1 y]
          unfold c_X12_least_180 c_X12_least_194
          simp (disch := omega) only [nI_le_iff]
          rw [e9]
          by_cases q : c ≤ w u
          · rw [if_pos q, if_pos q]
          · rw [if_neg q, if_neg q]
        · rw [if_neg y, i1, Option.bind_some, y2 y]
          unfold c_X12_least_180 c_X12_least_194
          simp (disch := omega) only [nI_le_iff]
          rw [e9]
          by_cases q : c ≤ w u
          · rw [if_pos q, if_pos q]
          · rw [if_neg q, if_neg q]
      · rw [if_neg z]
        have e9 : ew T w c u i = c := by unfold ew; rw [if_neg z]
        rw [e9]
    have key2 : c_X12_least_196 k46 (c_X12_least_132 k46 m) x2 (nI c) x4 x5 (nI u) (nI i) (nI (ew T w c u i)) σ = c_X12_least_132 k46 m x2 (nI c) x4 x5 (nI u) (nI (i + 1)) (mup σ 99 i (nI (if C i ≤ C u + ew T w c u i then C i else C u + ew T w c u i))) := by
      unfold c_X12_least_196
      rw [gdI (by omega) (by omega), gdI (by omega) (by omega), clI (by omega), clI (by omega), hC i (by omega), hC u (by omega), nIa]
      simp (disch := omega) only [nI_le_iff]
      unfold c_X12_least_242
      rw [nIp1]
      by_cases q : C i ≤ C u + ew T w c u i
      · rw [if_pos q, if_pos q, gdN (by omega) (by omega), gdI (by omega) (by omega), clI (by omega)]
      · rw [if_neg q, if_neg q, gdN (by omega) (by omega), gdI (by omega) (by omega), clI (by omega)]
    obtain ⟨σ', C', e1, e2, e3, e4⟩ := ih (i + 1) m (mup σ 99 i (nI (if C i ≤ C u + ew T w c u i then C i else C u + ew T w c u i))) (fun v => if v = i then (if C i ≤ C u + ew T w c u i then C i else C u + ew T w c u i) else C v) (by omega) (by omega) (by omega) (by rw [mup_ne (by decide)]; exact hF) (fun v hv => by
      show _ = nI (if v = i then _ else C v)
      by_cases z : v = i
      · rw [if_pos z, mup_t ⟨rfl, z⟩]
      · rw [if_neg z, mup_o (by omega)]; exact hC v hv) (fun v => by
      show (if v = i then _ else C v) ≤ _
      have := hb v
      split
      · split <;> omega
      · omega) k46 x2 x5
    refine ⟨σ', C', key.trans (key2.trans e1), e2, fun r hr => by rw [e3 r hr, mup_ne hr], fun v => ?_⟩
    have cu : (if u = i then (if C i ≤ C u + ew T w c u i then C i else C u + ew T w c u i) else C u) = C u := by
      by_cases z : u = i
      · subst z; rw [if_pos rfl, if_pos (by omega)]
      · rw [if_neg z]
    have := e4 v
    simp only [cu] at this
    rw [this]
    by_cases z : v = i
    · subst z
      rw [if_pos rfl, if_neg (by omega)]
      by_cases q : C v ≤ C u + ew T w c u v
      · rw [if_pos q, if_neg (by omega)]
      · rw [if_neg q, if_pos (by omega)]
    · rw [if_neg z]
      by_cases q : i + 1 ≤ v ∧ v < n ∧ C u + ew T w c u v < C v
      · rw [if_pos q, if_pos (by omega)]
      · rw [if_neg q, if_neg (by omega)]
def Bst (C : Nat → Nat) (B : Nat → Bool) (i : Nat) (x6 : Int32) : Prop := (x6 = -1 ∧ ∀ v, v < i → B v = true) ∨ (∃ u, x6 = nI u ∧ u < i ∧ B u = false ∧ ∀ v, v < i → B v = false → C u ≤ C v)
theorem choose_go {n : Nat} {σ : Sg} {C : Nat → Nat} {B : Nat → Bool} (hn : n ≤ 9) (h1 : σ 94 1 = nI n) (hC : ∀ v, v < 9 → σ 99 v = nI (C v)) (hb : ∀ v, C v ≤ 100000000) (hB : ∀ v, v < 9 → σ 100 v = if B v then 1 else 0) (hex : ¬ ∀ v, v < n → B v = true) (k46 : Int32 → Int32 → Int32 → Int32 → Sg → Option (Int32 × Sg)) (x2 x3 x4 x5 : Int32) : ∀ j i m x6, n - i = j → i ≤ n → j < m → Bst C B i x6 → ∃ u, u < n ∧ B u = false ∧ (∀ v, v < n → B v = false → C u ≤ C v) ∧ c_X12_least_63 k46 m x2 x3 x4 x5 x6 (nI i) σ = c_X12_least_121 k46 x2 x3 x4 x5 (nI u) σ := by
  intro j
  induction j with
  | zero =>
    intro i m x6 hj hi hm hs
    obtain ⟨m, rfl⟩ : ∃ k, m = k + 1 := ⟨m - 1, by omega⟩
    rcases hs with ⟨-, z⟩ | ⟨u, rfl, u1, u2, u3⟩
    · exact absurd (fun v hv => z v (by omega)) hex
    · refine ⟨u, by omega, u2, fun v hv => u3 v (by omega), ?_⟩
      rw [c_X12_least_63, h1, if_pos (nI_le (by omega) (by omega))]
  | succ j ih =>
    intro i m x6 hj hi hm hs
    obtain ⟨m, rfl⟩ : ∃ k, m = k + 1 := ⟨m - 1, by omega⟩
    have take : ((∀ v, v < i → B v = false → C i ≤ C v) ∧ B i = false) → ∃ u, u < n ∧ B u = false ∧ (∀ v, v < n → B v = false → C u ≤ C v) ∧ c_X12_least_63 k46 m x2 x3 x4 x5 (nI i) (nI (i + 1)) σ = c_X12_least_121 k46 x2 x3 x4 x5 (nI u) σ := fun z => by
      refine ih (i + 1) m (nI i) (by omega) (by omega) (by omega) (Or.inr ⟨i, rfl, by omega, z.2, fun v hv hv2 => ?_⟩)
      by_cases y : v = i
      · rw [y]; exact Nat.le_refl _
      · exact z.1 v (by omega) hv2
    have hbi := hB i (by omega)
    by_cases z : B i = true
    · clear take
      rw [if_pos z] at hbi
      obtain ⟨u, u1, u2, u3, u4⟩ := ih (i + 1) m x6 (by omega) (by omega) (by omega) (by
        rcases hs with ⟨y, x⟩ | ⟨u, x0, x1, x2, x3⟩
        · refine Or.inl ⟨y, fun v hv => ?_⟩
          by_cases q : v = i
          · rw [q]; exact z
          · exact x v (by omega)
        · refine Or.inr ⟨u, x0, by omega, x2, fun v hv hv2 => ?_⟩
          by_cases q : v = i
          · rw [q, z] at hv2; exact absurd hv2 (by decide)
          · exact x3 v (by omega) hv2)
      refine ⟨u, u1, u2, u3, ?_⟩
      rw [c_X12_least_63, h1, if_neg (nI_ge (by omega) (by omega)), gdI (by omega) (by omega), clI (by omega), hbi, if_neg one_ne]
      unfold c_X12_least_111 c_X12_least_113
      rw [nIp1]
      exact u4
    · have z' : B i = false := by revert z; cases B i <;> simp
      rw [if_neg z] at hbi
      rcases hs with ⟨y, x⟩ | ⟨u, rfl, x1, y2, x3⟩
      · obtain ⟨u, u1, u2, u3, u4⟩ := take ⟨fun v hv hv2 => by rw [x v hv] at hv2; exact absurd hv2 (by decide), z'⟩
        refine ⟨u, u1, u2, u3, ?_⟩
        rw [c_X12_least_63, h1, if_neg (nI_ge (by omega) (by omega)), gdI (by omega) (by omega), clI (by omega), hbi, if_pos rfl, y, if_pos n1lt]
        unfold c_X12_least_106 c_X12_least_113
        rw [nIp1]
        exact u4
      · have b1 := hb u
        have b2 := hb i
        by_cases q : C u ≤ C i
        · clear take
          obtain ⟨u', u1, u2, u3, u4⟩ := ih (i + 1) m (nI u) (by omega) (by omega) (by omega) (Or.inr ⟨u, rfl, by omega, y2, fun v hv hv2 => by
            by_cases p : v = i
            · rw [p]; exact q
            · exact x3 v (by omega) hv2⟩)
          refine ⟨u', u1, u2, u3, ?_⟩
          rw [c_X12_least_63, h1, if_neg (nI_ge (by omega) (by omega)), gdI (by omega) (by omega), clI (by omega), hbi, if_pos rfl, if_neg (nI_pos (by omega)), gdN (by omega) (by omega), gdI (by omega) (by omega), clI (by omega), hC u (by omega), hC i (by omega), if_pos (nI_le q (by omega))]
          unfold c_X12_least_111 c_X12_least_113
          rw [nIp1]
          exact u4
        · obtain ⟨u', u1, u2, u3, u4⟩ := take ⟨fun v hv hv2 => by have := x3 v hv hv2; omega, z'⟩
          refine ⟨u', u1, u2, u3, ?_⟩
          rw [c_X12_least_63, h1, if_neg (nI_ge (by omega) (by omega)), gdI (by omega) (by omega), clI (by omega), hbi, if_pos rfl, if_neg (nI_pos (by omega)), gdN (by omega) (by omega), gdI (by omega) (by omega), clI (by omega), hC u (by omega), hC i (by omega), if_neg (by rw [nI_le_iff (by omega) (by omega)]; omega)]
          unfold c_X12_least_106 c_X12_least_113
          rw [nIp1]
          exact u4
theorem lstart_go {n s c : Nat} {x2 x4 : Int32} (hs : s < 9) : ∀ j i m (σ : Sg), 9 - i = j → i ≤ 9 → j < m → (∀ v, v < i → σ 99 v = nI (if v = s then 0 else 100000000) ∧ σ 100 v = 0) → ∃ σ', c_X12_least_3 m (nI s) x2 (nI c) x4 (nI i) σ = c_X12_least_43 x2 (nI c) x4 σ' ∧ (∀ v, v < 9 → σ' 99 v = nI (if v = s then 0 else 100000000) ∧ σ' 100 v = 0) ∧ (∀ r, r ≠ 99 → r ≠ 100 → σ' r = σ r) := by
  intro j
  induction j with
  | zero =>
    intro i m σ hj hi hm hv
    obtain ⟨m, rfl⟩ : ∃ k, m = k + 1 := ⟨m - 1, by omega⟩
    refine ⟨σ, ?_, fun v h => hv v (by omega), fun _ _ _ => rfl⟩
    rw [c_X12_least_3, if_pos (by rw [show (9 : Int32) = nI 9 from rfl, nI_le_iff (by omega) (by omega)]; omega)]
  | succ j ih =>
    intro i m σ hj hi hm hv
    obtain ⟨m, rfl⟩ : ∃ k, m = k + 1 := ⟨m - 1, by omega⟩
    have key : c_X12_least_3 (m + 1) (nI s) x2 (nI c) x4 (nI i) σ = c_X12_least_3 m (nI s) x2 (nI c) x4 (nI (i + 1)) (mup (mup σ 99 i (nI (if i = s then 0 else 100000000))) 100 i 0) := by
      rw [c_X12_least_3, if_neg (by rw [show (9 : Int32) = nI 9 from rfl, nI_le_iff (by omega) (by omega)]; omega)]
      unfold c_X12_least_28
      simp (disch := omega) only [nI_eq_iff]
      by_cases z : i = s
      · rw [if_pos z, if_pos z, gdI (by omega) (by omega), gdI (by omega) (by omega), clI (by omega), nIp1]
        rfl
      · rw [if_neg z, if_neg z, gdI (by omega) (by omega), gdI (by omega) (by omega), clI (by omega), nIp1]
        rfl
    obtain ⟨σ', e1, e2, e3⟩ := ih (i + 1) m (mup (mup σ 99 i (nI (if i = s then 0 else 100000000))) 100 i 0) (by omega) (by omega) (by omega) (fun v h => by
      by_cases z : v = i
      · subst z
        refine ⟨?_, ?_⟩
        · rw [mup_o (by omega), mup_s]
        · rw [mup_s]
      · rw [mup_o (by omega), mup_o (by omega), mup_o (by omega), mup_o (by omega)]
        exact hv v (by omega))
    exact ⟨σ', key.trans e1, e2, fun r a b => by rw [e3 r a b, mup_ne b, mup_ne a]⟩
