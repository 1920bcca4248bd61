theorem five_out {B : Nat → Int32} {n u o a b p : Nat} (h : Out B n u o p (f_X3_readsUnit a (nI o)) (f_X12_unit b)) : Out B n u o p (f_X3_reads (a + 1) (nI 5) (nI o)) (f_X12_unit b) := by
  have e : ∀ σ, f_X3_reads (a + 1) (nI 5) (nI o) σ = (f_X3_readsUnit a (nI o) σ).bind fun q13 => (if q13.1 = 0 ∨ q13.1 = 1 then some (q13.1, q13.2) else none) := fun σ => by
    rw [f_X3_reads_s]
    unfold b_X3_reads
    rw [if_neg (by decide)]
  rcases h with ⟨p1, cd1, V1, k1, k2, k3, k4, k5, k6⟩ | ⟨pf, k1, k2, k3⟩
  · refine Or.inl ⟨p1, cd1, V1, k1, k2, k3, k4, fun σ c hS hc => ?_, k6⟩
    obtain ⟨σ', e1, e2⟩ := k5 σ c hS hc
    exact ⟨σ', by rw [e, e1, Option.bind_some, if_pos (Or.inr rfl)], e2⟩
  · refine Or.inr ⟨pf, k1, fun σ c hS hc => ?_, k3⟩
    obtain ⟨σ', e1, e2⟩ := k2 σ c hS hc
    exact ⟨σ', by rw [e, e1, Option.bind_some, if_pos (Or.inl rfl)], e2⟩
theorem reads_out {B : Nat → Int32} {n u o a b : Nat} (hn : n ≤ 50) (h : ∀ p, p ≤ n → Out B n u o p (f_X3_readsUnit a (nI o)) (f_X12_unit b)) : ∀ p, p ≤ n → Out B n u o p (f_X3_reads (a + 6) (nI 0) (nI o)) (f_X12_either (b + 5)) :=
  either_out (f := a + 5) (g := b + 4) hn (both_out (f := a + 4) (g := b + 3) hn (compared_out (f := a + 3) (g := b + 2) hn (sum_out (f := a + 2) (g := b + 1) hn (product_out (f := a + 1) (g := b) hn (fun p hp => five_out (h p hp))))))
theorem unit_out {B : Nat → Int32} {n u : Nat} (hn : n ≤ 50) (hu : u ≤ 1) : ∀ d o f g, 5 - o = d → o ≤ 5 → 1 + 8 * d ≤ f → 1 + 6 * d ≤ g → ∀ p, p ≤ n → Out B n u o p (f_X3_readsUnit f (nI o)) (f_X12_unit g) := by
  intro d
  induction d with
  | zero =>
    intro o f g hd ho hf hg
    obtain ⟨f, rfl⟩ : ∃ k, f = k + 1 := ⟨f - 1, by omega⟩
    obtain ⟨g, rfl⟩ : ∃ k, g = k + 1 := ⟨g - 1, by omega⟩
    exact unit_gen (uX := fun _ => none) (rX := fun _ => none) (gR := f_X3_reads f) (gU := f_X3_readsUnit f) (gN := f_X3_readsNot f) (gI := f_X3_readsInside f) (gE := f_X12_either g) (gB := f_X12_both g) (gC := f_X12_compared g) (gS := f_X12_sum g) (gP := f_X12_product g) (gQ := f_X12_unit g) hn hu ho (fun h => by omega) (fun h => by omega) (fun h => by omega) (fun h => by omega)
  | succ d ih =>
    intro o f g hd ho hf hg
    obtain ⟨a, rfl⟩ : ∃ k, f = k + 6 + 1 + 1 := ⟨f - 8, by omega⟩
    obtain ⟨b, rfl⟩ : ∃ k, g = k + 5 + 1 := ⟨g - 6, by omega⟩
    have hu1 := ih (o + 1) (a + 6) (b + 5) (by omega) (by omega) (by omega) (by omega)
    have hu2 := ih (o + 1) a b (by omega) (by omega) (by omega) (by omega)
    exact unit_gen (uX := f_X3_readsUnit (a + 6) (nI (o + 1))) (rX := f_X3_reads (a + 6) (nI 0) (nI (o + 1))) (gR := f_X3_reads (a + 6 + 1)) (gU := f_X3_readsUnit (a + 6 + 1)) (gN := f_X3_readsNot (a + 6 + 1)) (gI := f_X3_readsInside (a + 6 + 1)) (gE := f_X12_either (b + 5)) (gB := f_X12_both (b + 5)) (gC := f_X12_compared (b + 5)) (gS := f_X12_sum (b + 5)) (gP := f_X12_product (b + 5)) (gQ := f_X12_unit (b + 5)) hn hu ho (fun _ σ => by rw [nIp1]; rfl) (fun _ σ => by rw [nIp1]; rfl) (fun _ => hu1) (fun _ => reads_out hn hu2)
theorem text_out {B : Nat → Int32} {n u : Nat} (hn : n ≤ 50) (hu : u ≤ 1) : Out B n u 0 0 (f_X3_reads 64 (nI 0) (nI 0)) (f_X12_either 64) :=
  reads_out (a := 58) (b := 59) hn (unit_out hn hu 5 0 58 59 (by omega) (by omega) (by omega) (by omega)) 0 (by omega)
