/-- an error on a state that has gone ahead -/
theorem good_err2 {xs : Nat → Int32} {σa : Sg} (h : Inv xs σa) {k : Nat} (hk : k < 6) {A : Option (Int32 × Sg)} {B : Sg → Option (Int32 × Sg)} (hA : A = (f_X11_error (nI k) σa).bind fun q => some (q.1, q.2)) (hB : ∀ σ1, (∀ r, r ≠ 92 → σ1 r = σa r) → ∃ σb, (B σ1 = (f_X12_finds (nI k) σb).bind fun q => some (q.1, q.2)) ∧ ∀ q j, q ≠ 98 → (q ≠ 93 ∨ j < 5 ∨ 10 < j) → q ≠ 95 → σb q j = σ1 q j) : Good xs A B := by
  rw [error_eq hk] at hA
  have e : ∀ r, r ≠ 92 → mup σa 92 k (σa 92 k + 1) r = σa r := fun r hr => mup_ne hr
  obtain ⟨σb, b1, b2⟩ := hB _ e
  refine ⟨_, _, mup σb 97 k (σa 92 k + 1), hA, ?_, (h.errs k (σa 92 k + 1)).hands (fun r j x1 x2 x3 x4 x5 x6 x7 x8 x9 => ?_)⟩
  · have e2 : σb 97 k = σa 92 k := by rw [b2 97 k (by omega) (by omega) (by omega), mup_o (by omega)]; exact (h.2.1 k hk).symm
    rw [b1, finds_eq hk, e2, Option.bind_some]
  · by_cases z : r = 97 ∧ j = k
    · rw [mup_t z, mup_t z]
    · rw [mup_o (by omega), mup_o (by omega)]
      exact b2 r j x7 (by omega) x6
