theorem bc0 : ∀ v, v < 1024 → f_J6_bitCount_0f7a4 (nI v) (fun _ _ => 0) = some (nI (pc v)) := by
  decide +kernel
/-- none is bit 9 for the one, bit 0 for the other -/
def rot (u : Nat) : Nat := 2 * (u % 512) + u / 512
theorem rot_pc : ∀ u, u < 1024 → pc (rot u) = pc u := by
  decide +kernel
theorem rot_or : ∀ q, q < 10 → ∀ u, u < 1024 → rot (u ||| 2 ^ q) = rot u ||| 2 ^ ((q + 1) % 10) := by
  decide +kernel
theorem pc_one : ∀ t, t < 10 → ∀ v, v < 1024 → v.testBit t = true → (pc v ≤ 1 ↔ v = 2 ^ t) := by
  decide +kernel
theorem pc_zero : pc 0 = 0 := by decide
theorem pc_le : ∀ v, v < 1024 → pc v ≤ 10 := fun v hv => (many_all v hv).2
theorem rot_lt {u : Nat} (h : u < 1024) : rot u < 1024 := by
  unfold rot
  omega
theorem bc_eq {v : Nat} (h : v < 1024) (σ : Sg) : f_J6_bitCount_0f7a4 (nI v) σ = some (nI (pc v)) := bc0 v h
theorem div_nI {k n : Nat} (hk : k < 16777216) (h1 : 1 ≤ n) (hn : n ≤ 1000) : nI k / nI n = nI (k / n) := by
  have ek := nI_toInt (n := k) (by omega)
  have en := nI_toInt (n := n) (by omega)
  have hq := Nat.div_le_self k n
  rw [ieq, Int32.toInt_div, ek, en, Int.tdiv_eq_ediv_of_nonneg (by omega), ← Int.natCast_ediv]
  generalize k / n = q at hq ⊢
  rw [nI_toInt (by omega)]
  exact ibm (by omega) (by omega)
