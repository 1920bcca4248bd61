/-! the class never writes the script -/
def T1 (ρ : Nat → Int32) (o : Option (Int32 × Sg)) : Prop := ∀ R, o = some R → R.2 1000000 = ρ
def T0 (ρ : Nat → Int32) (o : Option Sg) : Prop := ∀ R, o = some R → R 1000000 = ρ
theorem T1_none {ρ : Nat → Int32} : T1 ρ none := fun _ h => by cases h
theorem T0_none {ρ : Nat → Int32} : T0 ρ none := fun _ h => by cases h
theorem T1_some {ρ : Nat → Int32} {v : Int32} {s : Sg} (h : s 1000000 = ρ) : T1 ρ (some (v, s)) := fun _ e => by cases e; exact h
theorem T0_some {ρ : Nat → Int32} {s : Sg} (h : s 1000000 = ρ) : T0 ρ (some s) := fun _ e => by cases e; exact h
theorem T1_if {ρ : Nat → Int32} {c : Prop} {_d : Decidable c} {a b : Option (Int32 × Sg)} (ha : T1 ρ a) (hb : T1 ρ b) : T1 ρ (if c then a else b) := by
  by_cases h : c
  · rw [if_pos h]; exact ha
  · rw [if_neg h]; exact hb
theorem T0_if {ρ : Nat → Int32} {c : Prop} {_d : Decidable c} {a b : Option Sg} (ha : T0 ρ a) (hb : T0 ρ b) : T0 ρ (if c then a else b) := by
  by_cases h : c
  · rw [if_pos h]; exact ha
  · rw [if_neg h]; exact hb
theorem T1_bind1 {ρ : Nat → Int32} {o : Option (Int32 × Sg)} {f : Int32 × Sg → Option (Int32 × Sg)} (ho : T1 ρ o) (hf : ∀ q : Int32 × Sg, q.2 1000000 = ρ → T1 ρ (f q)) : T1 ρ (o.bind f) := by
  cases o with
  | none => exact T1_none
  | some q => exact hf q (ho q rfl)
theorem T1_bind0 {ρ : Nat → Int32} {o : Option Sg} {f : Sg → Option (Int32 × Sg)} (ho : T0 ρ o) (hf : ∀ q : Sg, q 1000000 = ρ → T1 ρ (f q)) : T1 ρ (o.bind f) := by
  cases o with
  | none => exact T1_none
  | some q => exact hf q (ho q rfl)
theorem T0_bind1 {ρ : Nat → Int32} {o : Option (Int32 × Sg)} {f : Int32 × Sg → Option Sg} (ho : T1 ρ o) (hf : ∀ q : Int32 × Sg, q.2 1000000 = ρ → T0 ρ (f q)) : T0 ρ (o.bind f) := by
  cases o with
  | none => exact T0_none
  | some q => exact hf q (ho q rfl)
theorem T0_bind0 {ρ : Nat → Int32} {o : Option Sg} {f : Sg → Option Sg} (ho : T0 ρ o) (hf : ∀ q : Sg, q 1000000 = ρ → T0 ρ (f q)) : T0 ρ (o.bind f) := by
  cases o with
  | none => exact T0_none
  | some q => exact hf q (ho q rfl)
theorem T1_bindv {ρ : Nat → Int32} {o : Option Int32} {f : Int32 → Option (Int32 × Sg)} (hf : ∀ q, T1 ρ (f q)) : T1 ρ (o.bind f) := by
  cases o with
  | none => exact T1_none
  | some q => exact hf q
theorem T0_bindv {ρ : Nat → Int32} {o : Option Int32} {f : Int32 → Option Sg} (hf : ∀ q, T0 ρ (f q)) : T0 ρ (o.bind f) := by
  cases o with
  | none => exact T0_none
  | some q => exact hf q
theorem mupk {ρ : Nat → Int32} {s : Sg} {a j : Nat} {v : Int32} (h : s 1000000 = ρ) (ha : a ≠ 1000000) : mup s a j v 1000000 = ρ := by
  rw [mup_ne (fun e => ha e.symm)]; exact h
theorem mrowk {ρ : Nat → Int32} {s : Sg} {a : Nat} {f : Nat → Int32} (h : s 1000000 = ρ) (ha : a ≠ 1000000) : mrow s a f 1000000 = ρ := by
  rw [mrow_ne (fun e => ha e.symm)]; exact h
theorem sheetAt_lt {p : Int32} {σ : Sg} {z : Nat} (h : f_X11_sheetAt p σ = some (some z)) : z < 100 := by
  unfold f_X11_sheetAt at h
  by_cases c1 : p < 0
  · rw [if_pos c1] at h; cases h
  · rw [if_neg c1] at h
    by_cases c2 : (4 : Int32) ≤ p
    · rw [if_pos c2] at h; cases h
    · rw [if_neg c2] at h
      by_cases c3 : p < 0 ∨ 4 ≤ p.toNatClampNeg
      · rw [if_pos c3] at h; cases h
      · rw [if_neg c3] at h
        have e : 84 + 2 * p.toNatClampNeg = z := Option.some.inj (Option.some.inj h)
        have : ¬ 4 ≤ p.toNatClampNeg := fun w => c3 (Or.inr w)
        omega
theorem T1_bindS {ρ : Nat → Int32} {p : Int32} {σ : Sg} {f : Option Nat → Option (Int32 × Sg)} (h0 : T1 ρ (f none)) (h1 : ∀ z, z < 100 → T1 ρ (f (some z))) : T1 ρ ((f_X11_sheetAt p σ).bind f) := by
  cases e : f_X11_sheetAt p σ with
  | none => exact T1_none
  | some q =>
    cases q with
    | none => exact h0
    | some z => exact h1 z (sheetAt_lt e)
theorem fr_f_X11_lay {ρ : Nat → Int32} {r0 : Nat} {n0 : Nat} {p1 : Int32} {p2 : Int32} {σ : Sg}  (h_r0 : r0 < 899000) (h_n0 : n0 < 899000) (hσ : σ 1000000 = ρ) : T0 ρ (f_X11_lay r0 n0 p1 p2 σ) := by
  unfold f_X11_lay
  exact (T0_if (T0_some hσ) (T0_if (T0_some hσ) (T0_if T0_none (T0_some (mupk hσ (by omega))))))
theorem fr_f_X9_lead {ρ : Nat → Int32} {a : Nat} {p0 : Int32} {p1 : Int32} {p2 : Int32} {σ : Sg}  (h_a : a < 898000) (hσ : σ 1000000 = ρ) : T0 ρ (f_X9_lead a p0 p1 p2 σ) := by
  unfold f_X9_lead
  exact (T0_bind0 (fr_f_X11_lay (by omega) (by omega) hσ) (fun q1 hq1 => (T0_bind0 (fr_f_X11_lay (by omega) (by omega) hq1) (fun q2 hq2 => (T0_some hq2)))))
theorem fr_f_X9_dig {ρ : Nat → Int32} {a : Nat} {σ : Sg}  (h_a : a < 897000) (hσ : σ 1000000 = ρ) : T1 ρ (f_X9_dig a σ) := by
  unfold f_X9_dig
  exact (T1_bind0 (fr_f_X9_lead (by omega) (mupk hσ (by omega))) (fun q1 hq1 => (T1_bind0 (fr_f_X11_lay (by omega) (by omega) hq1) (fun q2 hq2 => (T1_bind0 (fr_f_X11_lay (by omega) (by omega) hq2) (fun q3 hq3 => (T1_some hq3)))))))
theorem fr_f_X11_error {ρ : Nat → Int32} {p0 : Int32} {σ : Sg}   (hσ : σ 1000000 = ρ) : T1 ρ (f_X11_error p0 σ) := by
  unfold f_X11_error
  exact (T1_bindv (fun q1 => (T1_bind0 (fr_f_X11_lay (by omega) (by omega) hσ) (fun q2 hq2 => (T1_some hq2)))))
theorem fr_f_X11_well {ρ : Nat → Int32} {σ : Sg}   (hσ : σ 1000000 = ρ) : T1 ρ (f_X11_well σ) := by
  unfold f_X11_well
  exact (T1_if (T1_bind1 (fr_f_X9_dig (by omega) hσ) (fun q2 hq2 => (T1_some hq2))) (T1_bind1 (fr_f_X11_error  hσ) (fun q3 hq3 => (T1_some hq3))))
theorem fr_f_X11_going {ρ : Nat → Int32} {p0 : Int32} {p1 : Int32} {p2 : Int32} {σ : Sg}   (hσ : σ 1000000 = ρ) : T1 ρ (f_X11_going p0 p1 p2 σ) := by
  unfold f_X11_going
  exact (T1_bindv (fun q1 => (T1_if (T1_bind1 (fr_f_X11_error  hσ) (fun q3 hq3 => (T1_some hq3))) (T1_bindv (fun q4 => (T1_if (T1_bind1 (fr_f_X11_error  hσ) (fun q8 hq8 => (T1_some hq8))) (T1_bindv (fun q6 => (T1_bind0 (fr_f_X9_lead (by omega) hσ) (fun q7 hq7 => (T1_some hq7)))))))))))
theorem fr_c_X11_set_80 {ρ : Nat → Int32} {x1 : Int32} {x3 : Int32} {s0 : Nat} {σ : Sg}  (h_s0 : s0 < 898000) (hσ : σ 1000000 = ρ) : T1 ρ (c_X11_set_80 x1 x3 s0 σ) := by
  unfold c_X11_set_80
  exact (T1_bindv (fun q5 => (T1_bind0 (fr_f_X11_lay (by omega) (by omega) hσ) (fun q6 hq6 => (T1_some hq6)))))
theorem fr_c_X11_set_41 {ρ : Nat → Int32} {x1 : Int32} {x2 : Int32} {x3 : Int32} {s0 : Int32} {s1 : Int32} {s2 : Int32} {σ : Sg}   (hσ : σ 1000000 = ρ) : T1 ρ (c_X11_set_41 x1 x2 x3 s0 s1 s2 σ) := by
  unfold c_X11_set_41
  exact (T1_bindv (fun q1 => (T1_if (T1_bind1 (fr_f_X11_error  hσ) (fun q4 hq4 => (T1_some hq4))) (T1_if (fr_c_X11_set_80 (by omega) hσ) (fr_c_X11_set_80 (by omega) hσ)))))
theorem fr_f_X11_set {ρ : Nat → Int32} {p0 : Int32} {p1 : Int32} {p2 : Int32} {σ : Sg}   (hσ : σ 1000000 = ρ) : T1 ρ (f_X11_set p0 p1 p2 σ) := by
  unfold f_X11_set
  exact (T1_bindv (fun q7 => (T1_if (T1_bind1 (fr_f_X11_error  hσ) (fun q9 hq9 => (T1_some hq9))) (T1_if (T1_bind1 (fr_f_X11_error  hσ) (fun q11 hq11 => (T1_some hq11))) (T1_if (T1_if (fr_c_X11_set_41  hσ) (fr_c_X11_set_41  hσ)) (T1_bind1 (fr_f_X11_error  hσ) (fun q14 hq14 => (T1_some hq14))))))))
theorem fr_f_X11_ofWell {ρ : Nat → Int32} {p0 : Int32} {p1 : Int32} {σ : Sg}   (hσ : σ 1000000 = ρ) : T1 ρ (f_X11_ofWell p0 p1 σ) := by
  unfold f_X11_ofWell
  exact (T1_bindv (fun q1 => (T1_if (T1_bind1 (fr_f_X11_error  hσ) (fun q16 hq16 => (T1_some hq16))) (T1_if (T1_bindv (fun q3 => (T1_some hσ))) (T1_if (T1_bindv (fun q4 => (T1_some hσ))) (T1_if (T1_bindv (fun q5 => (T1_some hσ))) (T1_if (T1_bindv (fun q6 => (T1_some hσ))) (T1_if (T1_bindv (fun q7 => (T1_some hσ))) (T1_if (T1_bindv (fun q8 => (T1_some hσ))) (T1_bind1 (fr_f_X11_error  hσ) (fun q9 hq9 => (T1_some hq9))))))))))))
theorem fr_c_X11_goings_98 {ρ : Nat → Int32} {x4 : Int32} {σ : Sg}   (hσ : σ 1000000 = ρ) : T1 ρ (c_X11_goings_98 x4 σ) := by
  unfold c_X11_goings_98
  exact (T1_some hσ)
theorem fr_c_X11_goings_43 {ρ : Nat → Int32}    : ∀ (n : Nat) (x2 : Nat) (x4 : Int32) (x5 : Int32) (σ : Sg), x2 < 897000 → σ 1000000 = ρ → T1 ρ (c_X11_goings_43  n x2 x4 x5 σ) := by
  intro n
  induction n with
  | zero => intros; rw [c_X11_goings_43.eq_1]; exact T1_none
  | succ n ih =>
    intro x2 x4 x5 σ h_x2 hσ
    rw [c_X11_goings_43.eq_2]
    exact (T1_if (T1_some hσ) (T1_if (T1_some hσ) (T1_bindv (fun q3 => (T1_bindv (fun q4 => (T1_bindv (fun q5 => (T1_if (fr_c_X11_goings_98  hσ) (T1_bind0 (fr_f_X9_lead (by omega) hσ) (fun q7 hq7 => (ih _ _ _ _ (by omega) hq7))))))))))))
theorem fr_f_X11_goings {ρ : Nat → Int32} {p0 : Int32} {σ : Sg}   (hσ : σ 1000000 = ρ) : T1 ρ (f_X11_goings p0 σ) := by
  unfold f_X11_goings
  exact (T1_bindS (T1_bind1 (fr_f_X11_error  hσ) (fun q9 hq9 => (T1_some hq9))) (fun z8 h_z8 => (T1_if (T1_bind1 (fr_f_X11_error  hσ) (fun q11 hq11 => (T1_some hq11))) (fr_c_X11_goings_43  _ _ _ _ _ (by omega) hσ))))
theorem fr_f_X7_place {ρ : Nat → Int32} {a : Nat} {p0 : Int32} {p1 : Int32} {p2 : Int32} {p3 : Int32} {σ : Sg}  (h_a : a < 898000) (hσ : σ 1000000 = ρ) : T0 ρ (f_X7_place a p0 p1 p2 p3 σ) := by
  unfold f_X7_place
  exact (T0_bind0 (fr_f_X11_lay (by omega) (by omega) hσ) (fun q1 hq1 => (T0_bind0 (fr_f_X11_lay (by omega) (by omega) hq1) (fun q2 hq2 => (T0_bind0 (fr_f_X11_lay (by omega) (by omega) hq2) (fun q3 hq3 => (T0_some hq3)))))))
theorem fr_f_X7_make {ρ : Nat → Int32} {a : Nat} {p0 : Int32} {p1 : Int32} {σ : Sg}  (h_a : a < 897000) (hσ : σ 1000000 = ρ) : T1 ρ (f_X7_make a p0 p1 σ) := by
  unfold f_X7_make
  exact (T1_bind0 (fr_f_X11_lay (by omega) (by omega) (mupk hσ (by omega))) (fun q1 hq1 => (T1_bind0 (fr_f_X11_lay (by omega) (by omega) hq1) (fun q2 hq2 => (T1_bind0 (fr_f_X11_lay (by omega) (by omega) hq2) (fun q3 hq3 => (T1_bind0 (fr_f_X7_place (by omega) hq3) (fun q4 hq4 => (T1_some hq4)))))))))
theorem fr_f_X11_thing {ρ : Nat → Int32} {p0 : Int32} {p1 : Int32} {σ : Sg}   (hσ : σ 1000000 = ρ) : T1 ρ (f_X11_thing p0 p1 σ) := by
  unfold f_X11_thing
  exact (T1_bindv (fun q1 => (T1_if (T1_bind1 (fr_f_X11_error  hσ) (fun q3 hq3 => (T1_some hq3))) (T1_bindv (fun q4 => (T1_if (T1_bind1 (fr_f_X11_error  hσ) (fun q9 hq9 => (T1_some hq9))) (T1_if (T1_bind1 (fr_f_X7_make (by omega) hσ) (fun q7 hq7 => (T1_some hq7))) (T1_bind1 (fr_f_X11_error  hσ) (fun q8 hq8 => (T1_some hq8))))))))))
theorem fr_c_X6_worth_144 {ρ : Nat → Int32} {k6 : Int32 → Int32 → Int32 → Int32 → Int32 → Int32 → Sg → Option (Int32 × Sg)} {a : Nat} {x1 : Int32} {x2 : Int32} {x3 : Int32} {x4 : Int32} {x5 : Int32} {x6 : Int32} {σ : Sg} (H_k6 : ∀ (y0 : Int32) (y1 : Int32) (y2 : Int32) (y3 : Int32) (y4 : Int32) (y5 : Int32) (y6 : Sg), y6 1000000 = ρ → T1 ρ (k6 y0 y1 y2 y3 y4 y5 y6)) (h_a : a < 899000) (hσ : σ 1000000 = ρ) : T1 ρ (c_X6_worth_144 k6 a x1 x2 x3 x4 x5 x6 σ) := by
  unfold c_X6_worth_144
  exact (H_k6 _ _ _ _ _ _ _ hσ)
theorem fr_c_X6_worth_100 {ρ : Nat → Int32} {k6 : Int32 → Int32 → Int32 → Int32 → Int32 → Int32 → Sg → Option (Int32 × Sg)} {a : Nat} {x1 : Int32} {x2 : Int32} {x3 : Int32} {x4 : Int32} {x5 : Int32} {x6 : Int32} {s1 : Int32} {s2 : Int32} {σ : Sg} (H_k6 : ∀ (y0 : Int32) (y1 : Int32) (y2 : Int32) (y3 : Int32) (y4 : Int32) (y5 : Int32) (y6 : Sg), y6 1000000 = ρ → T1 ρ (k6 y0 y1 y2 y3 y4 y5 y6)) (h_a : a < 898000) (hσ : σ 1000000 = ρ) : T1 ρ (c_X6_worth_100 k6 a x1 x2 x3 x4 x5 x6 s1 s2 σ) := by
  unfold c_X6_worth_100
  exact (T1_bind0 (fr_f_X11_lay (by omega) (by omega) hσ) (fun q15 hq15 => (fr_c_X6_worth_144 H_k6 (by omega) hq15)))
theorem fr_c_X6_worth_64 {ρ : Nat → Int32} {k6 : Int32 → Int32 → Int32 → Int32 → Int32 → Int32 → Sg → Option (Int32 × Sg)} {a : Nat} {x1 : Int32} {x2 : Int32} {x3 : Int32} {x4 : Int32} {x5 : Int32} {x6 : Int32} {s1 : Int32} {s2 : Int32} {σ : Sg} (H_k6 : ∀ (y0 : Int32) (y1 : Int32) (y2 : Int32) (y3 : Int32) (y4 : Int32) (y5 : Int32) (y6 : Sg), y6 1000000 = ρ → T1 ρ (k6 y0 y1 y2 y3 y4 y5 y6)) (h_a : a < 898000) (hσ : σ 1000000 = ρ) : T1 ρ (c_X6_worth_64 k6 a x1 x2 x3 x4 x5 x6 s1 s2 σ) := by
  unfold c_X6_worth_64
  exact (T1_bind0 (fr_f_X11_lay (by omega) (by omega) hσ) (fun q14 hq14 => (fr_c_X6_worth_144 H_k6 (by omega) hq14)))
theorem fr_c_X6_worth_6 {ρ : Nat → Int32} {a : Nat}  (h_a : a < 897000) : ∀ (n : Nat) (x1 : Int32) (x2 : Int32) (x3 : Int32) (x4 : Int32) (x5 : Int32) (x6 : Int32) (σ : Sg), σ 1000000 = ρ → T1 ρ (c_X6_worth_6 a n x1 x2 x3 x4 x5 x6 σ) := by
  intro n
  induction n with
  | zero => intros; rw [c_X6_worth_6.eq_1]; exact T1_none
  | succ n ih =>
    intro x1 x2 x3 x4 x5 x6 σ  hσ
    rw [c_X6_worth_6.eq_2]
    exact (T1_if (T1_bindv (fun q2 => (T1_some hσ))) (T1_bindv (fun q3 => (T1_if (T1_if (T1_bindv (fun q10 => (T1_if (fr_c_X6_worth_100 ih (by omega) hσ) (fr_c_X6_worth_100 ih (by omega) hσ)))) (T1_bindv (fun q6 => (T1_bindv (fun q7 => (T1_bindv (fun q8 => (T1_bind0 (fr_f_X11_lay (by omega) (by omega) hσ) (fun q9 hq9 => (fr_c_X6_worth_144 ih (by omega) hq9)))))))))) (T1_if (T1_bindv (fun q13 => (fr_c_X6_worth_64 ih (by omega) hσ))) (fr_c_X6_worth_64 ih (by omega) hσ))))))
theorem fr_f_X6_worth {ρ : Nat → Int32} {a : Nat} {p0 : Int32} {p1 : Int32} {p2 : Int32} {p3 : Int32} {σ : Sg}  (h_a : a < 896000) (hσ : σ 1000000 = ρ) : T1 ρ (f_X6_worth a p0 p1 p2 p3 σ) := by
  unfold f_X6_worth
  exact (fr_c_X6_worth_6 (by omega) _ _ _ _ _ _ _ _ hσ)
theorem fr_f_X10_gives {ρ : Nat → Int32} {a : Nat} {a_sl : Nat} {a_tk : Nat} {p0 : Int32} {p1 : Int32} {p2 : Int32} {p3 : Int32} {p4 : Int32} {σ : Sg}  (h_a : a < 895000) (h_a_sl : a_sl < 895000) (h_a_tk : a_tk < 895000) (hσ : σ 1000000 = ρ) : T1 ρ (f_X10_gives a a_sl a_tk p0 p1 p2 p3 p4 σ) := by
  unfold f_X10_gives
  exact (T1_if (T1_if (T1_some hσ) (T1_bind1 (fr_f_X6_worth (by omega) hσ) (fun q5 hq5 => (T1_some hq5)))) (T1_if (T1_some hσ) (T1_bind1 (fr_f_X6_worth (by omega) hσ) (fun q3 hq3 => (T1_some hq3)))))
theorem fr_f_X10_lasts {ρ : Nat → Int32} {a : Nat} {a_sl : Nat} {a_tk : Nat} {p0 : Int32} {σ : Sg}  (h_a : a < 894000) (h_a_sl : a_sl < 894000) (h_a_tk : a_tk < 894000) (hσ : σ 1000000 = ρ) : T1 ρ (f_X10_lasts a a_sl a_tk p0 σ) := by
  unfold f_X10_lasts
  exact (T1_bindv (fun q1 => (T1_bindv (fun q2 => (T1_bindv (fun q3 => (T1_bindv (fun q4 => (T1_bind1 (fr_f_X10_gives (by omega) (by omega) (by omega) hσ) (fun q5 hq5 => (T1_some hq5)))))))))))
theorem fr_f_X10_detail {ρ : Nat → Int32} {a : Nat} {a_sl : Nat} {a_tk : Nat} {p0 : Int32} {p1 : Int32} {σ : Sg}  (h_a : a < 893000) (h_a_sl : a_sl < 893000) (h_a_tk : a_tk < 893000) (hσ : σ 1000000 = ρ) : T1 ρ (f_X10_detail a a_sl a_tk p0 p1 σ) := by
  unfold f_X10_detail
  exact (T1_bindv (fun q1 => (T1_if (T1_bindv (fun q2 => (T1_some hσ))) (T1_if (T1_bindv (fun q3 => (T1_some hσ))) (T1_if (T1_bindv (fun q4 => (T1_some hσ))) (T1_if (T1_bindv (fun q5 => (T1_some hσ))) (T1_if (T1_bindv (fun q6 => (T1_some hσ))) (T1_if (T1_bindv (fun q7 => (T1_some hσ))) (T1_if (T1_bindv (fun q8 => (T1_if (T1_some hσ) (T1_bind1 (fr_f_X10_lasts (by omega) (by omega) (by omega) hσ) (fun q10 hq10 => (T1_some hq10)))))) (T1_if (T1_some hσ) (T1_bindv (fun q12 => (T1_if (T1_some hσ) (T1_some hσ))))))))))))))
theorem fr_f_X11_ofThing {ρ : Nat → Int32} {p0 : Int32} {p1 : Int32} {σ : Sg}   (hσ : σ 1000000 = ρ) : T1 ρ (f_X11_ofThing p0 p1 σ) := by
  unfold f_X11_ofThing
  exact (T1_bindv (fun q1 => (T1_if (T1_bind1 (fr_f_X11_error  hσ) (fun q3 hq3 => (T1_some hq3))) (T1_bindv (fun q4 => (T1_if (T1_bind1 (fr_f_X11_error  hσ) (fun q7 hq7 => (T1_some hq7))) (T1_bind1 (fr_f_X10_detail (by omega) (by omega) (by omega) hσ) (fun q6 hq6 => (T1_some hq6)))))))))
theorem fr_f_X11_as {ρ : Nat → Int32} {p0 : Int32} {p1 : Int32} {σ : Sg}   (hσ : σ 1000000 = ρ) : T1 ρ (f_X11_as p0 p1 σ) := by
  unfold f_X11_as
  exact (T1_bindv (fun q1 => (T1_if (T1_bind1 (fr_f_X11_error  hσ) (fun q3 hq3 => (T1_some hq3))) (T1_bindv (fun q4 => (T1_if (T1_bind1 (fr_f_X11_error  hσ) (fun q11 hq11 => (T1_some hq11))) (T1_bindv (fun q6 => (T1_bindv (fun q7 => (T1_if (T1_bind1 (fr_f_X11_error  hσ) (fun q10 hq10 => (T1_some hq10))) (T1_bindv (fun q9 => (T1_some hσ))))))))))))))
theorem fr_f_X11_let {ρ : Nat → Int32} {p0 : Int32} {p1 : Int32} {σ : Sg}   (hσ : σ 1000000 = ρ) : T1 ρ (f_X11_let p0 p1 σ) := by
  unfold f_X11_let
  exact (T1_bindv (fun q1 => (T1_if (T1_bind1 (fr_f_X11_error  hσ) (fun q3 hq3 => (T1_some hq3))) (T1_bindv (fun q4 => (T1_if (T1_bind1 (fr_f_X11_error  hσ) (fun q10 hq10 => (T1_some hq10))) (T1_bindv (fun q6 => (T1_if (T1_bind0 (fr_f_X7_place (by omega) hσ) (fun q8 hq8 => (T1_some hq8))) (T1_bind1 (fr_f_X11_error  hσ) (fun q9 hq9 => (T1_some hq9))))))))))))
theorem fr_f_X11_fish {ρ : Nat → Int32} {p0 : Int32} {σ : Sg}   (hσ : σ 1000000 = ρ) : T1 ρ (f_X11_fish p0 σ) := by
  unfold f_X11_fish
  exact (T1_bindv (fun q1 => (T1_if (T1_bind1 (fr_f_X11_error  hσ) (fun q8 hq8 => (T1_some hq8))) (T1_bindv (fun q3 => (T1_if (T1_bindv (fun q5 => (T1_bind0 (fr_f_X7_place (by omega) hσ) (fun q6 hq6 => (T1_some hq6))))) (T1_bind1 (fr_f_X11_error  hσ) (fun q7 hq7 => (T1_some hq7)))))))))
theorem fr_f_X4_append {ρ : Nat → Int32} {a : Nat} {a_n : Nat} {p0 : Int32} {σ : Sg}  (h_a : a < 898000) (h_a_n : a_n < 898000) (hσ : σ 1000000 = ρ) : T0 ρ (f_X4_append a a_n p0 σ) := by
  unfold f_X4_append
  exact (T0_bind0 (fr_f_X11_lay (by omega) (by omega) hσ) (fun q1 hq1 => (T0_some (mupk hq1 (by omega)))))
theorem fr_c_X11_feed_42 {ρ : Nat → Int32}    : ∀ (n : Nat) (x1 : Int64) (x3 : Int32) (x4 : Int32) (σ : Sg), σ 1000000 = ρ → T1 ρ (c_X11_feed_42  n x1 x3 x4 σ) := by
  intro n
  induction n with
  | zero => intros; rw [c_X11_feed_42.eq_1]; exact T1_none
  | succ n ih =>
    intro x1 x3 x4 σ  hσ
    rw [c_X11_feed_42.eq_2]
    exact (T1_if (T1_some hσ) (T1_bind0 (fr_f_X4_append (by omega) (by omega) hσ) (fun q2 hq2 => (ih _ _ _ _ hq2))))
theorem fr_f_X11_feed {ρ : Nat → Int32} {p0 : Int64} {p1 : Int32} {σ : Sg}   (hσ : σ 1000000 = ρ) : T1 ρ (f_X11_feed p0 p1 σ) := by
  unfold f_X11_feed
  exact (T1_bindv (fun q3 => (T1_if (T1_bind1 (fr_f_X11_error  hσ) (fun q7 hq7 => (T1_some hq7))) (T1_if (fr_c_X11_feed_42  _ _ _ _ _ hσ) (T1_bind1 (fr_f_X11_error  hσ) (fun q6 hq6 => (T1_some hq6)))))))
theorem fr_f_X6_append {ρ : Nat → Int32} {a : Nat} {p0 : Int32} {σ : Sg}  (h_a : a < 898000) (hσ : σ 1000000 = ρ) : T0 ρ (f_X6_append a p0 σ) := by
  unfold f_X6_append
  exact (T0_bind0 (fr_f_X11_lay (by omega) (by omega) hσ) (fun q1 hq1 => (T0_some (mupk hq1 (by omega)))))
theorem fr_c_X3_reads_39 {ρ : Nat → Int32} {g_X3_reads : Int32 → Int32 → Sg → Option (Int32 × Sg)} {g_X3_readsUnit : Int32 → Sg → Option (Int32 × Sg)} {g_X3_readsNot : Int32 → Sg → Option (Int32 × Sg)} {g_X3_readsInside : Int32 → Sg → Option (Int32 × Sg)} (H_g_X3_reads : ∀ (y0 : Int32) (y1 : Int32) (y2 : Sg), y2 1000000 = ρ → T1 ρ (g_X3_reads y0 y1 y2)) (H_g_X3_readsUnit : ∀ (y0 : Int32) (y1 : Sg), y1 1000000 = ρ → T1 ρ (g_X3_readsUnit y0 y1)) (H_g_X3_readsNot : ∀ (y0 : Int32) (y1 : Sg), y1 1000000 = ρ → T1 ρ (g_X3_readsNot y0 y1)) (H_g_X3_readsInside : ∀ (y0 : Int32) (y1 : Sg), y1 1000000 = ρ → T1 ρ (g_X3_readsInside y0 y1))  : ∀ (n : Nat) (x1 : Int32) (x2 : Int32) (x3 : Int32) (x4 : Int32) (σ : Sg), σ 1000000 = ρ → T1 ρ (c_X3_reads_39 g_X3_reads g_X3_readsUnit g_X3_readsNot g_X3_readsInside n x1 x2 x3 x4 σ) := by
  intro n
  induction n with
  | zero => intros; rw [c_X3_reads_39.eq_1]; exact T1_none
  | succ n ih =>
    intro x1 x2 x3 x4 σ  hσ
    rw [c_X3_reads_39.eq_2]
    exact (T1_if (T1_some hσ) (T1_bindv (fun q2 => (T1_bindv (fun q3 => (T1_if (T1_bindv (fun q5 => (T1_bind1 (H_g_X3_reads _ _ _ (mupk hσ (by omega))) (fun q6 hq6 => (T1_if (T1_some hq6) (T1_bind0 (fr_f_X6_append (by omega) hq6) (fun q8 hq8 => (ih _ _ _ _ _ hq8)))))))) (T1_some hσ)))))))
theorem fr_c_X3_reads_35 {ρ : Nat → Int32} {g_X3_reads : Int32 → Int32 → Sg → Option (Int32 × Sg)} {g_X3_readsUnit : Int32 → Sg → Option (Int32 × Sg)} {g_X3_readsNot : Int32 → Sg → Option (Int32 × Sg)} {g_X3_readsInside : Int32 → Sg → Option (Int32 × Sg)} {x1 : Int32} {x2 : Int32} {s0 : Int32} {σ : Sg} (H_g_X3_reads : ∀ (y0 : Int32) (y1 : Int32) (y2 : Sg), y2 1000000 = ρ → T1 ρ (g_X3_reads y0 y1 y2)) (H_g_X3_readsUnit : ∀ (y0 : Int32) (y1 : Sg), y1 1000000 = ρ → T1 ρ (g_X3_readsUnit y0 y1)) (H_g_X3_readsNot : ∀ (y0 : Int32) (y1 : Sg), y1 1000000 = ρ → T1 ρ (g_X3_readsNot y0 y1)) (H_g_X3_readsInside : ∀ (y0 : Int32) (y1 : Sg), y1 1000000 = ρ → T1 ρ (g_X3_readsInside y0 y1))  (hσ : σ 1000000 = ρ) : T1 ρ (c_X3_reads_35 g_X3_reads g_X3_readsUnit g_X3_readsNot g_X3_readsInside x1 x2 s0 σ) := by
  unfold c_X3_reads_35
  exact (fr_c_X3_reads_39 H_g_X3_reads H_g_X3_readsUnit H_g_X3_readsNot H_g_X3_readsInside _ _ _ _ _ _ hσ)
theorem fr_b_X3_reads {ρ : Nat → Int32} {g_X3_reads : Int32 → Int32 → Sg → Option (Int32 × Sg)} {g_X3_readsUnit : Int32 → Sg → Option (Int32 × Sg)} {g_X3_readsNot : Int32 → Sg → Option (Int32 × Sg)} {g_X3_readsInside : Int32 → Sg → Option (Int32 × Sg)} {p0 : Int32} {p1 : Int32} {σ : Sg} (H_g_X3_reads : ∀ (y0 : Int32) (y1 : Int32) (y2 : Sg), y2 1000000 = ρ → T1 ρ (g_X3_reads y0 y1 y2)) (H_g_X3_readsUnit : ∀ (y0 : Int32) (y1 : Sg), y1 1000000 = ρ → T1 ρ (g_X3_readsUnit y0 y1)) (H_g_X3_readsNot : ∀ (y0 : Int32) (y1 : Sg), y1 1000000 = ρ → T1 ρ (g_X3_readsNot y0 y1)) (H_g_X3_readsInside : ∀ (y0 : Int32) (y1 : Sg), y1 1000000 = ρ → T1 ρ (g_X3_readsInside y0 y1))  (hσ : σ 1000000 = ρ) : T1 ρ (b_X3_reads g_X3_reads g_X3_readsUnit g_X3_readsNot g_X3_readsInside p0 p1 σ) := by
  unfold b_X3_reads
  exact (T1_if (T1_bind1 (H_g_X3_reads _ _ _ hσ) (fun q10 hq10 => (T1_if (T1_some hq10) (T1_if (fr_c_X3_reads_35 H_g_X3_reads H_g_X3_readsUnit H_g_X3_readsNot H_g_X3_readsInside hq10) (fr_c_X3_reads_35 H_g_X3_reads H_g_X3_readsUnit H_g_X3_readsNot H_g_X3_readsInside hq10))))) (T1_bind1 (H_g_X3_readsUnit _ _ hσ) (fun q13 hq13 => (T1_if (T1_some hq13) T1_none))))
theorem fr_c_X3_readsUnit_62 {ρ : Nat → Int32} {g_X3_reads : Int32 → Int32 → Sg → Option (Int32 × Sg)} {g_X3_readsUnit : Int32 → Sg → Option (Int32 × Sg)} {g_X3_readsNot : Int32 → Sg → Option (Int32 × Sg)} {g_X3_readsInside : Int32 → Sg → Option (Int32 × Sg)} {x1 : Int32} {x2 : Int32} {σ : Sg} (H_g_X3_reads : ∀ (y0 : Int32) (y1 : Int32) (y2 : Sg), y2 1000000 = ρ → T1 ρ (g_X3_reads y0 y1 y2)) (H_g_X3_readsUnit : ∀ (y0 : Int32) (y1 : Sg), y1 1000000 = ρ → T1 ρ (g_X3_readsUnit y0 y1)) (H_g_X3_readsNot : ∀ (y0 : Int32) (y1 : Sg), y1 1000000 = ρ → T1 ρ (g_X3_readsNot y0 y1)) (H_g_X3_readsInside : ∀ (y0 : Int32) (y1 : Sg), y1 1000000 = ρ → T1 ρ (g_X3_readsInside y0 y1))  (hσ : σ 1000000 = ρ) : T1 ρ (c_X3_readsUnit_62 g_X3_reads g_X3_readsUnit g_X3_readsNot g_X3_readsInside x1 x2 σ) := by
  unfold c_X3_readsUnit_62
  exact (T1_if (T1_if (T1_bind1 (H_g_X3_readsNot _ _ (mupk hσ (by omega))) (fun q5 hq5 => (T1_if (T1_some hq5) T1_none))) (T1_bind1 (H_g_X3_readsInside _ _ (mupk hσ (by omega))) (fun q3 hq3 => (T1_if (T1_some hq3) T1_none)))) (T1_some hσ))
theorem fr_c_X3_readNumber_4 {ρ : Nat → Int32}    : ∀ (n : Nat) (x1 : Int32) (x2 : Int32) (σ : Sg), σ 1000000 = ρ → T0 ρ (c_X3_readNumber_4  n x1 x2 σ) := by
  intro n
  induction n with
  | zero => intros; rw [c_X3_readNumber_4.eq_1]; exact T0_none
  | succ n ih =>
    intro x1 x2 σ  hσ
    rw [c_X3_readNumber_4.eq_2]
    exact (T0_if (T0_bind0 (fr_f_X6_append (by omega) hσ) (fun q2 hq2 => (T0_some hq2))) (T0_bindv (fun q3 => (T0_bindv (fun q4 => (T0_if (T0_bind0 (fr_f_X6_append (by omega) hσ) (fun q6 hq6 => (T0_some hq6))) (T0_bindv (fun q7 => (ih _ _ _ (mupk hσ (by omega)))))))))))
theorem fr_f_X3_readNumber {ρ : Nat → Int32} {σ : Sg}   (hσ : σ 1000000 = ρ) : T0 ρ (f_X3_readNumber σ) := by
  unfold f_X3_readNumber
  exact (fr_c_X3_readNumber_4  _ _ _ _ hσ)
theorem fr_b_X3_readsUnit {ρ : Nat → Int32} {g_X3_reads : Int32 → Int32 → Sg → Option (Int32 × Sg)} {g_X3_readsUnit : Int32 → Sg → Option (Int32 × Sg)} {g_X3_readsNot : Int32 → Sg → Option (Int32 × Sg)} {g_X3_readsInside : Int32 → Sg → Option (Int32 × Sg)} {p0 : Int32} {σ : Sg} (H_g_X3_reads : ∀ (y0 : Int32) (y1 : Int32) (y2 : Sg), y2 1000000 = ρ → T1 ρ (g_X3_reads y0 y1 y2)) (H_g_X3_readsUnit : ∀ (y0 : Int32) (y1 : Sg), y1 1000000 = ρ → T1 ρ (g_X3_readsUnit y0 y1)) (H_g_X3_readsNot : ∀ (y0 : Int32) (y1 : Sg), y1 1000000 = ρ → T1 ρ (g_X3_readsNot y0 y1)) (H_g_X3_readsInside : ∀ (y0 : Int32) (y1 : Sg), y1 1000000 = ρ → T1 ρ (g_X3_readsInside y0 y1))  (hσ : σ 1000000 = ρ) : T1 ρ (b_X3_readsUnit g_X3_reads g_X3_readsUnit g_X3_readsNot g_X3_readsInside p0 σ) := by
  unfold b_X3_readsUnit
  exact (T1_bindv (fun q7 => (T1_bindv (fun q8 => (T1_if (T1_bindv (fun q10 => (T1_if (T1_if (fr_c_X3_readsUnit_62 H_g_X3_reads H_g_X3_readsUnit H_g_X3_readsNot H_g_X3_readsInside hσ) (T1_if (fr_c_X3_readsUnit_62 H_g_X3_reads H_g_X3_readsUnit H_g_X3_readsNot H_g_X3_readsInside hσ) (T1_some hσ))) (T1_bind0 (fr_f_X6_append (by omega) (mupk hσ (by omega))) (fun q14 hq14 => (T1_some hq14)))))) (T1_bind0 (fr_f_X3_readNumber  hσ) (fun q15 hq15 => (T1_some hq15))))))))
theorem fr_b_X3_readsNot {ρ : Nat → Int32} {g_X3_reads : Int32 → Int32 → Sg → Option (Int32 × Sg)} {g_X3_readsUnit : Int32 → Sg → Option (Int32 × Sg)} {g_X3_readsNot : Int32 → Sg → Option (Int32 × Sg)} {g_X3_readsInside : Int32 → Sg → Option (Int32 × Sg)} {p0 : Int32} {σ : Sg} (H_g_X3_reads : ∀ (y0 : Int32) (y1 : Int32) (y2 : Sg), y2 1000000 = ρ → T1 ρ (g_X3_reads y0 y1 y2)) (H_g_X3_readsUnit : ∀ (y0 : Int32) (y1 : Sg), y1 1000000 = ρ → T1 ρ (g_X3_readsUnit y0 y1)) (H_g_X3_readsNot : ∀ (y0 : Int32) (y1 : Sg), y1 1000000 = ρ → T1 ρ (g_X3_readsNot y0 y1)) (H_g_X3_readsInside : ∀ (y0 : Int32) (y1 : Sg), y1 1000000 = ρ → T1 ρ (g_X3_readsInside y0 y1))  (hσ : σ 1000000 = ρ) : T1 ρ (b_X3_readsNot g_X3_reads g_X3_readsUnit g_X3_readsNot g_X3_readsInside p0 σ) := by
  unfold b_X3_readsNot
  exact (T1_bind1 (H_g_X3_readsUnit _ _ hσ) (fun q1 hq1 => (T1_if (T1_some hq1) (T1_bind0 (fr_f_X6_append (by omega) hq1) (fun q3 hq3 => (T1_some hq3))))))
theorem fr_b_X3_readsInside {ρ : Nat → Int32} {g_X3_reads : Int32 → Int32 → Sg → Option (Int32 × Sg)} {g_X3_readsUnit : Int32 → Sg → Option (Int32 × Sg)} {g_X3_readsNot : Int32 → Sg → Option (Int32 × Sg)} {g_X3_readsInside : Int32 → Sg → Option (Int32 × Sg)} {p0 : Int32} {σ : Sg} (H_g_X3_reads : ∀ (y0 : Int32) (y1 : Int32) (y2 : Sg), y2 1000000 = ρ → T1 ρ (g_X3_reads y0 y1 y2)) (H_g_X3_readsUnit : ∀ (y0 : Int32) (y1 : Sg), y1 1000000 = ρ → T1 ρ (g_X3_readsUnit y0 y1)) (H_g_X3_readsNot : ∀ (y0 : Int32) (y1 : Sg), y1 1000000 = ρ → T1 ρ (g_X3_readsNot y0 y1)) (H_g_X3_readsInside : ∀ (y0 : Int32) (y1 : Sg), y1 1000000 = ρ → T1 ρ (g_X3_readsInside y0 y1))  (hσ : σ 1000000 = ρ) : T1 ρ (b_X3_readsInside g_X3_reads g_X3_readsUnit g_X3_readsNot g_X3_readsInside p0 σ) := by
  unfold b_X3_readsInside
  exact (T1_bind1 (H_g_X3_reads _ _ _ hσ) (fun q1 hq1 => (T1_if (T1_some hq1) (T1_bindv (fun q3 => (T1_if (T1_some (mupk hq1 (by omega))) (T1_some hq1)))))))
theorem fr_F_X3_reads {ρ : Nat → Int32} : ∀ (n : Nat), (∀ (p0 p1 : Int32) (σ : Sg), σ 1000000 = ρ → T1 ρ (f_X3_reads n p0 p1 σ)) ∧ (∀ (p0 : Int32) (σ : Sg), σ 1000000 = ρ → T1 ρ (f_X3_readsUnit n p0 σ)) ∧ (∀ (p0 : Int32) (σ : Sg), σ 1000000 = ρ → T1 ρ (f_X3_readsNot n p0 σ)) ∧ (∀ (p0 : Int32) (σ : Sg), σ 1000000 = ρ → T1 ρ (f_X3_readsInside n p0 σ)) := by
  intro n
  induction n with
  | zero => exact ⟨fun _ _ _ _ => T1_none, fun _ _ _ => T1_none, fun _ _ _ => T1_none, fun _ _ _ => T1_none⟩
  | succ n ih =>
    obtain ⟨i1, i2, i3, i4⟩ := ih
    refine ⟨fun p0 p1 σ h => ?_, fun p0 σ h => ?_, fun p0 σ h => ?_, fun p0 σ h => ?_⟩
    · rw [f_X3_reads_s]; exact fr_b_X3_reads i1 i2 i3 i4 h
    · rw [f_X3_readsUnit_s]; exact fr_b_X3_readsUnit i1 i2 i3 i4 h
    · rw [f_X3_readsNot_s]; exact fr_b_X3_readsNot i1 i2 i3 i4 h
    · rw [f_X3_readsInside_s]; exact fr_b_X3_readsInside i1 i2 i3 i4 h
theorem fr_f_X3_reads {ρ : Nat → Int32} {n : Nat} {p0 p1 : Int32} {σ : Sg} (h : σ 1000000 = ρ) : T1 ρ (f_X3_reads n p0 p1 σ) := (fr_F_X3_reads n).1 p0 p1 σ h
theorem fr_f_X3_faultFor {ρ : Nat → Int32} {p0 : Int32} {σ : Sg}   (hσ : σ 1000000 = ρ) : T1 ρ (f_X3_faultFor p0 σ) := by
  unfold f_X3_faultFor
  exact (T1_bind1 (fr_f_X3_reads (mupk (mupk (mupk hσ (by omega)) (by omega)) (by omega))) (fun q1 hq1 => (T1_if (T1_some hq1) (T1_if (T1_some hq1) (T1_some hq1)))))
theorem fr_f_X11_copyRow {ρ : Nat → Int32} {r0 : Nat} {n0 : Nat} {r1 : Nat} {n1 : Nat} {σ : Sg}  (h_r0 : r0 < 899000) (h_n0 : n0 < 899000) (h_r1 : r1 < 899000) (h_n1 : n1 < 899000) (hσ : σ 1000000 = ρ) : T0 ρ (f_X11_copyRow r0 n0 r1 n1 σ) := by
  unfold f_X11_copyRow
  exact (T0_if T0_none (T0_some (mrowk hσ (by omega))))
theorem fr_f_X6_copyFrom {ρ : Nat → Int32} {a : Nat} {r0 : Nat} {σ : Sg}  (h_a : a < 898000) (h_r0 : r0 < 898000) (hσ : σ 1000000 = ρ) : T0 ρ (f_X6_copyFrom a r0 σ) := by
  unfold f_X6_copyFrom
  exact (T0_bind0 (fr_f_X11_copyRow (by omega) (by omega) (by omega) (by omega) hσ) (fun q1 hq1 => (T0_some (mupk hq1 (by omega)))))
theorem fr_c_X11_text_63 {ρ : Nat → Int32} {s0 : Nat} {σ : Sg}  (h_s0 : s0 < 897000) (hσ : σ 1000000 = ρ) : T1 ρ (c_X11_text_63 s0 σ) := by
  unfold c_X11_text_63
  exact (T1_bind0 (fr_f_X6_copyFrom (by omega) (by omega) hσ) (fun q1 hq1 => (T1_some hq1)))
theorem fr_f_X11_text {ρ : Nat → Int32} {p0 : Int32} {σ : Sg}   (hσ : σ 1000000 = ρ) : T1 ρ (f_X11_text p0 σ) := by
  unfold f_X11_text
  exact (T1_bindv (fun q2 => (T1_if (T1_bind1 (fr_f_X11_error  hσ) (fun q7 hq7 => (T1_some hq7))) (T1_bind1 (fr_f_X3_faultFor  hσ) (fun q4 hq4 => (T1_if (T1_if (fr_c_X11_text_63 (by omega) (mupk hq4 (by omega))) (fr_c_X11_text_63 (by omega) (mupk hq4 (by omega)))) (T1_some (mupk hq4 (by omega)))))))))
theorem fr_f_X11_law {ρ : Nat → Int32} {p0 : Int32} {p1 : Int32} {p2 : Int32} {p3 : Int32} {p4 : Int32} {σ : Sg}   (hσ : σ 1000000 = ρ) : T1 ρ (f_X11_law p0 p1 p2 p3 p4 σ) := by
  unfold f_X11_law
  exact (T1_bindv (fun q1 => (T1_if (T1_bind1 (fr_f_X11_error  hσ) (fun q4 hq4 => (T1_some hq4))) (T1_bind1 (fr_f_X10_gives (by omega) (by omega) (by omega) hσ) (fun q3 hq3 => (T1_some hq3))))))
theorem fr_c_X10_goBy_78 {ρ : Nat → Int32} {k2 : Int32 → Int32 → Sg → Option (Sg)} {a : Nat} {a_sl : Nat} {a_tk : Nat} {x1 : Int32} {x2 : Int32} {σ : Sg} (H_k2 : ∀ (y0 : Int32) (y1 : Int32) (y2 : Sg), y2 1000000 = ρ → T0 ρ (k2 y0 y1 y2)) (h_a : a < 899000) (h_a_sl : a_sl < 899000) (h_a_tk : a_tk < 899000) (hσ : σ 1000000 = ρ) : T0 ρ (c_X10_goBy_78 k2 a a_sl a_tk x1 x2 σ) := by
  unfold c_X10_goBy_78
  exact (H_k2 _ _ _ (mupk hσ (by omega)))
theorem fr_c_X10_goBy_72 {ρ : Nat → Int32} {k2 : Int32 → Int32 → Sg → Option (Sg)} {k45 : Int32 → Int32 → Int32 → Int32 → Sg → Option (Sg)} {a : Nat} {a_sl : Nat} {a_tk : Nat} {x1 : Int32} {x2 : Int32} {x3 : Int32} {x4 : Int32} {σ : Sg} (H_k2 : ∀ (y0 : Int32) (y1 : Int32) (y2 : Sg), y2 1000000 = ρ → T0 ρ (k2 y0 y1 y2)) (H_k45 : ∀ (y0 : Int32) (y1 : Int32) (y2 : Int32) (y3 : Int32) (y4 : Sg), y4 1000000 = ρ → T0 ρ (k45 y0 y1 y2 y3 y4)) (h_a : a < 899000) (h_a_sl : a_sl < 899000) (h_a_tk : a_tk < 899000) (hσ : σ 1000000 = ρ) : T0 ρ (c_X10_goBy_72 k2 k45 a a_sl a_tk x1 x2 x3 x4 σ) := by
  unfold c_X10_goBy_72
  exact (H_k45 _ _ _ _ _ hσ)
theorem fr_c_X10_comeNearer_130 {ρ : Nat → Int32} {a : Nat} {a_sl : Nat} {a_tk : Nat} {x1 : Int32} {x2 : Int32} {s0 : Int32} {σ : Sg}  (h_a : a < 897000) (h_a_sl : a_sl < 897000) (h_a_tk : a_tk < 897000) (hσ : σ 1000000 = ρ) : T0 ρ (c_X10_comeNearer_130 a a_sl a_tk x1 x2 s0 σ) := by
  unfold c_X10_comeNearer_130
  exact (T0_if (T0_bind0 (fr_f_X7_place (by omega) hσ) (fun q2 hq2 => (T0_some hq2))) (T0_bind0 (fr_f_X7_place (by omega) hσ) (fun q3 hq3 => (T0_some hq3))))
theorem fr_c_X10_comeNearer_129 {ρ : Nat → Int32} {a : Nat} {a_sl : Nat} {a_tk : Nat} {x1 : Int32} {x2 : Int32} {σ : Sg}  (h_a : a < 896000) (h_a_sl : a_sl < 896000) (h_a_tk : a_tk < 896000) (hσ : σ 1000000 = ρ) : T0 ρ (c_X10_comeNearer_129 a a_sl a_tk x1 x2 σ) := by
  unfold c_X10_comeNearer_129
  exact (fr_c_X10_comeNearer_130 (by omega) (by omega) (by omega) hσ)
theorem fr_f_X10_comeNearer {ρ : Nat → Int32} {a : Nat} {a_sl : Nat} {a_tk : Nat} {p0 : Int32} {σ : Sg}  (h_a : a < 894000) (h_a_sl : a_sl < 894000) (h_a_tk : a_tk < 894000) (hσ : σ 1000000 = ρ) : T0 ρ (f_X10_comeNearer a a_sl a_tk p0 σ) := by
  unfold f_X10_comeNearer
  exact (T0_bindv (fun q4 => (T0_bindv (fun q5 => (T0_if (T0_bindv (fun q7 => (T0_bindv (fun q8 => (T0_bind0 (fr_f_X11_lay (by omega) (by omega) hσ) (fun q9 hq9 => (T0_bindv (fun q10 => (T0_if (fr_c_X10_comeNearer_129 (by omega) (by omega) (by omega) hq9) (T0_bindv (fun q12 => (T0_bind1 (fr_f_X10_gives (by omega) (by omega) (by omega) hq9) (fun q13 hq13 => (T0_if (fr_c_X10_comeNearer_129 (by omega) (by omega) (by omega) hq13) (fr_c_X10_comeNearer_130 (by omega) (by omega) (by omega) hq13))))))))))))))) (T0_bind0 (fr_f_X7_place (by omega) hσ) (fun q15 hq15 => (T0_some hq15))))))))
theorem fr_c_X10_goBy_45 {ρ : Nat → Int32} {k2 : Int32 → Int32 → Sg → Option (Sg)} {a : Nat} {a_sl : Nat} {a_tk : Nat} (H_k2 : ∀ (y0 : Int32) (y1 : Int32) (y2 : Sg), y2 1000000 = ρ → T0 ρ (k2 y0 y1 y2)) (h_a : a < 893000) (h_a_sl : a_sl < 893000) (h_a_tk : a_tk < 893000) : ∀ (n : Nat) (x1 : Int32) (x2 : Int32) (x3 : Int32) (x4 : Int32) (σ : Sg), σ 1000000 = ρ → T0 ρ (c_X10_goBy_45 k2 a a_sl a_tk n x1 x2 x3 x4 σ) := by
  intro n
  induction n with
  | zero => intros; rw [c_X10_goBy_45.eq_1]; exact T0_none
  | succ n ih =>
    intro x1 x2 x3 x4 σ  hσ
    rw [c_X10_goBy_45.eq_2]
    exact (T0_if (fr_c_X10_goBy_78 H_k2 (by omega) (by omega) (by omega) hσ) (T0_if (fr_c_X10_goBy_72 H_k2 ih (by omega) (by omega) (by omega) hσ) (T0_bind0 (fr_f_X10_comeNearer (by omega) (by omega) (by omega) hσ) (fun q7 hq7 => (fr_c_X10_goBy_72 H_k2 ih (by omega) (by omega) (by omega) hq7)))))
theorem fr_c_X10_goBy_42 {ρ : Nat → Int32} {k2 : Int32 → Int32 → Sg → Option (Sg)} {a : Nat} {a_sl : Nat} {a_tk : Nat} {x1 : Int32} {x2 : Int32} {x3 : Int32} {σ : Sg} (H_k2 : ∀ (y0 : Int32) (y1 : Int32) (y2 : Sg), y2 1000000 = ρ → T0 ρ (k2 y0 y1 y2)) (h_a : a < 892000) (h_a_sl : a_sl < 892000) (h_a_tk : a_tk < 892000) (hσ : σ 1000000 = ρ) : T0 ρ (c_X10_goBy_42 k2 a a_sl a_tk x1 x2 x3 σ) := by
  unfold c_X10_goBy_42
  exact (fr_c_X10_goBy_45 H_k2 (by omega) (by omega) (by omega) _ _ _ _ _ _ hσ)
theorem fr_f_X10_goDown {ρ : Nat → Int32} {a : Nat} {a_sl : Nat} {a_tk : Nat} {p0 : Int32} {σ : Sg}  (h_a : a < 893000) (h_a_sl : a_sl < 893000) (h_a_tk : a_tk < 893000) (hσ : σ 1000000 = ρ) : T0 ρ (f_X10_goDown a a_sl a_tk p0 σ) := by
  unfold f_X10_goDown
  exact (T0_bindv (fun q1 => (T0_bindv (fun q2 => (T0_if (T0_some hσ) (T0_bindv (fun q4 => (T0_if (T0_bind1 (fr_f_X10_lasts (by omega) (by omega) (by omega) hσ) (fun q6 hq6 => (T0_bind0 (fr_f_X7_place (by omega) hq6) (fun q7 hq7 => (T0_some hq7))))) (T0_some hσ)))))))))
theorem fr_c_X10_goBy_18 {ρ : Nat → Int32} {k2 : Int32 → Int32 → Sg → Option (Sg)} {a : Nat} {a_sl : Nat} {a_tk : Nat} (H_k2 : ∀ (y0 : Int32) (y1 : Int32) (y2 : Sg), y2 1000000 = ρ → T0 ρ (k2 y0 y1 y2)) (h_a : a < 891000) (h_a_sl : a_sl < 891000) (h_a_tk : a_tk < 891000) : ∀ (n : Nat) (x1 : Int32) (x2 : Int32) (x3 : Int32) (x4 : Int32) (σ : Sg), σ 1000000 = ρ → T0 ρ (c_X10_goBy_18 k2 a a_sl a_tk n x1 x2 x3 x4 σ) := by
  intro n
  induction n with
  | zero => intros; rw [c_X10_goBy_18.eq_1]; exact T0_none
  | succ n ih =>
    intro x1 x2 x3 x4 σ  hσ
    rw [c_X10_goBy_18.eq_2]
    exact (T0_if (fr_c_X10_goBy_42 H_k2 (by omega) (by omega) (by omega) hσ) (T0_bind0 (fr_f_X10_goDown (by omega) (by omega) (by omega) hσ) (fun q4 hq4 => (ih _ _ _ _ _ hq4))))
theorem fr_c_X10_goBy_2 {ρ : Nat → Int32} {a : Nat} {a_sl : Nat} {a_tk : Nat}  (h_a : a < 890000) (h_a_sl : a_sl < 890000) (h_a_tk : a_tk < 890000) : ∀ (n : Nat) (x1 : Int32) (x2 : Int32) (σ : Sg), σ 1000000 = ρ → T0 ρ (c_X10_goBy_2 a a_sl a_tk n x1 x2 σ) := by
  intro n
  induction n with
  | zero => intros; rw [c_X10_goBy_2.eq_1]; exact T0_none
  | succ n ih =>
    intro x1 x2 σ  hσ
    rw [c_X10_goBy_2.eq_2]
    exact (T0_if (T0_some hσ) (T0_bindv (fun q2 => (fr_c_X10_goBy_18 ih (by omega) (by omega) (by omega) _ _ _ _ _ _ hσ))))
theorem fr_f_X10_goBy {ρ : Nat → Int32} {a : Nat} {a_sl : Nat} {a_tk : Nat} {p0 : Int32} {σ : Sg}  (h_a : a < 889000) (h_a_sl : a_sl < 889000) (h_a_tk : a_tk < 889000) (hσ : σ 1000000 = ρ) : T0 ρ (f_X10_goBy a a_sl a_tk p0 σ) := by
  unfold f_X10_goBy
  exact (fr_c_X10_goBy_2 (by omega) (by omega) (by omega) _ _ _ _ hσ)
theorem fr_f_X11_days {ρ : Nat → Int32} {p0 : Int32} {σ : Sg}   (hσ : σ 1000000 = ρ) : T1 ρ (f_X11_days p0 σ) := by
  unfold f_X11_days
  exact (T1_bindv (fun q1 => (T1_if (T1_bind1 (fr_f_X11_error  hσ) (fun q6 hq6 => (T1_some hq6))) (T1_if (T1_bind0 (fr_f_X10_goBy (by omega) (by omega) (by omega) hσ) (fun q4 hq4 => (T1_some hq4))) (T1_bind1 (fr_f_X11_error  hσ) (fun q5 hq5 => (T1_some hq5)))))))
theorem fr_f_X1_draw {ρ : Nat → Int32} {a : Nat} {σ : Sg}  (h_a : a < 899000) (hσ : σ 1000000 = ρ) : T1 ρ (f_X1_draw a σ) := by
  unfold f_X1_draw
  exact (T1_some (mupk hσ (by omega)))
theorem fr_f_X11_flood {ρ : Nat → Int32} {σ : Sg}   (hσ : σ 1000000 = ρ) : T0 ρ (f_X11_flood σ) := by
  unfold f_X11_flood
  exact (T0_if (T0_bind1 (fr_f_X1_draw (by omega) hσ) (fun q2 hq2 => (T0_if T0_none (T0_bind1 (fr_f_X1_draw (by omega) hq2) (fun q4 hq4 => (T0_if T0_none (T0_bind1 (fr_f_X1_draw (by omega) hq4) (fun q6 hq6 => (T0_bind0 (fr_f_X9_lead (by omega) hq6) (fun q7 hq7 => (T0_some hq7))))))))))) (T0_some hσ))
theorem fr_c_X11_floods_52 {ρ : Nat → Int32}    : ∀ (n : Nat) (x1 : Int32) (x2 : Int32) (σ : Sg), σ 1000000 = ρ → T1 ρ (c_X11_floods_52  n x1 x2 σ) := by
  intro n
  induction n with
  | zero => intros; rw [c_X11_floods_52.eq_1]; exact T1_none
  | succ n ih =>
    intro x1 x2 σ  hσ
    rw [c_X11_floods_52.eq_2]
    exact (T1_if (T1_some hσ) (T1_bind0 (fr_f_X11_flood  hσ) (fun q2 hq2 => (T1_bind0 (fr_f_X10_goBy (by omega) (by omega) (by omega) hq2) (fun q3 hq3 => (ih _ _ _ hq3))))))
theorem fr_f_X11_floods {ρ : Nat → Int32} {p0 : Int32} {σ : Sg}   (hσ : σ 1000000 = ρ) : T1 ρ (f_X11_floods p0 σ) := by
  unfold f_X11_floods
  exact (T1_bindv (fun q4 => (T1_if (T1_bind1 (fr_f_X11_error  hσ) (fun q10 hq10 => (T1_some hq10))) (T1_if (T1_bind1 (fr_f_X11_error  hσ) (fun q7 hq7 => (T1_some hq7))) (T1_if (T1_bind1 (fr_f_X11_error  hσ) (fun q9 hq9 => (T1_some hq9))) (fr_c_X11_floods_52  _ _ _ _ hσ))))))
theorem fr_f_X9_copyFrom {ρ : Nat → Int32} {a : Nat} {r0 : Nat} {σ : Sg}  (h_a : a < 898000) (h_r0 : r0 < 898000) (hσ : σ 1000000 = ρ) : T0 ρ (f_X9_copyFrom a r0 σ) := by
  unfold f_X9_copyFrom
  exact (T0_bind0 (fr_f_X11_copyRow (by omega) (by omega) (by omega) (by omega) hσ) (fun q1 hq1 => (T0_bind0 (fr_f_X11_copyRow (by omega) (by omega) (by omega) (by omega) hq1) (fun q2 hq2 => (T0_bind0 (fr_f_X11_copyRow (by omega) (by omega) (by omega) (by omega) hq2) (fun q3 hq3 => (T0_bind0 (fr_f_X11_copyRow (by omega) (by omega) (by omega) (by omega) hq3) (fun q4 hq4 => (T0_some (mupk hq4 (by omega)))))))))))
theorem fr_f_X7_copyFrom {ρ : Nat → Int32} {a : Nat} {r0 : Nat} {σ : Sg}  (h_a : a < 898000) (h_r0 : r0 < 898000) (hσ : σ 1000000 = ρ) : T0 ρ (f_X7_copyFrom a r0 σ) := by
  unfold f_X7_copyFrom
  exact (T0_bind0 (fr_f_X11_copyRow (by omega) (by omega) (by omega) (by omega) hσ) (fun q1 hq1 => (T0_bind0 (fr_f_X11_copyRow (by omega) (by omega) (by omega) (by omega) hq1) (fun q2 hq2 => (T0_bind0 (fr_f_X11_copyRow (by omega) (by omega) (by omega) (by omega) hq2) (fun q3 hq3 => (T0_bind0 (fr_f_X11_copyRow (by omega) (by omega) (by omega) (by omega) hq3) (fun q4 hq4 => (T0_bind0 (fr_f_X11_copyRow (by omega) (by omega) (by omega) (by omega) hq4) (fun q5 hq5 => (T0_bind0 (fr_f_X11_copyRow (by omega) (by omega) (by omega) (by omega) hq5) (fun q6 hq6 => (T0_some (mupk hq6 (by omega)))))))))))))))
theorem fr_f_X10_copyFrom {ρ : Nat → Int32} {a : Nat} {a_sl : Nat} {a_tk : Nat} {r0 : Nat} {r0_sl : Nat} {r0_tk : Nat} {σ : Sg}  (h_a : a < 897000) (h_a_sl : a_sl < 897000) (h_a_tk : a_tk < 897000) (h_r0 : r0 < 897000) (h_r0_sl : r0_sl < 897000) (h_r0_tk : r0_tk < 897000) (hσ : σ 1000000 = ρ) : T0 ρ (f_X10_copyFrom a a_sl a_tk r0 r0_sl r0_tk σ) := by
  unfold f_X10_copyFrom
  exact (T0_bind0 (fr_f_X9_copyFrom (by omega) (by omega) hσ) (fun q1 hq1 => (T0_bind0 (fr_f_X7_copyFrom (by omega) (by omega) hq1) (fun q2 hq2 => (T0_some (mupk hq2 (by omega)))))))
theorem fr_f_X11_then {ρ : Nat → Int32} {p0 : Int32} {p1 : Int32} {p2 : Int32} {σ : Sg}   (hσ : σ 1000000 = ρ) : T1 ρ (f_X11_then p0 p1 p2 σ) := by
  unfold f_X11_then
  exact (T1_bindv (fun q1 => (T1_if (T1_bind1 (fr_f_X11_error  hσ) (fun q3 hq3 => (T1_some hq3))) (T1_bindv (fun q4 => (T1_if (T1_bind1 (fr_f_X11_error  hσ) (fun q6 hq6 => (T1_some hq6))) (T1_bindv (fun q7 => (T1_if (T1_bind1 (fr_f_X11_error  hσ) (fun q12 hq12 => (T1_some hq12))) (T1_bind0 (fr_f_X10_copyFrom (by omega) (by omega) (by omega) (by omega) (by omega) (by omega) hσ) (fun q9 hq9 => (T1_bind0 (fr_f_X10_goBy (by omega) (by omega) (by omega) hq9) (fun q10 hq10 => (T1_bind1 (fr_f_X10_detail (by omega) (by omega) (by omega) hq10) (fun q11 hq11 => (T1_some hq11))))))))))))))))
theorem fr_f_X11_in {ρ : Nat → Int32} {p0 : Int32} {p1 : Int32} {σ : Sg}   (hσ : σ 1000000 = ρ) : T1 ρ (f_X11_in p0 p1 σ) := by
  unfold f_X11_in
  exact (T1_bindv (fun q1 => (T1_if (T1_bind1 (fr_f_X11_error  hσ) (fun q3 hq3 => (T1_some hq3))) (T1_bindv (fun q4 => (T1_if (T1_bind1 (fr_f_X11_error  hσ) (fun q9 hq9 => (T1_some hq9))) (T1_bind0 (fr_f_X10_copyFrom (by omega) (by omega) (by omega) (by omega) (by omega) (by omega) hσ) (fun q6 hq6 => (T1_bind0 (fr_f_X10_goBy (by omega) (by omega) (by omega) hq6) (fun q7 hq7 => (T1_bindv (fun q8 => (T1_some hq7)))))))))))))
theorem fr_c_X11_seen_59 {ρ : Nat → Int32}    : ∀ (n : Nat) (x1 : Int32) (x2 : Int32) (x3 : Int32) (x4 : Int32) (σ : Sg), σ 1000000 = ρ → T1 ρ (c_X11_seen_59  n x1 x2 x3 x4 σ) := by
  intro n
  induction n with
  | zero => intros; rw [c_X11_seen_59.eq_1]; exact T1_none
  | succ n ih =>
    intro x1 x2 x3 x4 σ  hσ
    rw [c_X11_seen_59.eq_2]
    exact (T1_if (T1_bind1 (fr_f_X11_error  hσ) (fun q2 hq2 => (T1_some hq2))) (T1_bind0 (fr_f_X10_goBy (by omega) (by omega) (by omega) hσ) (fun q3 hq3 => (T1_bindv (fun q4 => (T1_if (T1_some hq3) (ih _ _ _ _ _ hq3)))))))
theorem fr_f_X11_seen {ρ : Nat → Int32} {p0 : Int32} {p1 : Int32} {p2 : Int32} {σ : Sg}   (hσ : σ 1000000 = ρ) : T1 ρ (f_X11_seen p0 p1 p2 σ) := by
  unfold f_X11_seen
  exact (T1_bindv (fun q6 => (T1_if (T1_bind1 (fr_f_X11_error  hσ) (fun q8 hq8 => (T1_some hq8))) (T1_bindv (fun q9 => (T1_if (T1_bind1 (fr_f_X11_error  hσ) (fun q11 hq11 => (T1_some hq11))) (T1_bindv (fun q12 => (T1_if (T1_bind1 (fr_f_X11_error  hσ) (fun q15 hq15 => (T1_some hq15))) (T1_bind0 (fr_f_X10_copyFrom (by omega) (by omega) (by omega) (by omega) (by omega) (by omega) hσ) (fun q14 hq14 => (fr_c_X11_seen_59  _ _ _ _ _ _ hq14))))))))))))
theorem fr_c_X10_leaveAlone_43 {ρ : Nat → Int32} {a : Nat} {a_sl : Nat} {a_tk : Nat}  (h_a : a < 898000) (h_a_sl : a_sl < 898000) (h_a_tk : a_tk < 898000) : ∀ (n : Nat) (x3 : Int32) (σ : Sg), σ 1000000 = ρ → T0 ρ (c_X10_leaveAlone_43 a a_sl a_tk n x3 σ) := by
  intro n
  induction n with
  | zero => intros; rw [c_X10_leaveAlone_43.eq_1]; exact T0_none
  | succ n ih =>
    intro x3 σ  hσ
    rw [c_X10_leaveAlone_43.eq_2]
    exact (T0_if (T0_some hσ) (T0_bind0 (fr_f_X11_lay (by omega) (by omega) hσ) (fun q5 hq5 => (ih _ _ hq5))))
theorem fr_c_X10_leaveAlone_30 {ρ : Nat → Int32} {a : Nat} {a_sl : Nat} {a_tk : Nat} {x1 : Int32} {x2 : Int32} {σ : Sg}  (h_a : a < 897000) (h_a_sl : a_sl < 897000) (h_a_tk : a_tk < 897000) (hσ : σ 1000000 = ρ) : T0 ρ (c_X10_leaveAlone_30 a a_sl a_tk x1 x2 σ) := by
  unfold c_X10_leaveAlone_30
  exact (T0_bind0 (fr_f_X7_place (by omega) hσ) (fun q3 hq3 => (fr_c_X10_leaveAlone_43 (by omega) (by omega) (by omega) _ _ _ hq3)))
theorem fr_c_X10_leaveAlone_2 {ρ : Nat → Int32} {a : Nat} {a_sl : Nat} {a_tk : Nat}  (h_a : a < 896000) (h_a_sl : a_sl < 896000) (h_a_tk : a_tk < 896000) : ∀ (n : Nat) (x1 : Int32) (x2 : Int32) (x3 : Int32) (σ : Sg), σ 1000000 = ρ → T0 ρ (c_X10_leaveAlone_2 a a_sl a_tk n x1 x2 x3 σ) := by
  intro n
  induction n with
  | zero => intros; rw [c_X10_leaveAlone_2.eq_1]; exact T0_none
  | succ n ih =>
    intro x1 x2 x3 σ  hσ
    rw [c_X10_leaveAlone_2.eq_2]
    exact (T0_if (fr_c_X10_leaveAlone_30 (by omega) (by omega) (by omega) hσ) (T0_bind0 (fr_f_X7_place (by omega) hσ) (fun q2 hq2 => (ih _ _ _ _ hq2))))
theorem fr_f_X10_leaveAlone {ρ : Nat → Int32} {a : Nat} {a_sl : Nat} {a_tk : Nat} {p0 : Int32} {p1 : Int32} {σ : Sg}  (h_a : a < 895000) (h_a_sl : a_sl < 895000) (h_a_tk : a_tk < 895000) (hσ : σ 1000000 = ρ) : T0 ρ (f_X10_leaveAlone a a_sl a_tk p0 p1 σ) := by
  unfold f_X10_leaveAlone
  exact (fr_c_X10_leaveAlone_2 (by omega) (by omega) (by omega) _ _ _ _ _ hσ)
theorem fr_c_X11_round_125 {ρ : Nat → Int32} {k59 : Int32 → Int32 → Int32 → Int32 → Sg → Option (Int32 × Sg)} {x1 : Int32} {x2 : Int32} {x3 : Int32} {x4 : Int32} {σ : Sg} (H_k59 : ∀ (y0 : Int32) (y1 : Int32) (y2 : Int32) (y3 : Int32) (y4 : Sg), y4 1000000 = ρ → T1 ρ (k59 y0 y1 y2 y3 y4))  (hσ : σ 1000000 = ρ) : T1 ρ (c_X11_round_125 k59 x1 x2 x3 x4 σ) := by
  unfold c_X11_round_125
  exact (H_k59 _ _ _ _ _ hσ)
theorem fr_c_X11_round_102 {ρ : Nat → Int32} {k59 : Int32 → Int32 → Int32 → Int32 → Sg → Option (Int32 × Sg)} {x1 : Int32} {x2 : Int32} {x4 : Int32} {s0 : Int32} {σ : Sg} (H_k59 : ∀ (y0 : Int32) (y1 : Int32) (y2 : Int32) (y3 : Int32) (y4 : Sg), y4 1000000 = ρ → T1 ρ (k59 y0 y1 y2 y3 y4))  (hσ : σ 1000000 = ρ) : T1 ρ (c_X11_round_102 k59 x1 x2 x4 s0 σ) := by
  unfold c_X11_round_102
  exact (T1_if (fr_c_X11_round_125 H_k59 hσ) (T1_bindv (fun q8 => (T1_if (T1_some hσ) (fr_c_X11_round_125 H_k59 hσ)))))
theorem fr_c_X11_round_97 {ρ : Nat → Int32} {k59 : Int32 → Int32 → Int32 → Int32 → Sg → Option (Int32 × Sg)} {x1 : Int32} {x2 : Int32} {x4 : Int32} {σ : Sg} (H_k59 : ∀ (y0 : Int32) (y1 : Int32) (y2 : Int32) (y3 : Int32) (y4 : Sg), y4 1000000 = ρ → T1 ρ (k59 y0 y1 y2 y3 y4))  (hσ : σ 1000000 = ρ) : T1 ρ (c_X11_round_97 k59 x1 x2 x4 σ) := by
  unfold c_X11_round_97
  exact (fr_c_X11_round_102 H_k59 hσ)
theorem fr_c_X11_round_59 {ρ : Nat → Int32}    : ∀ (n : Nat) (x1 : Int32) (x2 : Int32) (x3 : Int32) (x4 : Int32) (σ : Sg), σ 1000000 = ρ → T1 ρ (c_X11_round_59  n x1 x2 x3 x4 σ) := by
  intro n
  induction n with
  | zero => intros; rw [c_X11_round_59.eq_1]; exact T1_none
  | succ n ih =>
    intro x1 x2 x3 x4 σ  hσ
    rw [c_X11_round_59.eq_2]
    exact (T1_if (T1_bind1 (fr_f_X11_error  hσ) (fun q2 hq2 => (T1_some hq2))) (T1_bind0 (fr_f_X10_goBy (by omega) (by omega) (by omega) hσ) (fun q3 hq3 => (T1_if (T1_bindv (fun q5 => (T1_if (fr_c_X11_round_97 ih hq3) (fr_c_X11_round_102 ih hq3)))) (fr_c_X11_round_97 ih hq3)))))
theorem fr_f_X11_round {ρ : Nat → Int32} {p0 : Int32} {p1 : Int32} {σ : Sg}   (hσ : σ 1000000 = ρ) : T1 ρ (f_X11_round p0 p1 σ) := by
  unfold f_X11_round
  exact (T1_bindv (fun q10 => (T1_if (T1_bind1 (fr_f_X11_error  hσ) (fun q12 hq12 => (T1_some hq12))) (T1_bindv (fun q13 => (T1_if (T1_bind1 (fr_f_X11_error  hσ) (fun q17 hq17 => (T1_some hq17))) (T1_bind0 (fr_f_X10_copyFrom (by omega) (by omega) (by omega) (by omega) (by omega) (by omega) hσ) (fun q15 hq15 => (T1_bind0 (fr_f_X10_leaveAlone (by omega) (by omega) (by omega) hq15) (fun q16 hq16 => (fr_c_X11_round_59  _ _ _ _ _ _ hq16)))))))))))
theorem fr_f_X11_soon {ρ : Nat → Int32} {p0 : Int32} {p1 : Int32} {p2 : Int32} {σ : Sg}   (hσ : σ 1000000 = ρ) : T1 ρ (f_X11_soon p0 p1 p2 σ) := by
  unfold f_X11_soon
  exact (T1_bindv (fun q1 => (T1_if (T1_bind1 (fr_f_X11_error  hσ) (fun q3 hq3 => (T1_some hq3))) (T1_bindv (fun q4 => (T1_if (T1_bind1 (fr_f_X11_error  hσ) (fun q6 hq6 => (T1_some hq6))) (T1_bindv (fun q7 => (T1_if (T1_bind1 (fr_f_X11_error  hσ) (fun q10 hq10 => (T1_some hq10))) (T1_bindv (fun q9 => (T1_some hσ))))))))))))
theorem fr_f_X11_cheap {ρ : Nat → Int32} {p0 : Int32} {p1 : Int32} {p2 : Int32} {σ : Sg}   (hσ : σ 1000000 = ρ) : T1 ρ (f_X11_cheap p0 p1 p2 σ) := by
  unfold f_X11_cheap
  exact (T1_bindv (fun q1 => (T1_if (T1_bind1 (fr_f_X11_error  hσ) (fun q3 hq3 => (T1_some hq3))) (T1_bindv (fun q4 => (T1_if (T1_bind1 (fr_f_X11_error  hσ) (fun q6 hq6 => (T1_some hq6))) (T1_bindv (fun q7 => (T1_if (T1_bind1 (fr_f_X11_error  hσ) (fun q10 hq10 => (T1_some hq10))) (T1_bindv (fun q9 => (T1_some hσ))))))))))))
theorem fr_f_X11_rings {ρ : Nat → Int32} {p0 : Int32} {σ : Sg}   (hσ : σ 1000000 = ρ) : T1 ρ (f_X11_rings p0 σ) := by
  unfold f_X11_rings
  exact (T1_bindv (fun q1 => (T1_if (T1_bind1 (fr_f_X11_error  hσ) (fun q6 hq6 => (T1_some hq6))) (T1_if (T1_bindv (fun q5 => (T1_some hσ))) (T1_bindv (fun q4 => (T1_some hσ)))))))
theorem fr_f_X11_meet {ρ : Nat → Int32} {p0 : Int32} {p1 : Int32} {σ : Sg}   (hσ : σ 1000000 = ρ) : T1 ρ (f_X11_meet p0 p1 σ) := by
  unfold f_X11_meet
  exact (T1_bindv (fun q1 => (T1_if (T1_bind1 (fr_f_X11_error  hσ) (fun q3 hq3 => (T1_some hq3))) (T1_bindv (fun q4 => (T1_if (T1_bind1 (fr_f_X11_error  hσ) (fun q9 hq9 => (T1_some hq9))) (T1_bindv (fun q6 => (T1_if (T1_some hσ) (T1_bind1 (fr_f_X11_error  hσ) (fun q8 hq8 => (T1_some hq8))))))))))))
theorem fr_f_X11_tenth {ρ : Nat → Int32} {σ : Sg}   (hσ : σ 1000000 = ρ) : T1 ρ (f_X11_tenth σ) := by
  unfold f_X11_tenth
  exact (T1_bindv (fun q1 => (T1_if (T1_some hσ) (T1_bind1 (fr_f_X11_error  hσ) (fun q3 hq3 => (T1_some hq3))))))
theorem fr_f_X2_append {ρ : Nat → Int32} {a : Nat} {p0 : Int32} {p1 : Int32} {p2 : Int32} {σ : Sg}  (h_a : a < 898000) (hσ : σ 1000000 = ρ) : T1 ρ (f_X2_append a p0 p1 p2 σ) := by
  unfold f_X2_append
  exact (T1_bind0 (fr_f_X11_lay (by omega) (by omega) (mupk hσ (by omega))) (fun q1 hq1 => (T1_bind0 (fr_f_X11_lay (by omega) (by omega) hq1) (fun q2 hq2 => (T1_bind0 (fr_f_X11_lay (by omega) (by omega) hq2) (fun q3 hq3 => (T1_some hq3)))))))
theorem fr_f_X11_find {ρ : Nat → Int32} {p0 : Int32} {p1 : Int32} {p2 : Int32} {σ : Sg}   (hσ : σ 1000000 = ρ) : T1 ρ (f_X11_find p0 p1 p2 σ) := by
  unfold f_X11_find
  exact (T1_bindv (fun q1 => (T1_if (T1_bind1 (fr_f_X11_error  hσ) (fun q3 hq3 => (T1_some hq3))) (T1_bindv (fun q4 => (T1_if (T1_bind1 (fr_f_X11_error  hσ) (fun q6 hq6 => (T1_some hq6))) (T1_bindv (fun q7 => (T1_if (T1_bind1 (fr_f_X11_error  hσ) (fun q12 hq12 => (T1_some hq12))) (T1_if (T1_bind1 (fr_f_X2_append (by omega) hσ) (fun q10 hq10 => (T1_some hq10))) (T1_bind1 (fr_f_X11_error  hσ) (fun q11 hq11 => (T1_some hq11)))))))))))))
theorem fr_f_X11_forget {ρ : Nat → Int32} {σ : Sg}   (hσ : σ 1000000 = ρ) : T1 ρ (f_X11_forget σ) := by
  unfold f_X11_forget
  exact (T1_some (mupk hσ (by omega)))
theorem fr_f_X11_agrees {ρ : Nat → Int32} {p0 : Int32} {σ : Sg}   (hσ : σ 1000000 = ρ) : T1 ρ (f_X11_agrees p0 σ) := by
  unfold f_X11_agrees
  exact (T1_if (T1_bind1 (fr_f_X11_error  hσ) (fun q2 hq2 => (T1_some hq2))) (T1_if (T1_bindv (fun q4 => (T1_if (T1_some hσ) (T1_some hσ)))) (T1_bind1 (fr_f_X11_error  hσ) (fun q6 hq6 => (T1_some hq6)))))
theorem fr_c_X0_search_111 {ρ : Nat → Int32} {k53 : Int32 → Int32 → Int32 → Int32 → Sg → Option (Sg)} {r0 : Nat} {r1 : Nat} {x3 : Int32} {x4 : Int32} {x5 : Int32} {x6 : Int32} {σ : Sg} (H_k53 : ∀ (y0 : Int32) (y1 : Int32) (y2 : Int32) (y3 : Int32) (y4 : Sg), y4 1000000 = ρ → T0 ρ (k53 y0 y1 y2 y3 y4)) (h_r0 : r0 < 899000) (h_r1 : r1 < 899000) (hσ : σ 1000000 = ρ) : T0 ρ (c_X0_search_111 k53 r0 r1 x3 x4 x5 x6 σ) := by
  unfold c_X0_search_111
  exact (H_k53 _ _ _ _ _ hσ)
theorem fr_c_X0_search_105 {ρ : Nat → Int32} {k53 : Int32 → Int32 → Int32 → Int32 → Sg → Option (Sg)} {k65 : Int32 → Int32 → Int32 → Int32 → Int32 → Sg → Option (Sg)} {r0 : Nat} {r1 : Nat} {x3 : Int32} {x4 : Int32} {x5 : Int32} {x6 : Int32} {x7 : Int32} {σ : Sg} (H_k53 : ∀ (y0 : Int32) (y1 : Int32) (y2 : Int32) (y3 : Int32) (y4 : Sg), y4 1000000 = ρ → T0 ρ (k53 y0 y1 y2 y3 y4)) (H_k65 : ∀ (y0 : Int32) (y1 : Int32) (y2 : Int32) (y3 : Int32) (y4 : Int32) (y5 : Sg), y5 1000000 = ρ → T0 ρ (k65 y0 y1 y2 y3 y4 y5)) (h_r0 : r0 < 899000) (h_r1 : r1 < 899000) (hσ : σ 1000000 = ρ) : T0 ρ (c_X0_search_105 k53 k65 r0 r1 x3 x4 x5 x6 x7 σ) := by
  unfold c_X0_search_105
  exact (H_k65 _ _ _ _ _ _ hσ)
theorem fr_c_X0_note_78 {ρ : Nat → Int32} {k42 : Int32 → Int32 → Sg → Option (Sg)} {x3 : Int32} {x4 : Int32} {s0 : Int32} {σ : Sg} (H_k42 : ∀ (y0 : Int32) (y1 : Int32) (y2 : Sg), y2 1000000 = ρ → T0 ρ (k42 y0 y1 y2))  (hσ : σ 1000000 = ρ) : T0 ρ (c_X0_note_78 k42 x3 x4 s0 σ) := by
  unfold c_X0_note_78
  exact (T0_bindv (fun q4 => (T0_bind0 (fr_f_X11_lay (by omega) (by omega) hσ) (fun q5 hq5 => (H_k42 _ _ _ hq5)))))
theorem fr_c_X0_note_42 {ρ : Nat → Int32}    : ∀ (n : Nat) (x3 : Int32) (x4 : Int32) (σ : Sg), σ 1000000 = ρ → T0 ρ (c_X0_note_42  n x3 x4 σ) := by
  intro n
  induction n with
  | zero => intros; rw [c_X0_note_42.eq_1]; exact T0_none
  | succ n ih =>
    intro x3 x4 σ  hσ
    rw [c_X0_note_42.eq_2]
    exact (T0_if (T0_some hσ) (T0_bindv (fun q2 => (T0_if (fr_c_X0_note_78 ih hσ) (fr_c_X0_note_78 ih hσ)))))
theorem fr_c_X0_note_17 {ρ : Nat → Int32} {x1 : Int32} {x3 : Int32} {σ : Sg}   (hσ : σ 1000000 = ρ) : T0 ρ (c_X0_note_17 x1 x3 σ) := by
  unfold c_X0_note_17
  exact (fr_c_X0_note_42  _ _ _ _ (mupk (mupk hσ (by omega)) (by omega)))
theorem fr_f_X0_note {ρ : Nat → Int32} {p0 : Int32} {p1 : Int32} {p2 : Int32} {σ : Sg}   (hσ : σ 1000000 = ρ) : T0 ρ (f_X0_note p0 p1 p2 σ) := by
  unfold f_X0_note
  exact (T0_if (fr_c_X0_note_17  (mupk hσ (by omega))) (fr_c_X0_note_17  hσ))
theorem fr_c_X0_search_65 {ρ : Nat → Int32} {k53 : Int32 → Int32 → Int32 → Int32 → Sg → Option (Sg)} {r0 : Nat} {r1 : Nat} (H_k53 : ∀ (y0 : Int32) (y1 : Int32) (y2 : Int32) (y3 : Int32) (y4 : Sg), y4 1000000 = ρ → T0 ρ (k53 y0 y1 y2 y3 y4)) (h_r0 : r0 < 894000) (h_r1 : r1 < 894000) : ∀ (n : Nat) (x3 : Int32) (x4 : Int32) (x5 : Int32) (x6 : Int32) (x7 : Int32) (σ : Sg), σ 1000000 = ρ → T0 ρ (c_X0_search_65 k53 r0 r1 n x3 x4 x5 x6 x7 σ) := by
  intro n
  induction n with
  | zero => intros; rw [c_X0_search_65.eq_1]; exact T0_none
  | succ n ih =>
    intro x3 x4 x5 x6 x7 σ  hσ
    rw [c_X0_search_65.eq_2]
    exact (T0_if (fr_c_X0_search_111 H_k53 (by omega) (by omega) hσ) (T0_bind0 (fr_f_X9_lead (by omega) hσ) (fun q6 hq6 => (T0_bindv (fun q7 => (T0_if (fr_c_X0_search_105 H_k53 ih (by omega) (by omega) hq6) (T0_bind0 (fr_f_X0_note  hq6) (fun q9 hq9 => (fr_c_X0_search_105 H_k53 ih (by omega) (by omega) hq9)))))))))
theorem fr_c_X0_search_53 {ρ : Nat → Int32} {r0 : Nat} {r1 : Nat}  (h_r0 : r0 < 893000) (h_r1 : r1 < 893000) : ∀ (n : Nat) (x3 : Int32) (x4 : Int32) (x5 : Int32) (x6 : Int32) (σ : Sg), σ 1000000 = ρ → T0 ρ (c_X0_search_53 r0 r1 n x3 x4 x5 x6 σ) := by
  intro n
  induction n with
  | zero => intros; rw [c_X0_search_53.eq_1]; exact T0_none
  | succ n ih =>
    intro x3 x4 x5 x6 σ  hσ
    rw [c_X0_search_53.eq_2]
    exact (T0_if (T0_some hσ) (fr_c_X0_search_65 ih (by omega) (by omega) _ _ _ _ _ _ _ hσ))
theorem fr_c_X0_search_42 {ρ : Nat → Int32} {r0 : Nat} {r1 : Nat} {x3 : Int32} {x4 : Int32} {x5 : Int32} {σ : Sg}  (h_r0 : r0 < 892000) (h_r1 : r1 < 892000) (hσ : σ 1000000 = ρ) : T0 ρ (c_X0_search_42 r0 r1 x3 x4 x5 σ) := by
  unfold c_X0_search_42
  exact (T0_bind0 (fr_f_X9_copyFrom (by omega) (by omega) hσ) (fun q3 hq3 => (fr_c_X0_search_53 (by omega) (by omega) _ _ _ _ _ _ hq3)))
theorem fr_c_X0_search_18 {ρ : Nat → Int32} {r0 : Nat} {r1 : Nat}  (h_r0 : r0 < 891000) (h_r1 : r1 < 891000) : ∀ (n : Nat) (x3 : Int32) (x4 : Int32) (x5 : Int32) (x6 : Int32) (σ : Sg), σ 1000000 = ρ → T0 ρ (c_X0_search_18 r0 r1 n x3 x4 x5 x6 σ) := by
  intro n
  induction n with
  | zero => intros; rw [c_X0_search_18.eq_1]; exact T0_none
  | succ n ih =>
    intro x3 x4 x5 x6 σ  hσ
    rw [c_X0_search_18.eq_2]
    exact (T0_if (fr_c_X0_search_42 (by omega) (by omega) hσ) (T0_if T0_none (ih _ _ _ _ _ (mupk hσ (by omega)))))
theorem fr_f_X0_search {ρ : Nat → Int32} {r0 : Nat} {r1 : Nat} {p2 : Int32} {p3 : Int32} {p4 : Int32} {σ : Sg}  (h_r0 : r0 < 890000) (h_r1 : r1 < 890000) (hσ : σ 1000000 = ρ) : T0 ρ (f_X0_search r0 r1 p2 p3 p4 σ) := by
  unfold f_X0_search
  exact (fr_c_X0_search_18 (by omega) (by omega) _ _ _ _ _ _ (mupk (mupk (mupk hσ (by omega)) (by omega)) (by omega)))
theorem fr_f_X11_belows {ρ : Nat → Int32} {p0 : Int32} {p1 : Int32} {p2 : Int32} {σ : Sg}   (hσ : σ 1000000 = ρ) : T1 ρ (f_X11_belows p0 p1 p2 σ) := by
  unfold f_X11_belows
  exact (T1_bindv (fun q1 => (T1_if (T1_bind1 (fr_f_X11_error  hσ) (fun q3 hq3 => (T1_some hq3))) (T1_bindv (fun q4 => (T1_if (T1_bind1 (fr_f_X11_error  hσ) (fun q6 hq6 => (T1_some hq6))) (T1_bindv (fun q7 => (T1_if (T1_bind1 (fr_f_X11_error  hσ) (fun q14 hq14 => (T1_some hq14))) (T1_bind0 (fr_f_X0_search (by omega) (by omega) hσ) (fun q9 hq9 => (T1_if (T1_some hq9) (T1_if (T1_some hq9) (T1_bindv (fun q10 => (T1_if (T1_some hq9) (T1_some hq9)))))))))))))))))
theorem fr_f_X11_cork {ρ : Nat → Int32} {p0 : Int32} {p1 : Int32} {p2 : Int32} {p3 : Int32} {σ : Sg}   (hσ : σ 1000000 = ρ) : T1 ρ (f_X11_cork p0 p1 p2 p3 σ) := by
  unfold f_X11_cork
  exact (T1_bindv (fun q1 => (T1_if (T1_bind1 (fr_f_X11_error  hσ) (fun q3 hq3 => (T1_some hq3))) (T1_bindv (fun q4 => (T1_if (T1_bind1 (fr_f_X11_error  hσ) (fun q16 hq16 => (T1_some hq16))) (T1_bindv (fun q6 => (T1_if (T1_bind1 (fr_f_X11_error  hσ) (fun q8 hq8 => (T1_some hq8))) (T1_bindv (fun q9 => (T1_if (T1_bind1 (fr_f_X11_error  hσ) (fun q15 hq15 => (T1_some hq15))) (T1_bind0 (fr_f_X0_search (by omega) (by omega) hσ) (fun q11 hq11 => (T1_bindv (fun q12 => (T1_if (T1_some hq11) (T1_bindv (fun q14 => (T1_some hq11))))))))))))))))))))
theorem fr_f_X11_seed {ρ : Nat → Int32} {p0 : Int32} {σ : Sg}   (hσ : σ 1000000 = ρ) : T1 ρ (f_X11_seed p0 σ) := by
  unfold f_X11_seed
  exact (T1_some (mupk hσ (by omega)))
theorem fr_f_X8_note {ρ : Nat → Int32} {p0 : Int32} {σ : Sg}   (hσ : σ 1000000 = ρ) : T0 ρ (f_X8_note p0 σ) := by
  unfold f_X8_note
  exact (T0_if (T0_some hσ) (T0_bind0 (fr_f_X11_lay (by omega) (by omega) hσ) (fun q2 hq2 => (T0_some (mupk hq2 (by omega))))))
theorem fr_b_X8_says {ρ : Nat → Int32} {g_X8_says : Int32 → Int32 → Int32 → Int32 → Sg → Option (Int32 × Sg)} {p0 : Int32} {p1 : Int32} {p2 : Int32} {p3 : Int32} {σ : Sg} (H_g_X8_says : ∀ (y0 : Int32) (y1 : Int32) (y2 : Int32) (y3 : Int32) (y4 : Sg), y4 1000000 = ρ → T1 ρ (g_X8_says y0 y1 y2 y3 y4))  (hσ : σ 1000000 = ρ) : T1 ρ (b_X8_says g_X8_says p0 p1 p2 p3 σ) := by
  unfold b_X8_says
  exact (T1_if (T1_bindv (fun q2 => (T1_bindv (fun q3 => (T1_bindv (fun q4 => (T1_bind0 (fr_f_X8_note  hσ) (fun q5 hq5 => (T1_if (T1_some hq5) (T1_if (T1_bind1 (H_g_X8_says _ _ _ _ _ hq5) (fun q6 hq6 => (T1_some hq6))) (T1_if (T1_some hq5) (T1_if (T1_bind1 (H_g_X8_says _ _ _ _ _ hq5) (fun q7 hq7 => (T1_bind1 (H_g_X8_says _ _ _ _ _ hq7) (fun q8 hq8 => (T1_some hq8))))) (T1_if (T1_bind1 (H_g_X8_says _ _ _ _ _ hq5) (fun q9 hq9 => (T1_bind1 (H_g_X8_says _ _ _ _ _ hq9) (fun q10 hq10 => (T1_some hq10))))) (T1_if (T1_bind1 (H_g_X8_says _ _ _ _ _ hq5) (fun q11 hq11 => (T1_some hq11))) (T1_if (T1_bind1 (H_g_X8_says _ _ _ _ _ hq5) (fun q12 hq12 => (T1_some hq12))) (T1_if (T1_bind1 (H_g_X8_says _ _ _ _ _ hq5) (fun q13 hq13 => (T1_some hq13))) (T1_if (T1_bind1 (H_g_X8_says _ _ _ _ _ hq5) (fun q14 hq14 => (T1_bind1 (H_g_X8_says _ _ _ _ _ hq14) (fun q15 hq15 => (T1_some hq15))))) (T1_if (T1_bind1 (H_g_X8_says _ _ _ _ _ hq5) (fun q16 hq16 => (T1_some hq16))) (T1_if (T1_bind1 (H_g_X8_says _ _ _ _ _ hq5) (fun q17 hq17 => (T1_bind1 (H_g_X8_says _ _ _ _ _ hq17) (fun q18 hq18 => (T1_some hq18))))) (T1_some hq5)))))))))))))))))))) (T1_some hσ))
theorem fr_f_X8_says {ρ : Nat → Int32} : ∀ (n : Nat) (p0 p1 p2 p3 : Int32) (σ : Sg), σ 1000000 = ρ → T1 ρ (f_X8_says n p0 p1 p2 p3 σ) := by
  intro n
  induction n with
  | zero => intro _ _ _ _ _ _; exact T1_none
  | succ n ih =>
    intro p0 p1 p2 p3 σ h
    rw [f_X8_says_s]
    exact fr_b_X8_says ih h
theorem fr_f_X8_begin {ρ : Nat → Int32} {p0 : Int32} {p1 : Int32} {p2 : Int32} {p3 : Int32} {p4 : Int32} {σ : Sg}   (hσ : σ 1000000 = ρ) : T1 ρ (f_X8_begin p0 p1 p2 p3 p4 σ) := by
  unfold f_X8_begin
  exact (T1_bind1 (fr_f_X8_says _ _ _ _ _ _ (mupk (mupk (mupk (mupk hσ (by omega)) (by omega)) (by omega)) (by omega))) (fun q1 hq1 => (T1_some hq1)))
theorem fr_f_X11_voice {ρ : Nat → Int32} {p0 : Int32} {p1 : Int32} {p2 : Int32} {σ : Sg}   (hσ : σ 1000000 = ρ) : T1 ρ (f_X11_voice p0 p1 p2 σ) := by
  unfold f_X11_voice
  exact (T1_bindv (fun q1 => (T1_if (T1_bind1 (fr_f_X11_error  hσ) (fun q3 hq3 => (T1_some hq3))) (T1_bindv (fun q4 => (T1_if (T1_bind1 (fr_f_X11_error  hσ) (fun q9 hq9 => (T1_some hq9))) (T1_bindv (fun q6 => (T1_bindv (fun q7 => (T1_bind1 (fr_f_X8_begin  hσ) (fun q8 hq8 => (T1_some hq8)))))))))))))
theorem fr_f_X11_trace {ρ : Nat → Int32} {p0 : Int32} {σ : Sg}   (hσ : σ 1000000 = ρ) : T1 ρ (f_X11_trace p0 σ) := by
  unfold f_X11_trace
  exact (T1_if (T1_bind1 (fr_f_X11_error  hσ) (fun q2 hq2 => (T1_some hq2))) (T1_if (T1_bindv (fun q4 => (T1_some hσ))) (T1_bind1 (fr_f_X11_error  hσ) (fun q5 hq5 => (T1_some hq5)))))
theorem fr_c_X5_clear_12 {ρ : Nat → Int32} {a : Nat}  (h_a : a < 899000) : ∀ (n : Nat) (x3 : Int32) (σ : Sg), σ 1000000 = ρ → T0 ρ (c_X5_clear_12 a n x3 σ) := by
  intro n
  induction n with
  | zero => intros; rw [c_X5_clear_12.eq_1]; exact T0_none
  | succ n ih =>
    intro x3 σ  hσ
    rw [c_X5_clear_12.eq_2]
    exact (T0_if (T0_some hσ) (T0_if T0_none (ih _ _ (mupk hσ (by omega)))))
theorem fr_f_X5_clear {ρ : Nat → Int32} {a : Nat} {p0 : Int32} {p1 : Int32} {σ : Sg}  (h_a : a < 898000) (hσ : σ 1000000 = ρ) : T0 ρ (f_X5_clear a p0 p1 σ) := by
  unfold f_X5_clear
  exact (fr_c_X5_clear_12 (by omega) _ _ _ (mupk (mupk hσ (by omega)) (by omega)))
theorem fr_c_X11_sheet_40 {ρ : Nat → Int32} {x2 : Int32} {x3 : Int32} {x4 : Nat} {σ : Sg}  (h_x4 : x4 < 897000) (hσ : σ 1000000 = ρ) : T1 ρ (c_X11_sheet_40 x2 x3 x4 σ) := by
  unfold c_X11_sheet_40
  exact (T1_if (T1_bind0 (fr_f_X5_clear (by omega) hσ) (fun q7 hq7 => (T1_some hq7))) (T1_if (T1_if (T1_bind0 (fr_f_X5_clear (by omega) hσ) (fun q4 hq4 => (T1_some hq4))) (T1_bind1 (fr_f_X11_error  hσ) (fun q5 hq5 => (T1_some hq5)))) (T1_bind1 (fr_f_X11_error  hσ) (fun q6 hq6 => (T1_some hq6)))))
theorem fr_f_X11_sheet {ρ : Nat → Int32} {p0 : Int32} {p1 : Int32} {p2 : Int32} {σ : Sg}   (hσ : σ 1000000 = ρ) : T1 ρ (f_X11_sheet p0 p1 p2 σ) := by
  unfold f_X11_sheet
  exact (T1_bindS (T1_bind1 (fr_f_X11_error  hσ) (fun q9 hq9 => (T1_some hq9))) (fun z8 h_z8 => (T1_if (fr_c_X11_sheet_40 (by omega) hσ) (T1_if (fr_c_X11_sheet_40 (by omega) hσ) (T1_if (fr_c_X11_sheet_40 (by omega) hσ) (T1_if (fr_c_X11_sheet_40 (by omega) hσ) (T1_bind1 (fr_f_X11_error  hσ) (fun q14 hq14 => (T1_some hq14)))))))))
theorem fr_f_X5_write {ρ : Nat → Int32} {a : Nat} {p0 : Int32} {p1 : Int32} {σ : Sg}  (h_a : a < 898000) (hσ : σ 1000000 = ρ) : T0 ρ (f_X5_write a p0 p1 σ) := by
  unfold f_X5_write
  exact (T0_if (T0_bind0 (fr_f_X11_lay (by omega) (by omega) hσ) (fun q5 hq5 => (T0_some hq5))) (T0_if (T0_bind0 (fr_f_X11_lay (by omega) (by omega) hσ) (fun q4 hq4 => (T0_some hq4))) (T0_bind0 (fr_f_X11_lay (by omega) (by omega) hσ) (fun q3 hq3 => (T0_some hq3)))))
theorem fr_f_X11_put {ρ : Nat → Int32} {p0 : Int32} {p1 : Int32} {p2 : Int32} {σ : Sg}   (hσ : σ 1000000 = ρ) : T1 ρ (f_X11_put p0 p1 p2 σ) := by
  unfold f_X11_put
  exact (T1_bindS (T1_bind1 (fr_f_X11_error  hσ) (fun q2 hq2 => (T1_some hq2))) (fun z1 h_z1 => (T1_if (T1_bind1 (fr_f_X11_error  hσ) (fun q9 hq9 => (T1_some hq9))) (T1_if (T1_bind1 (fr_f_X11_error  hσ) (fun q5 hq5 => (T1_some hq5))) (T1_if (T1_bind0 (fr_f_X5_write (by omega) hσ) (fun q7 hq7 => (T1_some hq7))) (T1_bind1 (fr_f_X11_error  hσ) (fun q8 hq8 => (T1_some hq8))))))))
theorem fr_f_X11_move {ρ : Nat → Int32} {p0 : Int32} {p1 : Int32} {p2 : Int32} {p3 : Int32} {p4 : Int32} {σ : Sg}   (hσ : σ 1000000 = ρ) : T1 ρ (f_X11_move p0 p1 p2 p3 p4 σ) := by
  unfold f_X11_move
  exact (T1_bindS (T1_bindS (T1_bind1 (fr_f_X11_error  hσ) (fun q3 hq3 => (T1_some hq3))) (fun z2 h_z2 => (T1_bind1 (fr_f_X11_error  hσ) (fun q4 hq4 => (T1_some hq4))))) (fun z1 h_z1 => (T1_bindS (T1_bind1 (fr_f_X11_error  hσ) (fun q6 hq6 => (T1_some hq6))) (fun z5 h_z5 => (T1_if (T1_bind1 (fr_f_X11_error  hσ) (fun q8 hq8 => (T1_some hq8))) (T1_if (T1_bind1 (fr_f_X11_error  hσ) (fun q19 hq19 => (T1_some hq19))) (T1_if (T1_bindv (fun q11 => (T1_if (T1_bind1 (fr_f_X11_error  hσ) (fun q13 hq13 => (T1_some hq13))) (T1_bindv (fun q14 => (T1_if (T1_bind1 (fr_f_X11_error  hσ) (fun q17 hq17 => (T1_some hq17))) (T1_if T1_none (T1_some (mrowk hσ (by omega)))))))))) (T1_bind1 (fr_f_X11_error  hσ) (fun q18 hq18 => (T1_some hq18))))))))))
theorem fr_f_X2_copyFrom {ρ : Nat → Int32} {a : Nat} {r0 : Nat} {σ : Sg}  (h_a : a < 898000) (h_r0 : r0 < 898000) (hσ : σ 1000000 = ρ) : T0 ρ (f_X2_copyFrom a r0 σ) := by
  unfold f_X2_copyFrom
  exact (T0_bind0 (fr_f_X11_copyRow (by omega) (by omega) (by omega) (by omega) hσ) (fun q1 hq1 => (T0_bind0 (fr_f_X11_copyRow (by omega) (by omega) (by omega) (by omega) hq1) (fun q2 hq2 => (T0_bind0 (fr_f_X11_copyRow (by omega) (by omega) (by omega) (by omega) hq2) (fun q3 hq3 => (T0_some (mupk hq3 (by omega)))))))))
theorem fr_f_X4_copyFrom {ρ : Nat → Int32} {a : Nat} {a_n : Nat} {r0 : Nat} {r0_n : Nat} {σ : Sg}  (h_a : a < 898000) (h_a_n : a_n < 898000) (h_r0 : r0 < 898000) (h_r0_n : r0_n < 898000) (hσ : σ 1000000 = ρ) : T0 ρ (f_X4_copyFrom a a_n r0 r0_n σ) := by
  unfold f_X4_copyFrom
  exact (T0_bind0 (fr_f_X11_copyRow (by omega) (by omega) (by omega) (by omega) hσ) (fun q1 hq1 => (T0_some (mupk hq1 (by omega)))))
theorem fr_f_X1_copyFrom {ρ : Nat → Int32} {a : Nat} {r0 : Nat} {σ : Sg}  (h_a : a < 897000) (h_r0 : r0 < 897000) (hσ : σ 1000000 = ρ) : T0 ρ (f_X1_copyFrom a r0 σ) := by
  unfold f_X1_copyFrom
  exact (T0_bind0 (fr_f_X2_copyFrom (by omega) (by omega) hσ) (fun q1 hq1 => (T0_bind0 (fr_f_X6_copyFrom (by omega) (by omega) hq1) (fun q2 hq2 => (T0_bind0 (fr_f_X6_copyFrom (by omega) (by omega) hq2) (fun q3 hq3 => (T0_bind0 (fr_f_X4_copyFrom (by omega) (by omega) (by omega) (by omega) hq3) (fun q4 hq4 => (T0_bind0 (fr_f_X4_copyFrom (by omega) (by omega) (by omega) (by omega) hq4) (fun q5 hq5 => (T0_some (mupk hq5 (by omega)))))))))))))
theorem fr_f_X11_image {ρ : Nat → Int32} {σ : Sg}   (hσ : σ 1000000 = ρ) : T1 ρ (f_X11_image σ) := by
  unfold f_X11_image
  exact (T1_bind0 (fr_f_X10_copyFrom (by omega) (by omega) (by omega) (by omega) (by omega) (by omega) hσ) (fun q1 hq1 => (T1_bind0 (fr_f_X1_copyFrom (by omega) (by omega) hq1) (fun q2 hq2 => (T1_some (mupk hq2 (by omega)))))))
theorem fr_f_X11_restore {ρ : Nat → Int32} {σ : Sg}   (hσ : σ 1000000 = ρ) : T1 ρ (f_X11_restore σ) := by
  unfold f_X11_restore
  exact (T1_if (T1_bind1 (fr_f_X11_error  hσ) (fun q4 hq4 => (T1_some hq4))) (T1_bind0 (fr_f_X10_copyFrom (by omega) (by omega) (by omega) (by omega) (by omega) (by omega) hσ) (fun q2 hq2 => (T1_bind0 (fr_f_X1_copyFrom (by omega) (by omega) hq2) (fun q3 hq3 => (T1_some hq3))))))
theorem fr_f_X11_tell {ρ : Nat → Int32} {p0 : Int32} {σ : Sg}   (hσ : σ 1000000 = ρ) : T1 ρ (f_X11_tell p0 σ) := by
  unfold f_X11_tell
  exact (T1_if (T1_bind0 (fr_f_X4_append (by omega) (by omega) hσ) (fun q2 hq2 => (T1_some hq2))) (T1_bind1 (fr_f_X11_error  hσ) (fun q3 hq3 => (T1_some hq3))))
theorem fr_c_X11_check_55 {ρ : Nat → Int32}    : ∀ (n : Nat) (x1 : Int32) (x2 : Int32) (x3 : Int32) (σ : Sg), σ 1000000 = ρ → T1 ρ (c_X11_check_55  n x1 x2 x3 σ) := by
  intro n
  induction n with
  | zero => intros; rw [c_X11_check_55.eq_1]; exact T1_none
  | succ n ih =>
    intro x1 x2 x3 σ  hσ
    rw [c_X11_check_55.eq_2]
    exact (T1_if (T1_some hσ) (T1_bind0 (fr_f_X10_goBy (by omega) (by omega) (by omega) hσ) (fun q2 hq2 => (T1_bindv (fun q3 => (T1_bindv (fun q4 => (T1_if (ih _ _ _ _ hq2) (T1_some hq2)))))))))
theorem fr_f_X11_check {ρ : Nat → Int32} {p0 : Int32} {σ : Sg}   (hσ : σ 1000000 = ρ) : T1 ρ (f_X11_check p0 σ) := by
  unfold f_X11_check
  exact (T1_bindv (fun q6 => (T1_if (T1_bind1 (fr_f_X11_error  (mupk hσ (by omega))) (fun q9 hq9 => (T1_some hq9))) (T1_bind0 (fr_f_X10_copyFrom (by omega) (by omega) (by omega) (by omega) (by omega) (by omega) (mupk hσ (by omega))) (fun q8 hq8 => (fr_c_X11_check_55  _ _ _ _ _ hq8))))))
theorem fr_f_X11_count {ρ : Nat → Int32} {p0 : Int32} {σ : Sg}   (hσ : σ 1000000 = ρ) : T1 ρ (f_X11_count p0 σ) := by
  unfold f_X11_count
  exact (T1_if (T1_some hσ) (T1_if (T1_some hσ) (T1_if (T1_some hσ) (T1_if (T1_bindv (fun q1 => (T1_some hσ))) (T1_if (T1_some hσ) (T1_if (T1_some hσ) (T1_if (T1_some hσ) (T1_if (T1_some hσ) (T1_if (T1_some hσ) (T1_bind1 (fr_f_X11_error  hσ) (fun q2 hq2 => (T1_some hq2))))))))))))
theorem fr_f_X11_told {ρ : Nat → Int32} {p0 : Int32} {σ : Sg}   (hσ : σ 1000000 = ρ) : T1 ρ (f_X11_told p0 σ) := by
  unfold f_X11_told
  exact (T1_bindv (fun q1 => (T1_if (T1_bind1 (fr_f_X11_error  hσ) (fun q4 hq4 => (T1_some hq4))) (T1_bindv (fun q3 => (T1_some hσ))))))
