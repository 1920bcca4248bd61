/-! the class never writes the script -/
def T1 (ρ : Nat → Int32) (o : Option (Int32 × Sg)) : Prop := ∀ R, o = some R → R.2 1000000 = ρ
def T0 (ρ : Nat → Int32) (o : Option Sg) : Prop := ∀ R, o = some R → R 1000000 = ρ
theorem T1_none {ρ : Nat → Int32} : T1 ρ none := fun _ h => by cases h
theorem T0_none {ρ : Nat → Int32} : T0 ρ none := fun _ h => by cases h
theorem T1_some {ρ : Nat → Int32} {v : Int32} {s : Sg} (h : s 1000000 = ρ) : T1 ρ (some (v, s)) := fun _ e => by cases e; exact h
theorem T0_some {ρ : Nat → Int32} {s : Sg} (h : s 1000000 = ρ) : T0 ρ (some s) := fun _ e => by cases e; exact h
theorem T1_if {ρ : Nat → Int32} {c : Prop} [Decidable c] {a b : Option (Int32 × Sg)} (ha : T1 ρ a) (hb : T1 ρ b) : T1 ρ (if c then a else b) := by
  by_cases h : c
  · rw [if_pos h]; exact ha
  · rw [if_neg h]; exact hb
theorem T0_if {ρ : Nat → Int32} {c : Prop} [Decidable c] {a b : Option Sg} (ha : T0 ρ a) (hb : T0 ρ b) : T0 ρ (if c then a else b) := by
  by_cases h : c
  · rw [if_pos h]; exact ha
  · rw [if_neg h]; exact hb
theorem T1_bind1 {ρ : Nat → Int32} {o : Option (Int32 × Sg)} {f : Int32 × Sg → Option (Int32 × Sg)} (ho : T1 ρ o) (hf : ∀ q : Int32 × Sg, q.2 1000000 = ρ → T1 ρ (f q)) : T1 ρ (o.bind f) := by
  cases o with
  | none => exact T1_none
  | some q => exact hf q (ho q rfl)
theorem T1_bind0 {ρ : Nat → Int32} {o : Option Sg} {f : Sg → Option (Int32 × Sg)} (ho : T0 ρ o) (hf : ∀ q : Sg, q 1000000 = ρ → T1 ρ (f q)) : T1 ρ (o.bind f) := by
  cases o with
  | none => exact T1_none
  | some q => exact hf q (ho q rfl)
theorem T0_bind1 {ρ : Nat → Int32} {o : Option (Int32 × Sg)} {f : Int32 × Sg → Option Sg} (ho : T1 ρ o) (hf : ∀ q : Int32 × Sg, q.2 1000000 = ρ → T0 ρ (f q)) : T0 ρ (o.bind f) := by
  cases o with
  | none => exact T0_none
  | some q => exact hf q (ho q rfl)
theorem T0_bind0 {ρ : Nat → Int32} {o : Option Sg} {f : Sg → Option Sg} (ho : T0 ρ o) (hf : ∀ q : Sg, q 1000000 = ρ → T0 ρ (f q)) : T0 ρ (o.bind f) := by
  cases o with
  | none => exact T0_none
  | some q => exact hf q (ho q rfl)
theorem T1_bindv {ρ : Nat → Int32} {o : Option Int32} {f : Int32 → Option (Int32 × Sg)} (hf : ∀ q, T1 ρ (f q)) : T1 ρ (o.bind f) := by
  cases o with
  | none => exact T1_none
  | some q => exact hf q
theorem T0_bindv {ρ : Nat → Int32} {o : Option Int32} {f : Int32 → Option Sg} (hf : ∀ q, T0 ρ (f q)) : T0 ρ (o.bind f) := by
  cases o with
  | none => exact T0_none
  | some q => exact hf q
theorem mupk {ρ : Nat → Int32} {s : Sg} {a j : Nat} {v : Int32} (h : s 1000000 = ρ) (ha : a ≠ 1000000) : mup s a j v 1000000 = ρ := by
  rw [mup_ne (fun e => ha e.symm)]; exact h
theorem mrowk {ρ : Nat → Int32} {s : Sg} {a : Nat} {f : Nat → Int32} (h : s 1000000 = ρ) (ha : a ≠ 1000000) : mrow s a f 1000000 = ρ := by
  rw [mrow_ne (fun e => ha e.symm)]; exact h
theorem fr_f_X11_lay {ρ : Nat → Int32} {r0 : Nat} {n0 : Nat} {p1 : Int32} {p2 : Int32} {σ : Sg}  (h_r0 : r0 < 899000) (h_n0 : n0 < 899000) (hσ : σ 1000000 = ρ) : T0 ρ (f_X11_lay r0 n0 p1 p2 σ) := by
  unfold f_X11_lay
  repeat' first
    | assumption
    | apply T1_if
    | apply T0_if
    | exact T1_none
    | exact T0_none
    | refine T1_some ?_
    | refine T0_some ?_
    | refine mupk ?_ (by omega)
    | refine mrowk ?_ (by omega)
    | refine T1_bind1 ?_ (fun q hq => ?_)
    | refine T1_bind0 ?_ (fun q hq => ?_)
    | refine T0_bind1 ?_ (fun q hq => ?_)
    | refine T0_bind0 ?_ (fun q hq => ?_)
    | refine T1_bindv (fun q => ?_)
    | refine T0_bindv (fun q => ?_)
    | omega
theorem fr_f_X9_lead {ρ : Nat → Int32} {a : Nat} {p0 : Int32} {p1 : Int32} {p2 : Int32} {σ : Sg}  (h_a : a < 898000) (hσ : σ 1000000 = ρ) : T0 ρ (f_X9_lead a p0 p1 p2 σ) := by
  unfold f_X9_lead
  repeat' first
    | assumption
    | apply T1_if
    | apply T0_if
    | exact T1_none
    | exact T0_none
    | refine T1_some ?_
    | refine T0_some ?_
    | refine mupk ?_ (by omega)
    | refine mrowk ?_ (by omega)
    | apply fr_f_X11_lay
    | refine T1_bind1 ?_ (fun q hq => ?_)
    | refine T1_bind0 ?_ (fun q hq => ?_)
    | refine T0_bind1 ?_ (fun q hq => ?_)
    | refine T0_bind0 ?_ (fun q hq => ?_)
    | refine T1_bindv (fun q => ?_)
    | refine T0_bindv (fun q => ?_)
    | omega
theorem fr_f_X9_dig {ρ : Nat → Int32} {a : Nat} {σ : Sg}  (h_a : a < 897000) (hσ : σ 1000000 = ρ) : T1 ρ (f_X9_dig a σ) := by
  unfold f_X9_dig
  repeat' first
    | assumption
    | apply T1_if
    | apply T0_if
    | exact T1_none
    | exact T0_none
    | refine T1_some ?_
    | refine T0_some ?_
    | refine mupk ?_ (by omega)
    | refine mrowk ?_ (by omega)
    | apply fr_f_X9_lead
    | apply fr_f_X11_lay
    | refine T1_bind1 ?_ (fun q hq => ?_)
    | refine T1_bind0 ?_ (fun q hq => ?_)
    | refine T0_bind1 ?_ (fun q hq => ?_)
    | refine T0_bind0 ?_ (fun q hq => ?_)
    | refine T1_bindv (fun q => ?_)
    | refine T0_bindv (fun q => ?_)
    | omega
theorem fr_f_X11_error {ρ : Nat → Int32} {p0 : Int32} {σ : Sg}   (hσ : σ 1000000 = ρ) : T1 ρ (f_X11_error p0 σ) := by
  unfold f_X11_error
  repeat' first
    | assumption
    | apply T1_if
    | apply T0_if
    | exact T1_none
    | exact T0_none
    | refine T1_some ?_
    | refine T0_some ?_
    | refine mupk ?_ (by omega)
    | refine mrowk ?_ (by omega)
    | apply fr_f_X11_lay
    | refine T1_bind1 ?_ (fun q hq => ?_)
    | refine T1_bind0 ?_ (fun q hq => ?_)
    | refine T0_bind1 ?_ (fun q hq => ?_)
    | refine T0_bind0 ?_ (fun q hq => ?_)
    | refine T1_bindv (fun q => ?_)
    | refine T0_bindv (fun q => ?_)
    | omega
theorem fr_f_X11_well {ρ : Nat → Int32} {σ : Sg}   (hσ : σ 1000000 = ρ) : T1 ρ (f_X11_well σ) := by
  unfold f_X11_well
  repeat' first
    | assumption
    | apply T1_if
    | apply T0_if
    | exact T1_none
    | exact T0_none
    | refine T1_some ?_
    | refine T0_some ?_
    | refine mupk ?_ (by omega)
    | refine mrowk ?_ (by omega)
    | apply fr_f_X9_dig
    | apply fr_f_X11_error
    | refine T1_bind1 ?_ (fun q hq => ?_)
    | refine T1_bind0 ?_ (fun q hq => ?_)
    | refine T0_bind1 ?_ (fun q hq => ?_)
    | refine T0_bind0 ?_ (fun q hq => ?_)
    | refine T1_bindv (fun q => ?_)
    | refine T0_bindv (fun q => ?_)
    | omega
theorem fr_f_X11_going {ρ : Nat → Int32} {p0 : Int32} {p1 : Int32} {p2 : Int32} {σ : Sg}   (hσ : σ 1000000 = ρ) : T1 ρ (f_X11_going p0 p1 p2 σ) := by
  unfold f_X11_going
  repeat' first
    | assumption
    | apply T1_if
    | apply T0_if
    | exact T1_none
    | exact T0_none
    | refine T1_some ?_
    | refine T0_some ?_
    | refine mupk ?_ (by omega)
    | refine mrowk ?_ (by omega)
    | apply fr_f_X11_error
    | apply fr_f_X9_lead
    | refine T1_bind1 ?_ (fun q hq => ?_)
    | refine T1_bind0 ?_ (fun q hq => ?_)
    | refine T0_bind1 ?_ (fun q hq => ?_)
    | refine T0_bind0 ?_ (fun q hq => ?_)
    | refine T1_bindv (fun q => ?_)
    | refine T0_bindv (fun q => ?_)
    | omega
theorem fr_c_X11_set_80 {ρ : Nat → Int32} {x1 : Int32} {x3 : Int32} {s0 : Nat} {σ : Sg}  (h_s0 : s0 < 898000) (hσ : σ 1000000 = ρ) : T1 ρ (c_X11_set_80 x1 x3 s0 σ) := by
  unfold c_X11_set_80
  repeat' first
    | assumption
    | apply T1_if
    | apply T0_if
    | exact T1_none
    | exact T0_none
    | refine T1_some ?_
    | refine T0_some ?_
    | refine mupk ?_ (by omega)
    | refine mrowk ?_ (by omega)
    | apply fr_f_X11_lay
    | refine T1_bind1 ?_ (fun q hq => ?_)
    | refine T1_bind0 ?_ (fun q hq => ?_)
    | refine T0_bind1 ?_ (fun q hq => ?_)
    | refine T0_bind0 ?_ (fun q hq => ?_)
    | refine T1_bindv (fun q => ?_)
    | refine T0_bindv (fun q => ?_)
    | omega
theorem fr_c_X11_set_41 {ρ : Nat → Int32} {x1 : Int32} {x2 : Int32} {x3 : Int32} {s0 : Int32} {s1 : Int32} {s2 : Int32} {σ : Sg}   (hσ : σ 1000000 = ρ) : T1 ρ (c_X11_set_41 x1 x2 x3 s0 s1 s2 σ) := by
  unfold c_X11_set_41
  repeat' first
    | assumption
    | apply T1_if
    | apply T0_if
    | exact T1_none
    | exact T0_none
    | refine T1_some ?_
    | refine T0_some ?_
    | refine mupk ?_ (by omega)
    | refine mrowk ?_ (by omega)
    | apply fr_f_X11_error
    | apply fr_c_X11_set_80
    | refine T1_bind1 ?_ (fun q hq => ?_)
    | refine T1_bind0 ?_ (fun q hq => ?_)
    | refine T0_bind1 ?_ (fun q hq => ?_)
    | refine T0_bind0 ?_ (fun q hq => ?_)
    | refine T1_bindv (fun q => ?_)
    | refine T0_bindv (fun q => ?_)
    | omega
theorem fr_f_X11_set {ρ : Nat → Int32} {p0 : Int32} {p1 : Int32} {p2 : Int32} {σ : Sg}   (hσ : σ 1000000 = ρ) : T1 ρ (f_X11_set p0 p1 p2 σ) := by
  unfold f_X11_set
  repeat' first
    | assumption
    | apply T1_if
    | apply T0_if
    | exact T1_none
    | exact T0_none
    | refine T1_some ?_
    | refine T0_some ?_
    | refine mupk ?_ (by omega)
    | refine mrowk ?_ (by omega)
    | apply fr_f_X11_error
    | apply fr_c_X11_set_41
    | refine T1_bind1 ?_ (fun q hq => ?_)
    | refine T1_bind0 ?_ (fun q hq => ?_)
    | refine T0_bind1 ?_ (fun q hq => ?_)
    | refine T0_bind0 ?_ (fun q hq => ?_)
    | refine T1_bindv (fun q => ?_)
    | refine T0_bindv (fun q => ?_)
    | omega
theorem fr_f_X11_ofWell {ρ : Nat → Int32} {p0 : Int32} {p1 : Int32} {σ : Sg}   (hσ : σ 1000000 = ρ) : T1 ρ (f_X11_ofWell p0 p1 σ) := by
  unfold f_X11_ofWell
  repeat' first
    | assumption
    | apply T1_if
    | apply T0_if
    | exact T1_none
    | exact T0_none
    | refine T1_some ?_
    | refine T0_some ?_
    | refine mupk ?_ (by omega)
    | refine mrowk ?_ (by omega)
    | apply fr_f_X11_error
    | refine T1_bind1 ?_ (fun q hq => ?_)
    | refine T1_bind0 ?_ (fun q hq => ?_)
    | refine T0_bind1 ?_ (fun q hq => ?_)
    | refine T0_bind0 ?_ (fun q hq => ?_)
    | refine T1_bindv (fun q => ?_)
    | refine T0_bindv (fun q => ?_)
    | omega
theorem fr_c_X11_goings_98 {ρ : Nat → Int32} {x4 : Int32} {σ : Sg}   (hσ : σ 1000000 = ρ) : T1 ρ (c_X11_goings_98 x4 σ) := by
  unfold c_X11_goings_98
  repeat' first
    | assumption
    | apply T1_if
    | apply T0_if
    | exact T1_none
    | exact T0_none
    | refine T1_some ?_
    | refine T0_some ?_
    | refine mupk ?_ (by omega)
    | refine mrowk ?_ (by omega)
    | refine T1_bind1 ?_ (fun q hq => ?_)
    | refine T1_bind0 ?_ (fun q hq => ?_)
    | refine T0_bind1 ?_ (fun q hq => ?_)
    | refine T0_bind0 ?_ (fun q hq => ?_)
    | refine T1_bindv (fun q => ?_)
    | refine T0_bindv (fun q => ?_)
    | omega
theorem fr_c_X11_goings_43 {ρ : Nat → Int32}    : ∀ (n : Nat) (x1 : Nat) (x2 : Int32) (x3 : Int32) (σ : Sg), σ 1000000 = ρ → T1 ρ (c_X11_goings_43  n x1 x2 x3 σ) := by
  intro n
  induction n with
  | zero => intros; exact T1_none
  | succ n ih =>
    intro x1 x2 x3 σ hσ
    rw [c_X11_goings_43]
    repeat' first
      | assumption
      | apply T1_if
      | apply T0_if
      | exact T1_none
      | exact T0_none
      | refine T1_some ?_
      | refine T0_some ?_
      | refine mupk ?_ (by omega)
      | refine mrowk ?_ (by omega)
      | apply ih
      | apply fr_c_X11_goings_98
      | apply fr_f_X9_lead
      | refine T1_bind1 ?_ (fun q hq => ?_)
      | refine T1_bind0 ?_ (fun q hq => ?_)
      | refine T0_bind1 ?_ (fun q hq => ?_)
      | refine T0_bind0 ?_ (fun q hq => ?_)
      | refine T1_bindv (fun q => ?_)
      | refine T0_bindv (fun q => ?_)
      | omega
theorem fr_f_X11_goings {ρ : Nat → Int32} {p0 : Int32} {σ : Sg}   (hσ : σ 1000000 = ρ) : T1 ρ (f_X11_goings p0 σ) := by
  unfold f_X11_goings
  repeat' first
    | assumption
    | apply T1_if
    | apply T0_if
    | exact T1_none
    | exact T0_none
    | refine T1_some ?_
    | refine T0_some ?_
    | refine mupk ?_ (by omega)
    | refine mrowk ?_ (by omega)
    | apply fr_f_X11_error
    | apply fr_c_X11_goings_43
    | refine T1_bind1 ?_ (fun q hq => ?_)
    | refine T1_bind0 ?_ (fun q hq => ?_)
    | refine T0_bind1 ?_ (fun q hq => ?_)
    | refine T0_bind0 ?_ (fun q hq => ?_)
    | refine T1_bindv (fun q => ?_)
    | refine T0_bindv (fun q => ?_)
    | omega
theorem fr_f_X7_place {ρ : Nat → Int32} {a : Nat} {p0 : Int32} {p1 : Int32} {p2 : Int32} {p3 : Int32} {σ : Sg}  (h_a : a < 898000) (hσ : σ 1000000 = ρ) : T0 ρ (f_X7_place a p0 p1 p2 p3 σ) := by
  unfold f_X7_place
  repeat' first
    | assumption
    | apply T1_if
    | apply T0_if
    | exact T1_none
    | exact T0_none
    | refine T1_some ?_
    | refine T0_some ?_
    | refine mupk ?_ (by omega)
    | refine mrowk ?_ (by omega)
    | apply fr_f_X11_lay
    | refine T1_bind1 ?_ (fun q hq => ?_)
    | refine T1_bind0 ?_ (fun q hq => ?_)
    | refine T0_bind1 ?_ (fun q hq => ?_)
    | refine T0_bind0 ?_ (fun q hq => ?_)
    | refine T1_bindv (fun q => ?_)
    | refine T0_bindv (fun q => ?_)
    | omega
theorem fr_f_X7_make {ρ : Nat → Int32} {a : Nat} {p0 : Int32} {p1 : Int32} {σ : Sg}  (h_a : a < 897000) (hσ : σ 1000000 = ρ) : T1 ρ (f_X7_make a p0 p1 σ) := by
  unfold f_X7_make
  repeat' first
    | assumption
    | apply T1_if
    | apply T0_if
    | exact T1_none
    | exact T0_none
    | refine T1_some ?_
    | refine T0_some ?_
    | refine mupk ?_ (by omega)
    | refine mrowk ?_ (by omega)
    | apply fr_f_X11_lay
    | apply fr_f_X7_place
    | refine T1_bind1 ?_ (fun q hq => ?_)
    | refine T1_bind0 ?_ (fun q hq => ?_)
    | refine T0_bind1 ?_ (fun q hq => ?_)
    | refine T0_bind0 ?_ (fun q hq => ?_)
    | refine T1_bindv (fun q => ?_)
    | refine T0_bindv (fun q => ?_)
    | omega
theorem fr_f_X11_thing {ρ : Nat → Int32} {p0 : Int32} {p1 : Int32} {σ : Sg}   (hσ : σ 1000000 = ρ) : T1 ρ (f_X11_thing p0 p1 σ) := by
  unfold f_X11_thing
  repeat' first
    | assumption
    | apply T1_if
    | apply T0_if
    | exact T1_none
    | exact T0_none
    | refine T1_some ?_
    | refine T0_some ?_
    | refine mupk ?_ (by omega)
    | refine mrowk ?_ (by omega)
    | apply fr_f_X11_error
    | apply fr_f_X7_make
    | refine T1_bind1 ?_ (fun q hq => ?_)
    | refine T1_bind0 ?_ (fun q hq => ?_)
    | refine T0_bind1 ?_ (fun q hq => ?_)
    | refine T0_bind0 ?_ (fun q hq => ?_)
    | refine T1_bindv (fun q => ?_)
    | refine T0_bindv (fun q => ?_)
    | omega
theorem fr_c_X6_worth_144 {ρ : Nat → Int32} {k6 : Int32 → Int32 → Int32 → Int32 → Int32 → Int32 → Sg → Option (Int32 × Sg)} {a : Nat} {x1 : Int32} {x2 : Int32} {x3 : Int32} {x4 : Int32} {x5 : Int32} {x6 : Int32} {σ : Sg} (H_k6 : ∀ (y0 : Int32) (y1 : Int32) (y2 : Int32) (y3 : Int32) (y4 : Int32) (y5 : Int32) (y6 : Sg), y6 1000000 = ρ → T1 ρ (k6 y0 y1 y2 y3 y4 y5 y6)) (h_a : a < 899000) (hσ : σ 1000000 = ρ) : T1 ρ (c_X6_worth_144 k6 a x1 x2 x3 x4 x5 x6 σ) := by
  unfold c_X6_worth_144
  repeat' first
    | assumption
    | apply T1_if
    | apply T0_if
    | exact T1_none
    | exact T0_none
    | refine T1_some ?_
    | refine T0_some ?_
    | refine mupk ?_ (by omega)
    | refine mrowk ?_ (by omega)
    | apply H_k6
    | refine T1_bind1 ?_ (fun q hq => ?_)
    | refine T1_bind0 ?_ (fun q hq => ?_)
    | refine T0_bind1 ?_ (fun q hq => ?_)
    | refine T0_bind0 ?_ (fun q hq => ?_)
    | refine T1_bindv (fun q => ?_)
    | refine T0_bindv (fun q => ?_)
    | omega
theorem fr_c_X6_worth_100 {ρ : Nat → Int32} {k6 : Int32 → Int32 → Int32 → Int32 → Int32 → Int32 → Sg → Option (Int32 × Sg)} {a : Nat} {x1 : Int32} {x2 : Int32} {x3 : Int32} {x4 : Int32} {x5 : Int32} {x6 : Int32} {s1 : Int32} {s2 : Int32} {σ : Sg} (H_k6 : ∀ (y0 : Int32) (y1 : Int32) (y2 : Int32) (y3 : Int32) (y4 : Int32) (y5 : Int32) (y6 : Sg), y6 1000000 = ρ → T1 ρ (k6 y0 y1 y2 y3 y4 y5 y6)) (h_a : a < 898000) (hσ : σ 1000000 = ρ) : T1 ρ (c_X6_worth_100 k6 a x1 x2 x3 x4 x5 x6 s1 s2 σ) := by
  unfold c_X6_worth_100
  repeat' first
    | assumption
    | apply T1_if
    | apply T0_if
    | exact T1_none
    | exact T0_none
    | refine T1_some ?_
    | refine T0_some ?_
    | refine mupk ?_ (by omega)
    | refine mrowk ?_ (by omega)
    | apply H_k6
    | apply fr_f_X11_lay
    | apply fr_c_X6_worth_144
    | refine T1_bind1 ?_ (fun q hq => ?_)
    | refine T1_bind0 ?_ (fun q hq => ?_)
    | refine T0_bind1 ?_ (fun q hq => ?_)
    | refine T0_bind0 ?_ (fun q hq => ?_)
    | refine T1_bindv (fun q => ?_)
    | refine T0_bindv (fun q => ?_)
    | omega
theorem fr_c_X6_worth_64 {ρ : Nat → Int32} {k6 : Int32 → Int32 → Int32 → Int32 → Int32 → Int32 → Sg → Option (Int32 × Sg)} {a : Nat} {x1 : Int32} {x2 : Int32} {x3 : Int32} {x4 : Int32} {x5 : Int32} {x6 : Int32} {s1 : Int32} {s2 : Int32} {σ : Sg} (H_k6 : ∀ (y0 : Int32) (y1 : Int32) (y2 : Int32) (y3 : Int32) (y4 : Int32) (y5 : Int32) (y6 : Sg), y6 1000000 = ρ → T1 ρ (k6 y0 y1 y2 y3 y4 y5 y6)) (h_a : a < 898000) (hσ : σ 1000000 = ρ) : T1 ρ (c_X6_worth_64 k6 a x1 x2 x3 x4 x5 x6 s1 s2 σ) := by
  unfold c_X6_worth_64
  repeat' first
    | assumption
    | apply T1_if
    | apply T0_if
    | exact T1_none
    | exact T0_none
    | refine T1_some ?_
    | refine T0_some ?_
    | refine mupk ?_ (by omega)
    | refine mrowk ?_ (by omega)
    | apply H_k6
    | apply fr_f_X11_lay
    | apply fr_c_X6_worth_144
    | refine T1_bind1 ?_ (fun q hq => ?_)
    | refine T1_bind0 ?_ (fun q hq => ?_)
    | refine T0_bind1 ?_ (fun q hq => ?_)
    | refine T0_bind0 ?_ (fun q hq => ?_)
    | refine T1_bindv (fun q => ?_)
    | refine T0_bindv (fun q => ?_)
    | omega
theorem fr_c_X6_worth_6 {ρ : Nat → Int32} {a : Nat}  (h_a : a < 897000) : ∀ (n : Nat) (x1 : Int32) (x2 : Int32) (x3 : Int32) (x4 : Int32) (x5 : Int32) (x6 : Int32) (σ : Sg), σ 1000000 = ρ → T1 ρ (c_X6_worth_6 a n x1 x2 x3 x4 x5 x6 σ) := by
  intro n
  induction n with
  | zero => intros; exact T1_none
  | succ n ih =>
    intro x1 x2 x3 x4 x5 x6 σ hσ
    rw [c_X6_worth_6]
    repeat' first
      | assumption
      | apply T1_if
      | apply T0_if
      | exact T1_none
      | exact T0_none
      | refine T1_some ?_
      | refine T0_some ?_
      | refine mupk ?_ (by omega)
      | refine mrowk ?_ (by omega)
      | apply ih
      | apply fr_c_X6_worth_100
      | apply fr_f_X11_lay
      | apply fr_c_X6_worth_144
      | apply fr_c_X6_worth_64
      | refine T1_bind1 ?_ (fun q hq => ?_)
      | refine T1_bind0 ?_ (fun q hq => ?_)
      | refine T0_bind1 ?_ (fun q hq => ?_)
      | refine T0_bind0 ?_ (fun q hq => ?_)
      | refine T1_bindv (fun q => ?_)
      | refine T0_bindv (fun q => ?_)
      | omega
theorem fr_f_X6_worth {ρ : Nat → Int32} {a : Nat} {p0 : Int32} {p1 : Int32} {p2 : Int32} {p3 : Int32} {σ : Sg}  (h_a : a < 896000) (hσ : σ 1000000 = ρ) : T1 ρ (f_X6_worth a p0 p1 p2 p3 σ) := by
  unfold f_X6_worth
  repeat' first
    | assumption
    | apply T1_if
    | apply T0_if
    | exact T1_none
    | exact T0_none
    | refine T1_some ?_
    | refine T0_some ?_
    | refine mupk ?_ (by omega)
    | refine mrowk ?_ (by omega)
    | apply fr_c_X6_worth_6
    | refine T1_bind1 ?_ (fun q hq => ?_)
    | refine T1_bind0 ?_ (fun q hq => ?_)
    | refine T0_bind1 ?_ (fun q hq => ?_)
    | refine T0_bind0 ?_ (fun q hq => ?_)
    | refine T1_bindv (fun q => ?_)
    | refine T0_bindv (fun q => ?_)
    | omega
theorem fr_f_X10_gives {ρ : Nat → Int32} {a : Nat} {a_sl : Nat} {a_tk : Nat} {p0 : Int32} {p1 : Int32} {p2 : Int32} {p3 : Int32} {p4 : Int32} {σ : Sg}  (h_a : a < 895000) (h_a_sl : a_sl < 895000) (h_a_tk : a_tk < 895000) (hσ : σ 1000000 = ρ) : T1 ρ (f_X10_gives a a_sl a_tk p0 p1 p2 p3 p4 σ) := by
  unfold f_X10_gives
  repeat' first
    | assumption
    | apply T1_if
    | apply T0_if
    | exact T1_none
    | exact T0_none
    | refine T1_some ?_
    | refine T0_some ?_
    | refine mupk ?_ (by omega)
    | refine mrowk ?_ (by omega)
    | apply fr_f_X6_worth
    | refine T1_bind1 ?_ (fun q hq => ?_)
    | refine T1_bind0 ?_ (fun q hq => ?_)
    | refine T0_bind1 ?_ (fun q hq => ?_)
    | refine T0_bind0 ?_ (fun q hq => ?_)
    | refine T1_bindv (fun q => ?_)
    | refine T0_bindv (fun q => ?_)
    | omega
theorem fr_f_X10_lasts {ρ : Nat → Int32} {a : Nat} {a_sl : Nat} {a_tk : Nat} {p0 : Int32} {σ : Sg}  (h_a : a < 894000) (h_a_sl : a_sl < 894000) (h_a_tk : a_tk < 894000) (hσ : σ 1000000 = ρ) : T1 ρ (f_X10_lasts a a_sl a_tk p0 σ) := by
  unfold f_X10_lasts
  repeat' first
    | assumption
    | apply T1_if
    | apply T0_if
    | exact T1_none
    | exact T0_none
    | refine T1_some ?_
    | refine T0_some ?_
    | refine mupk ?_ (by omega)
    | refine mrowk ?_ (by omega)
    | apply fr_f_X10_gives
    | refine T1_bind1 ?_ (fun q hq => ?_)
    | refine T1_bind0 ?_ (fun q hq => ?_)
    | refine T0_bind1 ?_ (fun q hq => ?_)
    | refine T0_bind0 ?_ (fun q hq => ?_)
    | refine T1_bindv (fun q => ?_)
    | refine T0_bindv (fun q => ?_)
    | omega
theorem fr_f_X10_detail {ρ : Nat → Int32} {a : Nat} {a_sl : Nat} {a_tk : Nat} {p0 : Int32} {p1 : Int32} {σ : Sg}  (h_a : a < 893000) (h_a_sl : a_sl < 893000) (h_a_tk : a_tk < 893000) (hσ : σ 1000000 = ρ) : T1 ρ (f_X10_detail a a_sl a_tk p0 p1 σ) := by
  unfold f_X10_detail
  repeat' first
    | assumption
    | apply T1_if
    | apply T0_if
    | exact T1_none
    | exact T0_none
    | refine T1_some ?_
    | refine T0_some ?_
    | refine mupk ?_ (by omega)
    | refine mrowk ?_ (by omega)
    | apply fr_f_X10_lasts
    | refine T1_bind1 ?_ (fun q hq => ?_)
    | refine T1_bind0 ?_ (fun q hq => ?_)
    | refine T0_bind1 ?_ (fun q hq => ?_)
    | refine T0_bind0 ?_ (fun q hq => ?_)
    | refine T1_bindv (fun q => ?_)
    | refine T0_bindv (fun q => ?_)
    | omega
theorem fr_f_X11_ofThing {ρ : Nat → Int32} {p0 : Int32} {p1 : Int32} {σ : Sg}   (hσ : σ 1000000 = ρ) : T1 ρ (f_X11_ofThing p0 p1 σ) := by
  unfold f_X11_ofThing
  repeat' first
    | assumption
    | apply T1_if
    | apply T0_if
    | exact T1_none
    | exact T0_none
    | refine T1_some ?_
    | refine T0_some ?_
    | refine mupk ?_ (by omega)
    | refine mrowk ?_ (by omega)
    | apply fr_f_X11_error
    | apply fr_f_X10_detail
    | refine T1_bind1 ?_ (fun q hq => ?_)
    | refine T1_bind0 ?_ (fun q hq => ?_)
    | refine T0_bind1 ?_ (fun q hq => ?_)
    | refine T0_bind0 ?_ (fun q hq => ?_)
    | refine T1_bindv (fun q => ?_)
    | refine T0_bindv (fun q => ?_)
    | omega
theorem fr_f_X11_as {ρ : Nat → Int32} {p0 : Int32} {p1 : Int32} {σ : Sg}   (hσ : σ 1000000 = ρ) : T1 ρ (f_X11_as p0 p1 σ) := by
  unfold f_X11_as
  repeat' first
    | assumption
    | apply T1_if
    | apply T0_if
    | exact T1_none
    | exact T0_none
    | refine T1_some ?_
    | refine T0_some ?_
    | refine mupk ?_ (by omega)
    | refine mrowk ?_ (by omega)
    | apply fr_f_X11_error
    | refine T1_bind1 ?_ (fun q hq => ?_)
    | refine T1_bind0 ?_ (fun q hq => ?_)
    | refine T0_bind1 ?_ (fun q hq => ?_)
    | refine T0_bind0 ?_ (fun q hq => ?_)
    | refine T1_bindv (fun q => ?_)
    | refine T0_bindv (fun q => ?_)
    | omega
theorem fr_f_X11_let {ρ : Nat → Int32} {p0 : Int32} {p1 : Int32} {σ : Sg}   (hσ : σ 1000000 = ρ) : T1 ρ (f_X11_let p0 p1 σ) := by
  unfold f_X11_let
  repeat' first
    | assumption
    | apply T1_if
    | apply T0_if
    | exact T1_none
    | exact T0_none
    | refine T1_some ?_
    | refine T0_some ?_
    | refine mupk ?_ (by omega)
    | refine mrowk ?_ (by omega)
    | apply fr_f_X11_error
    | apply fr_f_X7_place
    | refine T1_bind1 ?_ (fun q hq => ?_)
    | refine T1_bind0 ?_ (fun q hq => ?_)
    | refine T0_bind1 ?_ (fun q hq => ?_)
    | refine T0_bind0 ?_ (fun q hq => ?_)
    | refine T1_bindv (fun q => ?_)
    | refine T0_bindv (fun q => ?_)
    | omega
theorem fr_f_X11_fish {ρ : Nat → Int32} {p0 : Int32} {σ : Sg}   (hσ : σ 1000000 = ρ) : T1 ρ (f_X11_fish p0 σ) := by
  unfold f_X11_fish
  repeat' first
    | assumption
    | apply T1_if
    | apply T0_if
    | exact T1_none
    | exact T0_none
    | refine T1_some ?_
    | refine T0_some ?_
    | refine mupk ?_ (by omega)
    | refine mrowk ?_ (by omega)
    | apply fr_f_X11_error
    | apply fr_f_X7_place
    | refine T1_bind1 ?_ (fun q hq => ?_)
    | refine T1_bind0 ?_ (fun q hq => ?_)
    | refine T0_bind1 ?_ (fun q hq => ?_)
    | refine T0_bind0 ?_ (fun q hq => ?_)
    | refine T1_bindv (fun q => ?_)
    | refine T0_bindv (fun q => ?_)
    | omega
theorem fr_f_X4_append {ρ : Nat → Int32} {a : Nat} {a_n : Nat} {p0 : Int32} {σ : Sg}  (h_a : a < 898000) (h_a_n : a_n < 898000) (hσ : σ 1000000 = ρ) : T0 ρ (f_X4_append a a_n p0 σ) := by
  unfold f_X4_append
  repeat' first
    | assumption
    | apply T1_if
    | apply T0_if
    | exact T1_none
    | exact T0_none
    | refine T1_some ?_
    | refine T0_some ?_
    | refine mupk ?_ (by omega)
    | refine mrowk ?_ (by omega)
    | apply fr_f_X11_lay
    | refine T1_bind1 ?_ (fun q hq => ?_)
    | refine T1_bind0 ?_ (fun q hq => ?_)
    | refine T0_bind1 ?_ (fun q hq => ?_)
    | refine T0_bind0 ?_ (fun q hq => ?_)
    | refine T1_bindv (fun q => ?_)
    | refine T0_bindv (fun q => ?_)
    | omega
theorem fr_c_X11_feed_42 {ρ : Nat → Int32}    : ∀ (n : Nat) (x1 : Int64) (x2 : Int32) (x3 : Int32) (σ : Sg), σ 1000000 = ρ → T1 ρ (c_X11_feed_42  n x1 x2 x3 σ) := by
  intro n
  induction n with
  | zero => intros; exact T1_none
  | succ n ih =>
    intro x1 x2 x3 σ hσ
    rw [c_X11_feed_42]
    repeat' first
      | assumption
      | apply T1_if
      | apply T0_if
      | exact T1_none
      | exact T0_none
      | refine T1_some ?_
      | refine T0_some ?_
      | refine mupk ?_ (by omega)
      | refine mrowk ?_ (by omega)
      | apply ih
      | apply fr_f_X4_append
      | refine T1_bind1 ?_ (fun q hq => ?_)
      | refine T1_bind0 ?_ (fun q hq => ?_)
      | refine T0_bind1 ?_ (fun q hq => ?_)
      | refine T0_bind0 ?_ (fun q hq => ?_)
      | refine T1_bindv (fun q => ?_)
      | refine T0_bindv (fun q => ?_)
      | omega
theorem fr_f_X11_feed {ρ : Nat → Int32} {p0 : Int64} {p1 : Int32} {σ : Sg}   (hσ : σ 1000000 = ρ) : T1 ρ (f_X11_feed p0 p1 σ) := by
  unfold f_X11_feed
  repeat' first
    | assumption
    | apply T1_if
    | apply T0_if
    | exact T1_none
    | exact T0_none
    | refine T1_some ?_
    | refine T0_some ?_
    | refine mupk ?_ (by omega)
    | refine mrowk ?_ (by omega)
    | apply fr_f_X11_error
    | apply fr_c_X11_feed_42
    | refine T1_bind1 ?_ (fun q hq => ?_)
    | refine T1_bind0 ?_ (fun q hq => ?_)
    | refine T0_bind1 ?_ (fun q hq => ?_)
    | refine T0_bind0 ?_ (fun q hq => ?_)
    | refine T1_bindv (fun q => ?_)
    | refine T0_bindv (fun q => ?_)
    | omega
theorem fr_f_X6_append {ρ : Nat → Int32} {a : Nat} {p0 : Int32} {σ : Sg}  (h_a : a < 898000) (hσ : σ 1000000 = ρ) : T0 ρ (f_X6_append a p0 σ) := by
  unfold f_X6_append
  repeat' first
    | assumption
    | apply T1_if
    | apply T0_if
    | exact T1_none
    | exact T0_none
    | refine T1_some ?_
    | refine T0_some ?_
    | refine mupk ?_ (by omega)
    | refine mrowk ?_ (by omega)
    | apply fr_f_X11_lay
    | refine T1_bind1 ?_ (fun q hq => ?_)
    | refine T1_bind0 ?_ (fun q hq => ?_)
    | refine T0_bind1 ?_ (fun q hq => ?_)
    | refine T0_bind0 ?_ (fun q hq => ?_)
    | refine T1_bindv (fun q => ?_)
    | refine T0_bindv (fun q => ?_)
    | omega
theorem fr_c_X3_reads_39 {ρ : Nat → Int32} {g_X3_reads : Int32 → Int32 → Sg → Option (Int32 × Sg)} {g_X3_readsUnit : Int32 → Sg → Option (Int32 × Sg)} {g_X3_readsNot : Int32 → Sg → Option (Int32 × Sg)} {g_X3_readsInside : Int32 → Sg → Option (Int32 × Sg)} (H_g_X3_reads : ∀ (y0 : Int32) (y1 : Int32) (y2 : Sg), y2 1000000 = ρ → T1 ρ (g_X3_reads y0 y1 y2)) (H_g_X3_readsUnit : ∀ (y0 : Int32) (y1 : Sg), y1 1000000 = ρ → T1 ρ (g_X3_readsUnit y0 y1)) (H_g_X3_readsNot : ∀ (y0 : Int32) (y1 : Sg), y1 1000000 = ρ → T1 ρ (g_X3_readsNot y0 y1)) (H_g_X3_readsInside : ∀ (y0 : Int32) (y1 : Sg), y1 1000000 = ρ → T1 ρ (g_X3_readsInside y0 y1))  : ∀ (n : Nat) (x1 : Int32) (x2 : Int32) (x3 : Int32) (x4 : Int32) (σ : Sg), σ 1000000 = ρ → T1 ρ (c_X3_reads_39 g_X3_reads g_X3_readsUnit g_X3_readsNot g_X3_readsInside n x1 x2 x3 x4 σ) := by
  intro n
  induction n with
  | zero => intros; exact T1_none
  | succ n ih =>
    intro x1 x2 x3 x4 σ hσ
    rw [c_X3_reads_39]
    repeat' first
      | assumption
      | apply T1_if
      | apply T0_if
      | exact T1_none
      | exact T0_none
      | refine T1_some ?_
      | refine T0_some ?_
      | refine mupk ?_ (by omega)
      | refine mrowk ?_ (by omega)
      | apply ih
      | apply H_g_X3_reads
      | apply H_g_X3_readsUnit
      | apply H_g_X3_readsNot
      | apply H_g_X3_readsInside
      | apply fr_f_X6_append
      | refine T1_bind1 ?_ (fun q hq => ?_)
      | refine T1_bind0 ?_ (fun q hq => ?_)
      | refine T0_bind1 ?_ (fun q hq => ?_)
      | refine T0_bind0 ?_ (fun q hq => ?_)
      | refine T1_bindv (fun q => ?_)
      | refine T0_bindv (fun q => ?_)
      | omega
theorem fr_c_X3_reads_35 {ρ : Nat → Int32} {g_X3_reads : Int32 → Int32 → Sg → Option (Int32 × Sg)} {g_X3_readsUnit : Int32 → Sg → Option (Int32 × Sg)} {g_X3_readsNot : Int32 → Sg → Option (Int32 × Sg)} {g_X3_readsInside : Int32 → Sg → Option (Int32 × Sg)} {x1 : Int32} {x2 : Int32} {s0 : Int32} {σ : Sg} (H_g_X3_reads : ∀ (y0 : Int32) (y1 : Int32) (y2 : Sg), y2 1000000 = ρ → T1 ρ (g_X3_reads y0 y1 y2)) (H_g_X3_readsUnit : ∀ (y0 : Int32) (y1 : Sg), y1 1000000 = ρ → T1 ρ (g_X3_readsUnit y0 y1)) (H_g_X3_readsNot : ∀ (y0 : Int32) (y1 : Sg), y1 1000000 = ρ → T1 ρ (g_X3_readsNot y0 y1)) (H_g_X3_readsInside : ∀ (y0 : Int32) (y1 : Sg), y1 1000000 = ρ → T1 ρ (g_X3_readsInside y0 y1))  (hσ : σ 1000000 = ρ) : T1 ρ (c_X3_reads_35 g_X3_reads g_X3_readsUnit g_X3_readsNot g_X3_readsInside x1 x2 s0 σ) := by
  unfold c_X3_reads_35
  repeat' first
    | assumption
    | apply T1_if
    | apply T0_if
    | exact T1_none
    | exact T0_none
    | refine T1_some ?_
    | refine T0_some ?_
    | refine mupk ?_ (by omega)
    | refine mrowk ?_ (by omega)
    | apply H_g_X3_reads
    | apply H_g_X3_readsUnit
    | apply H_g_X3_readsNot
    | apply H_g_X3_readsInside
    | apply fr_c_X3_reads_39
    | refine T1_bind1 ?_ (fun q hq => ?_)
    | refine T1_bind0 ?_ (fun q hq => ?_)
    | refine T0_bind1 ?_ (fun q hq => ?_)
    | refine T0_bind0 ?_ (fun q hq => ?_)
    | refine T1_bindv (fun q => ?_)
    | refine T0_bindv (fun q => ?_)
    | omega
theorem fr_b_X3_reads {ρ : Nat → Int32} {g_X3_reads : Int32 → Int32 → Sg → Option (Int32 × Sg)} {g_X3_readsUnit : Int32 → Sg → Option (Int32 × Sg)} {g_X3_readsNot : Int32 → Sg → Option (Int32 × Sg)} {g_X3_readsInside : Int32 → Sg → Option (Int32 × Sg)} {p0 : Int32} {p1 : Int32} {σ : Sg} (H_g_X3_reads : ∀ (y0 : Int32) (y1 : Int32) (y2 : Sg), y2 1000000 = ρ → T1 ρ (g_X3_reads y0 y1 y2)) (H_g_X3_readsUnit : ∀ (y0 : Int32) (y1 : Sg), y1 1000000 = ρ → T1 ρ (g_X3_readsUnit y0 y1)) (H_g_X3_readsNot : ∀ (y0 : Int32) (y1 : Sg), y1 1000000 = ρ → T1 ρ (g_X3_readsNot y0 y1)) (H_g_X3_readsInside : ∀ (y0 : Int32) (y1 : Sg), y1 1000000 = ρ → T1 ρ (g_X3_readsInside y0 y1))  (hσ : σ 1000000 = ρ) : T1 ρ (b_X3_reads g_X3_reads g_X3_readsUnit g_X3_readsNot g_X3_readsInside p0 p1 σ) := by
  unfold b_X3_reads
  repeat' first
    | assumption
    | apply T1_if
    | apply T0_if
    | exact T1_none
    | exact T0_none
    | refine T1_some ?_
    | refine T0_some ?_
    | refine mupk ?_ (by omega)
    | refine mrowk ?_ (by omega)
    | apply H_g_X3_reads
    | apply H_g_X3_readsUnit
    | apply H_g_X3_readsNot
    | apply H_g_X3_readsInside
    | apply fr_c_X3_reads_35
    | refine T1_bind1 ?_ (fun q hq => ?_)
    | refine T1_bind0 ?_ (fun q hq => ?_)
    | refine T0_bind1 ?_ (fun q hq => ?_)
    | refine T0_bind0 ?_ (fun q hq => ?_)
    | refine T1_bindv (fun q => ?_)
    | refine T0_bindv (fun q => ?_)
    | omega
theorem fr_c_X3_readsUnit_62 {ρ : Nat → Int32} {g_X3_reads : Int32 → Int32 → Sg → Option (Int32 × Sg)} {g_X3_readsUnit : Int32 → Sg → Option (Int32 × Sg)} {g_X3_readsNot : Int32 → Sg → Option (Int32 × Sg)} {g_X3_readsInside : Int32 → Sg → Option (Int32 × Sg)} {x1 : Int32} {x2 : Int32} {σ : Sg} (H_g_X3_reads : ∀ (y0 : Int32) (y1 : Int32) (y2 : Sg), y2 1000000 = ρ → T1 ρ (g_X3_reads y0 y1 y2)) (H_g_X3_readsUnit : ∀ (y0 : Int32) (y1 : Sg), y1 1000000 = ρ → T1 ρ (g_X3_readsUnit y0 y1)) (H_g_X3_readsNot : ∀ (y0 : Int32) (y1 : Sg), y1 1000000 = ρ → T1 ρ (g_X3_readsNot y0 y1)) (H_g_X3_readsInside : ∀ (y0 : Int32) (y1 : Sg), y1 1000000 = ρ → T1 ρ (g_X3_readsInside y0 y1))  (hσ : σ 1000000 = ρ) : T1 ρ (c_X3_readsUnit_62 g_X3_reads g_X3_readsUnit g_X3_readsNot g_X3_readsInside x1 x2 σ) := by
  unfold c_X3_readsUnit_62
  repeat' first
    | assumption
    | apply T1_if
    | apply T0_if
    | exact T1_none
    | exact T0_none
    | refine T1_some ?_
    | refine T0_some ?_
    | refine mupk ?_ (by omega)
    | refine mrowk ?_ (by omega)
    | apply H_g_X3_reads
    | apply H_g_X3_readsUnit
    | apply H_g_X3_readsNot
    | apply H_g_X3_readsInside
    | refine T1_bind1 ?_ (fun q hq => ?_)
    | refine T1_bind0 ?_ (fun q hq => ?_)
    | refine T0_bind1 ?_ (fun q hq => ?_)
    | refine T0_bind0 ?_ (fun q hq => ?_)
    | refine T1_bindv (fun q => ?_)
    | refine T0_bindv (fun q => ?_)
    | omega
theorem fr_c_X3_readNumber_4 {ρ : Nat → Int32}    : ∀ (n : Nat) (x1 : Int32) (x2 : Int32) (σ : Sg), σ 1000000 = ρ → T0 ρ (c_X3_readNumber_4  n x1 x2 σ) := by
  intro n
  induction n with
  | zero => intros; exact T0_none
  | succ n ih =>
    intro x1 x2 σ hσ
    rw [c_X3_readNumber_4]
    repeat' first
      | assumption
      | apply T1_if
      | apply T0_if
      | exact T1_none
      | exact T0_none
      | refine T1_some ?_
      | refine T0_some ?_
      | refine mupk ?_ (by omega)
      | refine mrowk ?_ (by omega)
      | apply ih
      | apply fr_f_X6_append
      | refine T1_bind1 ?_ (fun q hq => ?_)
      | refine T1_bind0 ?_ (fun q hq => ?_)
      | refine T0_bind1 ?_ (fun q hq => ?_)
      | refine T0_bind0 ?_ (fun q hq => ?_)
      | refine T1_bindv (fun q => ?_)
      | refine T0_bindv (fun q => ?_)
      | omega
theorem fr_f_X3_readNumber {ρ : Nat → Int32} {σ : Sg}   (hσ : σ 1000000 = ρ) : T0 ρ (f_X3_readNumber σ) := by
  unfold f_X3_readNumber
  repeat' first
    | assumption
    | apply T1_if
    | apply T0_if
    | exact T1_none
    | exact T0_none
    | refine T1_some ?_
    | refine T0_some ?_
    | refine mupk ?_ (by omega)
    | refine mrowk ?_ (by omega)
    | apply fr_c_X3_readNumber_4
    | refine T1_bind1 ?_ (fun q hq => ?_)
    | refine T1_bind0 ?_ (fun q hq => ?_)
    | refine T0_bind1 ?_ (fun q hq => ?_)
    | refine T0_bind0 ?_ (fun q hq => ?_)
    | refine T1_bindv (fun q => ?_)
    | refine T0_bindv (fun q => ?_)
    | omega
theorem fr_b_X3_readsUnit {ρ : Nat → Int32} {g_X3_reads : Int32 → Int32 → Sg → Option (Int32 × Sg)} {g_X3_readsUnit : Int32 → Sg → Option (Int32 × Sg)} {g_X3_readsNot : Int32 → Sg → Option (Int32 × Sg)} {g_X3_readsInside : Int32 → Sg → Option (Int32 × Sg)} {p0 : Int32} {σ : Sg} (H_g_X3_reads : ∀ (y0 : Int32) (y1 : Int32) (y2 : Sg), y2 1000000 = ρ → T1 ρ (g_X3_reads y0 y1 y2)) (H_g_X3_readsUnit : ∀ (y0 : Int32) (y1 : Sg), y1 1000000 = ρ → T1 ρ (g_X3_readsUnit y0 y1)) (H_g_X3_readsNot : ∀ (y0 : Int32) (y1 : Sg), y1 1000000 = ρ → T1 ρ (g_X3_readsNot y0 y1)) (H_g_X3_readsInside : ∀ (y0 : Int32) (y1 : Sg), y1 1000000 = ρ → T1 ρ (g_X3_readsInside y0 y1))  (hσ : σ 1000000 = ρ) : T1 ρ (b_X3_readsUnit g_X3_reads g_X3_readsUnit g_X3_readsNot g_X3_readsInside p0 σ) := by
  unfold b_X3_readsUnit
  repeat' first
    | assumption
    | apply T1_if
    | apply T0_if
    | exact T1_none
    | exact T0_none
    | refine T1_some ?_
    | refine T0_some ?_
    | refine mupk ?_ (by omega)
    | refine mrowk ?_ (by omega)
    | apply H_g_X3_reads
    | apply H_g_X3_readsUnit
    | apply H_g_X3_readsNot
    | apply H_g_X3_readsInside
    | apply fr_c_X3_readsUnit_62
    | apply fr_f_X6_append
    | apply fr_f_X3_readNumber
    | refine T1_bind1 ?_ (fun q hq => ?_)
    | refine T1_bind0 ?_ (fun q hq => ?_)
    | refine T0_bind1 ?_ (fun q hq => ?_)
    | refine T0_bind0 ?_ (fun q hq => ?_)
    | refine T1_bindv (fun q => ?_)
    | refine T0_bindv (fun q => ?_)
    | omega
theorem fr_b_X3_readsNot {ρ : Nat → Int32} {g_X3_reads : Int32 → Int32 → Sg → Option (Int32 × Sg)} {g_X3_readsUnit : Int32 → Sg → Option (Int32 × Sg)} {g_X3_readsNot : Int32 → Sg → Option (Int32 × Sg)} {g_X3_readsInside : Int32 → Sg → Option (Int32 × Sg)} {p0 : Int32} {σ : Sg} (H_g_X3_reads : ∀ (y0 : Int32) (y1 : Int32) (y2 : Sg), y2 1000000 = ρ → T1 ρ (g_X3_reads y0 y1 y2)) (H_g_X3_readsUnit : ∀ (y0 : Int32) (y1 : Sg), y1 1000000 = ρ → T1 ρ (g_X3_readsUnit y0 y1)) (H_g_X3_readsNot : ∀ (y0 : Int32) (y1 : Sg), y1 1000000 = ρ → T1 ρ (g_X3_readsNot y0 y1)) (H_g_X3_readsInside : ∀ (y0 : Int32) (y1 : Sg), y1 1000000 = ρ → T1 ρ (g_X3_readsInside y0 y1))  (hσ : σ 1000000 = ρ) : T1 ρ (b_X3_readsNot g_X3_reads g_X3_readsUnit g_X3_readsNot g_X3_readsInside p0 σ) := by
  unfold b_X3_readsNot
  repeat' first
    | assumption
    | apply T1_if
    | apply T0_if
    | exact T1_none
    | exact T0_none
    | refine T1_some ?_
    | refine T0_some ?_
    | refine mupk ?_ (by omega)
    | refine mrowk ?_ (by omega)
    | apply H_g_X3_reads
    | apply H_g_X3_readsUnit
    | apply H_g_X3_readsNot
    | apply H_g_X3_readsInside
    | apply fr_f_X6_append
    | refine T1_bind1 ?_ (fun q hq => ?_)
    | refine T1_bind0 ?_ (fun q hq => ?_)
    | refine T0_bind1 ?_ (fun q hq => ?_)
    | refine T0_bind0 ?_ (fun q hq => ?_)
    | refine T1_bindv (fun q => ?_)
    | refine T0_bindv (fun q => ?_)
    | omega
theorem fr_b_X3_readsInside {ρ : Nat → Int32} {g_X3_reads : Int32 → Int32 → Sg → Option (Int32 × Sg)} {g_X3_readsUnit : Int32 → Sg → Option (Int32 × Sg)} {g_X3_readsNot : Int32 → Sg → Option (Int32 × Sg)} {g_X3_readsInside : Int32 → Sg → Option (Int32 × Sg)} {p0 : Int32} {σ : Sg} (H_g_X3_reads : ∀ (y0 : Int32) (y1 : Int32) (y2 : Sg), y2 1000000 = ρ → T1 ρ (g_X3_reads y0 y1 y2)) (H_g_X3_readsUnit : ∀ (y0 : Int32) (y1 : Sg), y1 1000000 = ρ → T1 ρ (g_X3_readsUnit y0 y1)) (H_g_X3_readsNot : ∀ (y0 : Int32) (y1 : Sg), y1 1000000 = ρ → T1 ρ (g_X3_readsNot y0 y1)) (H_g_X3_readsInside : ∀ (y0 : Int32) (y1 : Sg), y1 1000000 = ρ → T1 ρ (g_X3_readsInside y0 y1))  (hσ : σ 1000000 = ρ) : T1 ρ (b_X3_readsInside g_X3_reads g_X3_readsUnit g_X3_readsNot g_X3_readsInside p0 σ) := by
  unfold b_X3_readsInside
  repeat' first
    | assumption
    | apply T1_if
    | apply T0_if
    | exact T1_none
    | exact T0_none
    | refine T1_some ?_
    | refine T0_some ?_
    | refine mupk ?_ (by omega)
    | refine mrowk ?_ (by omega)
    | apply H_g_X3_reads
    | apply H_g_X3_readsUnit
    | apply H_g_X3_readsNot
    | apply H_g_X3_readsInside
    | refine T1_bind1 ?_ (fun q hq => ?_)
    | refine T1_bind0 ?_ (fun q hq => ?_)
    | refine T0_bind1 ?_ (fun q hq => ?_)
    | refine T0_bind0 ?_ (fun q hq => ?_)
    | refine T1_bindv (fun q => ?_)
    | refine T0_bindv (fun q => ?_)
    | omega
theorem fr_F_X3_reads {ρ : Nat → Int32} : ∀ (n : Nat), (∀ (p0 p1 : Int32) (σ : Sg), σ 1000000 = ρ → T1 ρ (f_X3_reads n p0 p1 σ)) ∧ (∀ (p0 : Int32) (σ : Sg), σ 1000000 = ρ → T1 ρ (f_X3_readsUnit n p0 σ)) ∧ (∀ (p0 : Int32) (σ : Sg), σ 1000000 = ρ → T1 ρ (f_X3_readsNot n p0 σ)) ∧ (∀ (p0 : Int32) (σ : Sg), σ 1000000 = ρ → T1 ρ (f_X3_readsInside n p0 σ)) := by
  intro n
  induction n with
  | zero => exact ⟨fun _ _ _ _ => T1_none, fun _ _ _ => T1_none, fun _ _ _ => T1_none, fun _ _ _ => T1_none⟩
  | succ n ih =>
    obtain ⟨i1, i2, i3, i4⟩ := ih
    refine ⟨fun p0 p1 σ h => ?_, fun p0 σ h => ?_, fun p0 σ h => ?_, fun p0 σ h => ?_⟩
    · rw [f_X3_reads_s]; exact fr_b_X3_reads i1 i2 i3 i4 h
    · rw [f_X3_readsUnit_s]; exact fr_b_X3_readsUnit i1 i2 i3 i4 h
    · rw [f_X3_readsNot_s]; exact fr_b_X3_readsNot i1 i2 i3 i4 h
    · rw [f_X3_readsInside_s]; exact fr_b_X3_readsInside i1 i2 i3 i4 h
theorem fr_f_X3_reads {ρ : Nat → Int32} {n : Nat} {p0 p1 : Int32} {σ : Sg} (h : σ 1000000 = ρ) : T1 ρ (f_X3_reads n p0 p1 σ) := (fr_F_X3_reads n).1 p0 p1 σ h
theorem fr_f_X3_faultFor {ρ : Nat → Int32} {p0 : Int32} {σ : Sg}   (hσ : σ 1000000 = ρ) : T1 ρ (f_X3_faultFor p0 σ) := by
  unfold f_X3_faultFor
  repeat' first
    | assumption
    | apply T1_if
    | apply T0_if
    | exact T1_none
    | exact T0_none
    | refine T1_some ?_
    | refine T0_some ?_
    | refine mupk ?_ (by omega)
    | refine mrowk ?_ (by omega)
    | apply fr_f_X3_reads
    | refine T1_bind1 ?_ (fun q hq => ?_)
    | refine T1_bind0 ?_ (fun q hq => ?_)
    | refine T0_bind1 ?_ (fun q hq => ?_)
    | refine T0_bind0 ?_ (fun q hq => ?_)
    | refine T1_bindv (fun q => ?_)
    | refine T0_bindv (fun q => ?_)
    | omega
theorem fr_f_X11_copyRow {ρ : Nat → Int32} {r0 : Nat} {n0 : Nat} {r1 : Nat} {n1 : Nat} {σ : Sg}  (h_r0 : r0 < 899000) (h_n0 : n0 < 899000) (h_r1 : r1 < 899000) (h_n1 : n1 < 899000) (hσ : σ 1000000 = ρ) : T0 ρ (f_X11_copyRow r0 n0 r1 n1 σ) := by
  unfold f_X11_copyRow
  repeat' first
    | assumption
    | apply T1_if
    | apply T0_if
    | exact T1_none
    | exact T0_none
    | refine T1_some ?_
    | refine T0_some ?_
    | refine mupk ?_ (by omega)
    | refine mrowk ?_ (by omega)
    | refine T1_bind1 ?_ (fun q hq => ?_)
    | refine T1_bind0 ?_ (fun q hq => ?_)
    | refine T0_bind1 ?_ (fun q hq => ?_)
    | refine T0_bind0 ?_ (fun q hq => ?_)
    | refine T1_bindv (fun q => ?_)
    | refine T0_bindv (fun q => ?_)
    | omega
theorem fr_f_X6_copyFrom {ρ : Nat → Int32} {a : Nat} {r0 : Nat} {σ : Sg}  (h_a : a < 898000) (h_r0 : r0 < 898000) (hσ : σ 1000000 = ρ) : T0 ρ (f_X6_copyFrom a r0 σ) := by
  unfold f_X6_copyFrom
  repeat' first
    | assumption
    | apply T1_if
    | apply T0_if
    | exact T1_none
    | exact T0_none
    | refine T1_some ?_
    | refine T0_some ?_
    | refine mupk ?_ (by omega)
    | refine mrowk ?_ (by omega)
    | apply fr_f_X11_copyRow
    | refine T1_bind1 ?_ (fun q hq => ?_)
    | refine T1_bind0 ?_ (fun q hq => ?_)
    | refine T0_bind1 ?_ (fun q hq => ?_)
    | refine T0_bind0 ?_ (fun q hq => ?_)
    | refine T1_bindv (fun q => ?_)
    | refine T0_bindv (fun q => ?_)
    | omega
theorem fr_c_X11_text_63 {ρ : Nat → Int32} {s0 : Nat} {σ : Sg}  (h_s0 : s0 < 897000) (hσ : σ 1000000 = ρ) : T1 ρ (c_X11_text_63 s0 σ) := by
  unfold c_X11_text_63
  repeat' first
    | assumption
    | apply T1_if
    | apply T0_if
    | exact T1_none
    | exact T0_none
    | refine T1_some ?_
    | refine T0_some ?_
    | refine mupk ?_ (by omega)
    | refine mrowk ?_ (by omega)
    | apply fr_f_X6_copyFrom
    | refine T1_bind1 ?_ (fun q hq => ?_)
    | refine T1_bind0 ?_ (fun q hq => ?_)
    | refine T0_bind1 ?_ (fun q hq => ?_)
    | refine T0_bind0 ?_ (fun q hq => ?_)
    | refine T1_bindv (fun q => ?_)
    | refine T0_bindv (fun q => ?_)
    | omega
theorem fr_f_X11_text {ρ : Nat → Int32} {p0 : Int32} {σ : Sg}   (hσ : σ 1000000 = ρ) : T1 ρ (f_X11_text p0 σ) := by
  unfold f_X11_text
  repeat' first
    | assumption
    | apply T1_if
    | apply T0_if
    | exact T1_none
    | exact T0_none
    | refine T1_some ?_
    | refine T0_some ?_
    | refine mupk ?_ (by omega)
    | refine mrowk ?_ (by omega)
    | apply fr_f_X11_error
    | apply fr_f_X3_faultFor
    | apply fr_c_X11_text_63
    | refine T1_bind1 ?_ (fun q hq => ?_)
    | refine T1_bind0 ?_ (fun q hq => ?_)
    | refine T0_bind1 ?_ (fun q hq => ?_)
    | refine T0_bind0 ?_ (fun q hq => ?_)
    | refine T1_bindv (fun q => ?_)
    | refine T0_bindv (fun q => ?_)
    | omega
theorem fr_f_X11_law {ρ : Nat → Int32} {p0 : Int32} {p1 : Int32} {p2 : Int32} {p3 : Int32} {p4 : Int32} {σ : Sg}   (hσ : σ 1000000 = ρ) : T1 ρ (f_X11_law p0 p1 p2 p3 p4 σ) := by
  unfold f_X11_law
  repeat' first
    | assumption
    | apply T1_if
    | apply T0_if
    | exact T1_none
    | exact T0_none
    | refine T1_some ?_
    | refine T0_some ?_
    | refine mupk ?_ (by omega)
    | refine mrowk ?_ (by omega)
    | apply fr_f_X11_error
    | apply fr_f_X10_gives
    | refine T1_bind1 ?_ (fun q hq => ?_)
    | refine T1_bind0 ?_ (fun q hq => ?_)
    | refine T0_bind1 ?_ (fun q hq => ?_)
    | refine T0_bind0 ?_ (fun q hq => ?_)
    | refine T1_bindv (fun q => ?_)
    | refine T0_bindv (fun q => ?_)
    | omega
theorem fr_c_X10_goBy_78 {ρ : Nat → Int32} {k2 : Int32 → Int32 → Sg → Option (Sg)} {a : Nat} {a_sl : Nat} {a_tk : Nat} {x1 : Int32} {x2 : Int32} {σ : Sg} (H_k2 : ∀ (y0 : Int32) (y1 : Int32) (y2 : Sg), y2 1000000 = ρ → T0 ρ (k2 y0 y1 y2)) (h_a : a < 899000) (h_a_sl : a_sl < 899000) (h_a_tk : a_tk < 899000) (hσ : σ 1000000 = ρ) : T0 ρ (c_X10_goBy_78 k2 a a_sl a_tk x1 x2 σ) := by
  unfold c_X10_goBy_78
  repeat' first
    | assumption
    | apply T1_if
    | apply T0_if
    | exact T1_none
    | exact T0_none
    | refine T1_some ?_
    | refine T0_some ?_
    | refine mupk ?_ (by omega)
    | refine mrowk ?_ (by omega)
    | apply H_k2
    | refine T1_bind1 ?_ (fun q hq => ?_)
    | refine T1_bind0 ?_ (fun q hq => ?_)
    | refine T0_bind1 ?_ (fun q hq => ?_)
    | refine T0_bind0 ?_ (fun q hq => ?_)
    | refine T1_bindv (fun q => ?_)
    | refine T0_bindv (fun q => ?_)
    | omega
theorem fr_c_X10_goBy_72 {ρ : Nat → Int32} {k2 : Int32 → Int32 → Sg → Option (Sg)} {k45 : Int32 → Int32 → Int32 → Int32 → Sg → Option (Sg)} {a : Nat} {a_sl : Nat} {a_tk : Nat} {x1 : Int32} {x2 : Int32} {x3 : Int32} {x4 : Int32} {σ : Sg} (H_k2 : ∀ (y0 : Int32) (y1 : Int32) (y2 : Sg), y2 1000000 = ρ → T0 ρ (k2 y0 y1 y2)) (H_k45 : ∀ (y0 : Int32) (y1 : Int32) (y2 : Int32) (y3 : Int32) (y4 : Sg), y4 1000000 = ρ → T0 ρ (k45 y0 y1 y2 y3 y4)) (h_a : a < 899000) (h_a_sl : a_sl < 899000) (h_a_tk : a_tk < 899000) (hσ : σ 1000000 = ρ) : T0 ρ (c_X10_goBy_72 k2 k45 a a_sl a_tk x1 x2 x3 x4 σ) := by
  unfold c_X10_goBy_72
  repeat' first
    | assumption
    | apply T1_if
    | apply T0_if
    | exact T1_none
    | exact T0_none
    | refine T1_some ?_
    | refine T0_some ?_
    | refine mupk ?_ (by omega)
    | refine mrowk ?_ (by omega)
    | apply H_k2
    | apply H_k45
    | refine T1_bind1 ?_ (fun q hq => ?_)
    | refine T1_bind0 ?_ (fun q hq => ?_)
    | refine T0_bind1 ?_ (fun q hq => ?_)
    | refine T0_bind0 ?_ (fun q hq => ?_)
    | refine T1_bindv (fun q => ?_)
    | refine T0_bindv (fun q => ?_)
    | omega
theorem fr_c_X10_comeNearer_130 {ρ : Nat → Int32} {a : Nat} {a_sl : Nat} {a_tk : Nat} {x1 : Int32} {x2 : Int32} {s0 : Int32} {σ : Sg}  (h_a : a < 897000) (h_a_sl : a_sl < 897000) (h_a_tk : a_tk < 897000) (hσ : σ 1000000 = ρ) : T0 ρ (c_X10_comeNearer_130 a a_sl a_tk x1 x2 s0 σ) := by
  unfold c_X10_comeNearer_130
  repeat' first
    | assumption
    | apply T1_if
    | apply T0_if
    | exact T1_none
    | exact T0_none
    | refine T1_some ?_
    | refine T0_some ?_
    | refine mupk ?_ (by omega)
    | refine mrowk ?_ (by omega)
    | apply fr_f_X7_place
    | refine T1_bind1 ?_ (fun q hq => ?_)
    | refine T1_bind0 ?_ (fun q hq => ?_)
    | refine T0_bind1 ?_ (fun q hq => ?_)
    | refine T0_bind0 ?_ (fun q hq => ?_)
    | refine T1_bindv (fun q => ?_)
    | refine T0_bindv (fun q => ?_)
    | omega
theorem fr_c_X10_comeNearer_129 {ρ : Nat → Int32} {a : Nat} {a_sl : Nat} {a_tk : Nat} {x1 : Int32} {x2 : Int32} {σ : Sg}  (h_a : a < 896000) (h_a_sl : a_sl < 896000) (h_a_tk : a_tk < 896000) (hσ : σ 1000000 = ρ) : T0 ρ (c_X10_comeNearer_129 a a_sl a_tk x1 x2 σ) := by
  unfold c_X10_comeNearer_129
  repeat' first
    | assumption
    | apply T1_if
    | apply T0_if
    | exact T1_none
    | exact T0_none
    | refine T1_some ?_
    | refine T0_some ?_
    | refine mupk ?_ (by omega)
    | refine mrowk ?_ (by omega)
    | apply fr_c_X10_comeNearer_130
    | refine T1_bind1 ?_ (fun q hq => ?_)
    | refine T1_bind0 ?_ (fun q hq => ?_)
    | refine T0_bind1 ?_ (fun q hq => ?_)
    | refine T0_bind0 ?_ (fun q hq => ?_)
    | refine T1_bindv (fun q => ?_)
    | refine T0_bindv (fun q => ?_)
    | omega
theorem fr_f_X10_comeNearer {ρ : Nat → Int32} {a : Nat} {a_sl : Nat} {a_tk : Nat} {p0 : Int32} {σ : Sg}  (h_a : a < 894000) (h_a_sl : a_sl < 894000) (h_a_tk : a_tk < 894000) (hσ : σ 1000000 = ρ) : T0 ρ (f_X10_comeNearer a a_sl a_tk p0 σ) := by
  unfold f_X10_comeNearer
  repeat' first
    | assumption
    | apply T1_if
    | apply T0_if
    | exact T1_none
    | exact T0_none
    | refine T1_some ?_
    | refine T0_some ?_
    | refine mupk ?_ (by omega)
    | refine mrowk ?_ (by omega)
    | apply fr_f_X11_lay
    | apply fr_c_X10_comeNearer_129
    | apply fr_f_X10_gives
    | apply fr_c_X10_comeNearer_130
    | apply fr_f_X7_place
    | refine T1_bind1 ?_ (fun q hq => ?_)
    | refine T1_bind0 ?_ (fun q hq => ?_)
    | refine T0_bind1 ?_ (fun q hq => ?_)
    | refine T0_bind0 ?_ (fun q hq => ?_)
    | refine T1_bindv (fun q => ?_)
    | refine T0_bindv (fun q => ?_)
    | omega
theorem fr_c_X10_goBy_45 {ρ : Nat → Int32} {k2 : Int32 → Int32 → Sg → Option (Sg)} {a : Nat} {a_sl : Nat} {a_tk : Nat} (H_k2 : ∀ (y0 : Int32) (y1 : Int32) (y2 : Sg), y2 1000000 = ρ → T0 ρ (k2 y0 y1 y2)) (h_a : a < 893000) (h_a_sl : a_sl < 893000) (h_a_tk : a_tk < 893000) : ∀ (n : Nat) (x1 : Int32) (x2 : Int32) (x3 : Int32) (x4 : Int32) (σ : Sg), σ 1000000 = ρ → T0 ρ (c_X10_goBy_45 k2 a a_sl a_tk n x1 x2 x3 x4 σ) := by
  intro n
  induction n with
  | zero => intros; exact T0_none
  | succ n ih =>
    intro x1 x2 x3 x4 σ hσ
    rw [c_X10_goBy_45]
    repeat' first
      | assumption
      | apply T1_if
      | apply T0_if
      | exact T1_none
      | exact T0_none
      | refine T1_some ?_
      | refine T0_some ?_
      | refine mupk ?_ (by omega)
      | refine mrowk ?_ (by omega)
      | apply ih
      | apply H_k2
      | apply fr_c_X10_goBy_78
      | apply fr_c_X10_goBy_72
      | apply fr_f_X10_comeNearer
      | refine T1_bind1 ?_ (fun q hq => ?_)
      | refine T1_bind0 ?_ (fun q hq => ?_)
      | refine T0_bind1 ?_ (fun q hq => ?_)
      | refine T0_bind0 ?_ (fun q hq => ?_)
      | refine T1_bindv (fun q => ?_)
      | refine T0_bindv (fun q => ?_)
      | omega
theorem fr_c_X10_goBy_42 {ρ : Nat → Int32} {k2 : Int32 → Int32 → Sg → Option (Sg)} {a : Nat} {a_sl : Nat} {a_tk : Nat} {x1 : Int32} {x2 : Int32} {x3 : Int32} {σ : Sg} (H_k2 : ∀ (y0 : Int32) (y1 : Int32) (y2 : Sg), y2 1000000 = ρ → T0 ρ (k2 y0 y1 y2)) (h_a : a < 892000) (h_a_sl : a_sl < 892000) (h_a_tk : a_tk < 892000) (hσ : σ 1000000 = ρ) : T0 ρ (c_X10_goBy_42 k2 a a_sl a_tk x1 x2 x3 σ) := by
  unfold c_X10_goBy_42
  repeat' first
    | assumption
    | apply T1_if
    | apply T0_if
    | exact T1_none
    | exact T0_none
    | refine T1_some ?_
    | refine T0_some ?_
    | refine mupk ?_ (by omega)
    | refine mrowk ?_ (by omega)
    | apply H_k2
    | apply fr_c_X10_goBy_45
    | refine T1_bind1 ?_ (fun q hq => ?_)
    | refine T1_bind0 ?_ (fun q hq => ?_)
    | refine T0_bind1 ?_ (fun q hq => ?_)
    | refine T0_bind0 ?_ (fun q hq => ?_)
    | refine T1_bindv (fun q => ?_)
    | refine T0_bindv (fun q => ?_)
    | omega
theorem fr_f_X10_goDown {ρ : Nat → Int32} {a : Nat} {a_sl : Nat} {a_tk : Nat} {p0 : Int32} {σ : Sg}  (h_a : a < 893000) (h_a_sl : a_sl < 893000) (h_a_tk : a_tk < 893000) (hσ : σ 1000000 = ρ) : T0 ρ (f_X10_goDown a a_sl a_tk p0 σ) := by
  unfold f_X10_goDown
  repeat' first
    | assumption
    | apply T1_if
    | apply T0_if
    | exact T1_none
    | exact T0_none
    | refine T1_some ?_
    | refine T0_some ?_
    | refine mupk ?_ (by omega)
    | refine mrowk ?_ (by omega)
    | apply fr_f_X10_lasts
    | apply fr_f_X7_place
    | refine T1_bind1 ?_ (fun q hq => ?_)
    | refine T1_bind0 ?_ (fun q hq => ?_)
    | refine T0_bind1 ?_ (fun q hq => ?_)
    | refine T0_bind0 ?_ (fun q hq => ?_)
    | refine T1_bindv (fun q => ?_)
    | refine T0_bindv (fun q => ?_)
    | omega
theorem fr_c_X10_goBy_18 {ρ : Nat → Int32} {k2 : Int32 → Int32 → Sg → Option (Sg)} {a : Nat} {a_sl : Nat} {a_tk : Nat} (H_k2 : ∀ (y0 : Int32) (y1 : Int32) (y2 : Sg), y2 1000000 = ρ → T0 ρ (k2 y0 y1 y2)) (h_a : a < 891000) (h_a_sl : a_sl < 891000) (h_a_tk : a_tk < 891000) : ∀ (n : Nat) (x1 : Int32) (x2 : Int32) (x3 : Int32) (x4 : Int32) (σ : Sg), σ 1000000 = ρ → T0 ρ (c_X10_goBy_18 k2 a a_sl a_tk n x1 x2 x3 x4 σ) := by
  intro n
  induction n with
  | zero => intros; exact T0_none
  | succ n ih =>
    intro x1 x2 x3 x4 σ hσ
    rw [c_X10_goBy_18]
    repeat' first
      | assumption
      | apply T1_if
      | apply T0_if
      | exact T1_none
      | exact T0_none
      | refine T1_some ?_
      | refine T0_some ?_
      | refine mupk ?_ (by omega)
      | refine mrowk ?_ (by omega)
      | apply ih
      | apply H_k2
      | apply fr_c_X10_goBy_42
      | apply fr_f_X10_goDown
      | refine T1_bind1 ?_ (fun q hq => ?_)
      | refine T1_bind0 ?_ (fun q hq => ?_)
      | refine T0_bind1 ?_ (fun q hq => ?_)
      | refine T0_bind0 ?_ (fun q hq => ?_)
      | refine T1_bindv (fun q => ?_)
      | refine T0_bindv (fun q => ?_)
      | omega
theorem fr_c_X10_goBy_2 {ρ : Nat → Int32} {a : Nat} {a_sl : Nat} {a_tk : Nat}  (h_a : a < 890000) (h_a_sl : a_sl < 890000) (h_a_tk : a_tk < 890000) : ∀ (n : Nat) (x1 : Int32) (x2 : Int32) (σ : Sg), σ 1000000 = ρ → T0 ρ (c_X10_goBy_2 a a_sl a_tk n x1 x2 σ) := by
  intro n
  induction n with
  | zero => intros; exact T0_none
  | succ n ih =>
    intro x1 x2 σ hσ
    rw [c_X10_goBy_2]
    repeat' first
      | assumption
      | apply T1_if
      | apply T0_if
      | exact T1_none
      | exact T0_none
      | refine T1_some ?_
      | refine T0_some ?_
      | refine mupk ?_ (by omega)
      | refine mrowk ?_ (by omega)
      | apply ih
      | apply fr_c_X10_goBy_18
      | refine T1_bind1 ?_ (fun q hq => ?_)
      | refine T1_bind0 ?_ (fun q hq => ?_)
      | refine T0_bind1 ?_ (fun q hq => ?_)
      | refine T0_bind0 ?_ (fun q hq => ?_)
      | refine T1_bindv (fun q => ?_)
      | refine T0_bindv (fun q => ?_)
      | omega
theorem fr_f_X10_goBy {ρ : Nat → Int32} {a : Nat} {a_sl : Nat} {a_tk : Nat} {p0 : Int32} {σ : Sg}  (h_a : a < 889000) (h_a_sl : a_sl < 889000) (h_a_tk : a_tk < 889000) (hσ : σ 1000000 = ρ) : T0 ρ (f_X10_goBy a a_sl a_tk p0 σ) := by
  unfold f_X10_goBy
  repeat' first
    | assumption
    | apply T1_if
    | apply T0_if
    | exact T1_none
    | exact T0_none
    | refine T1_some ?_
    | refine T0_some ?_
    | refine mupk ?_ (by omega)
    | refine mrowk ?_ (by omega)
    | apply fr_c_X10_goBy_2
    | refine T1_bind1 ?_ (fun q hq => ?_)
    | refine T1_bind0 ?_ (fun q hq => ?_)
    | refine T0_bind1 ?_ (fun q hq => ?_)
    | refine T0_bind0 ?_ (fun q hq => ?_)
    | refine T1_bindv (fun q => ?_)
    | refine T0_bindv (fun q => ?_)
    | omega
theorem fr_f_X11_days {ρ : Nat → Int32} {p0 : Int32} {σ : Sg}   (hσ : σ 1000000 = ρ) : T1 ρ (f_X11_days p0 σ) := by
  unfold f_X11_days
  repeat' first
    | assumption
    | apply T1_if
    | apply T0_if
    | exact T1_none
    | exact T0_none
    | refine T1_some ?_
    | refine T0_some ?_
    | refine mupk ?_ (by omega)
    | refine mrowk ?_ (by omega)
    | apply fr_f_X11_error
    | apply fr_f_X10_goBy
    | refine T1_bind1 ?_ (fun q hq => ?_)
    | refine T1_bind0 ?_ (fun q hq => ?_)
    | refine T0_bind1 ?_ (fun q hq => ?_)
    | refine T0_bind0 ?_ (fun q hq => ?_)
    | refine T1_bindv (fun q => ?_)
    | refine T0_bindv (fun q => ?_)
    | omega
theorem fr_f_X1_draw {ρ : Nat → Int32} {a : Nat} {σ : Sg}  (h_a : a < 899000) (hσ : σ 1000000 = ρ) : T1 ρ (f_X1_draw a σ) := by
  unfold f_X1_draw
  repeat' first
    | assumption
    | apply T1_if
    | apply T0_if
    | exact T1_none
    | exact T0_none
    | refine T1_some ?_
    | refine T0_some ?_
    | refine mupk ?_ (by omega)
    | refine mrowk ?_ (by omega)
    | refine T1_bind1 ?_ (fun q hq => ?_)
    | refine T1_bind0 ?_ (fun q hq => ?_)
    | refine T0_bind1 ?_ (fun q hq => ?_)
    | refine T0_bind0 ?_ (fun q hq => ?_)
    | refine T1_bindv (fun q => ?_)
    | refine T0_bindv (fun q => ?_)
    | omega
theorem fr_f_X11_flood {ρ : Nat → Int32} {σ : Sg}   (hσ : σ 1000000 = ρ) : T0 ρ (f_X11_flood σ) := by
  unfold f_X11_flood
  repeat' first
    | assumption
    | apply T1_if
    | apply T0_if
    | exact T1_none
    | exact T0_none
    | refine T1_some ?_
    | refine T0_some ?_
    | refine mupk ?_ (by omega)
    | refine mrowk ?_ (by omega)
    | apply fr_f_X1_draw
    | apply fr_f_X9_lead
    | refine T1_bind1 ?_ (fun q hq => ?_)
    | refine T1_bind0 ?_ (fun q hq => ?_)
    | refine T0_bind1 ?_ (fun q hq => ?_)
    | refine T0_bind0 ?_ (fun q hq => ?_)
    | refine T1_bindv (fun q => ?_)
    | refine T0_bindv (fun q => ?_)
    | omega
theorem fr_c_X11_floods_52 {ρ : Nat → Int32}    : ∀ (n : Nat) (x1 : Int32) (x2 : Int32) (σ : Sg), σ 1000000 = ρ → T1 ρ (c_X11_floods_52  n x1 x2 σ) := by
  intro n
  induction n with
  | zero => intros; exact T1_none
  | succ n ih =>
    intro x1 x2 σ hσ
    rw [c_X11_floods_52]
    repeat' first
      | assumption
      | apply T1_if
      | apply T0_if
      | exact T1_none
      | exact T0_none
      | refine T1_some ?_
      | refine T0_some ?_
      | refine mupk ?_ (by omega)
      | refine mrowk ?_ (by omega)
      | apply ih
      | apply fr_f_X11_flood
      | apply fr_f_X10_goBy
      | refine T1_bind1 ?_ (fun q hq => ?_)
      | refine T1_bind0 ?_ (fun q hq => ?_)
      | refine T0_bind1 ?_ (fun q hq => ?_)
      | refine T0_bind0 ?_ (fun q hq => ?_)
      | refine T1_bindv (fun q => ?_)
      | refine T0_bindv (fun q => ?_)
      | omega
theorem fr_f_X11_floods {ρ : Nat → Int32} {p0 : Int32} {σ : Sg}   (hσ : σ 1000000 = ρ) : T1 ρ (f_X11_floods p0 σ) := by
  unfold f_X11_floods
  repeat' first
    | assumption
    | apply T1_if
    | apply T0_if
    | exact T1_none
    | exact T0_none
    | refine T1_some ?_
    | refine T0_some ?_
    | refine mupk ?_ (by omega)
    | refine mrowk ?_ (by omega)
    | apply fr_f_X11_error
    | apply fr_c_X11_floods_52
    | refine T1_bind1 ?_ (fun q hq => ?_)
    | refine T1_bind0 ?_ (fun q hq => ?_)
    | refine T0_bind1 ?_ (fun q hq => ?_)
    | refine T0_bind0 ?_ (fun q hq => ?_)
    | refine T1_bindv (fun q => ?_)
    | refine T0_bindv (fun q => ?_)
    | omega
theorem fr_f_X9_copyFrom {ρ : Nat → Int32} {a : Nat} {r0 : Nat} {σ : Sg}  (h_a : a < 898000) (h_r0 : r0 < 898000) (hσ : σ 1000000 = ρ) : T0 ρ (f_X9_copyFrom a r0 σ) := by
  unfold f_X9_copyFrom
  repeat' first
    | assumption
    | apply T1_if
    | apply T0_if
    | exact T1_none
    | exact T0_none
    | refine T1_some ?_
    | refine T0_some ?_
    | refine mupk ?_ (by omega)
    | refine mrowk ?_ (by omega)
    | apply fr_f_X11_copyRow
    | refine T1_bind1 ?_ (fun q hq => ?_)
    | refine T1_bind0 ?_ (fun q hq => ?_)
    | refine T0_bind1 ?_ (fun q hq => ?_)
    | refine T0_bind0 ?_ (fun q hq => ?_)
    | refine T1_bindv (fun q => ?_)
    | refine T0_bindv (fun q => ?_)
    | omega
theorem fr_f_X7_copyFrom {ρ : Nat → Int32} {a : Nat} {r0 : Nat} {σ : Sg}  (h_a : a < 898000) (h_r0 : r0 < 898000) (hσ : σ 1000000 = ρ) : T0 ρ (f_X7_copyFrom a r0 σ) := by
  unfold f_X7_copyFrom
  repeat' first
    | assumption
    | apply T1_if
    | apply T0_if
    | exact T1_none
    | exact T0_none
    | refine T1_some ?_
    | refine T0_some ?_
    | refine mupk ?_ (by omega)
    | refine mrowk ?_ (by omega)
    | apply fr_f_X11_copyRow
    | refine T1_bind1 ?_ (fun q hq => ?_)
    | refine T1_bind0 ?_ (fun q hq => ?_)
    | refine T0_bind1 ?_ (fun q hq => ?_)
    | refine T0_bind0 ?_ (fun q hq => ?_)
    | refine T1_bindv (fun q => ?_)
    | refine T0_bindv (fun q => ?_)
    | omega
theorem fr_f_X10_copyFrom {ρ : Nat → Int32} {a : Nat} {a_sl : Nat} {a_tk : Nat} {r0 : Nat} {r0_sl : Nat} {r0_tk : Nat} {σ : Sg}  (h_a : a < 897000) (h_a_sl : a_sl < 897000) (h_a_tk : a_tk < 897000) (h_r0 : r0 < 897000) (h_r0_sl : r0_sl < 897000) (h_r0_tk : r0_tk < 897000) (hσ : σ 1000000 = ρ) : T0 ρ (f_X10_copyFrom a a_sl a_tk r0 r0_sl r0_tk σ) := by
  unfold f_X10_copyFrom
  repeat' first
    | assumption
    | apply T1_if
    | apply T0_if
    | exact T1_none
    | exact T0_none
    | refine T1_some ?_
    | refine T0_some ?_
    | refine mupk ?_ (by omega)
    | refine mrowk ?_ (by omega)
    | apply fr_f_X9_copyFrom
    | apply fr_f_X7_copyFrom
    | refine T1_bind1 ?_ (fun q hq => ?_)
    | refine T1_bind0 ?_ (fun q hq => ?_)
    | refine T0_bind1 ?_ (fun q hq => ?_)
    | refine T0_bind0 ?_ (fun q hq => ?_)
    | refine T1_bindv (fun q => ?_)
    | refine T0_bindv (fun q => ?_)
    | omega
theorem fr_f_X11_then {ρ : Nat → Int32} {p0 : Int32} {p1 : Int32} {p2 : Int32} {σ : Sg}   (hσ : σ 1000000 = ρ) : T1 ρ (f_X11_then p0 p1 p2 σ) := by
  unfold f_X11_then
  repeat' first
    | assumption
    | apply T1_if
    | apply T0_if
    | exact T1_none
    | exact T0_none
    | refine T1_some ?_
    | refine T0_some ?_
    | refine mupk ?_ (by omega)
    | refine mrowk ?_ (by omega)
    | apply fr_f_X11_error
    | apply fr_f_X10_copyFrom
    | apply fr_f_X10_goBy
    | apply fr_f_X10_detail
    | refine T1_bind1 ?_ (fun q hq => ?_)
    | refine T1_bind0 ?_ (fun q hq => ?_)
    | refine T0_bind1 ?_ (fun q hq => ?_)
    | refine T0_bind0 ?_ (fun q hq => ?_)
    | refine T1_bindv (fun q => ?_)
    | refine T0_bindv (fun q => ?_)
    | omega
theorem fr_f_X11_in {ρ : Nat → Int32} {p0 : Int32} {p1 : Int32} {σ : Sg}   (hσ : σ 1000000 = ρ) : T1 ρ (f_X11_in p0 p1 σ) := by
  unfold f_X11_in
  repeat' first
    | assumption
    | apply T1_if
    | apply T0_if
    | exact T1_none
    | exact T0_none
    | refine T1_some ?_
    | refine T0_some ?_
    | refine mupk ?_ (by omega)
    | refine mrowk ?_ (by omega)
    | apply fr_f_X11_error
    | apply fr_f_X10_copyFrom
    | apply fr_f_X10_goBy
    | refine T1_bind1 ?_ (fun q hq => ?_)
    | refine T1_bind0 ?_ (fun q hq => ?_)
    | refine T0_bind1 ?_ (fun q hq => ?_)
    | refine T0_bind0 ?_ (fun q hq => ?_)
    | refine T1_bindv (fun q => ?_)
    | refine T0_bindv (fun q => ?_)
    | omega
theorem fr_c_X11_seen_59 {ρ : Nat → Int32}    : ∀ (n : Nat) (x1 : Int32) (x2 : Int32) (x3 : Int32) (x4 : Int32) (σ : Sg), σ 1000000 = ρ → T1 ρ (c_X11_seen_59  n x1 x2 x3 x4 σ) := by
  intro n
  induction n with
  | zero => intros; exact T1_none
  | succ n ih =>
    intro x1 x2 x3 x4 σ hσ
    rw [c_X11_seen_59]
    repeat' first
      | assumption
      | apply T1_if
      | apply T0_if
      | exact T1_none
      | exact T0_none
      | refine T1_some ?_
      | refine T0_some ?_
      | refine mupk ?_ (by omega)
      | refine mrowk ?_ (by omega)
      | apply ih
      | apply fr_f_X11_error
      | apply fr_f_X10_goBy
      | refine T1_bind1 ?_ (fun q hq => ?_)
      | refine T1_bind0 ?_ (fun q hq => ?_)
      | refine T0_bind1 ?_ (fun q hq => ?_)
      | refine T0_bind0 ?_ (fun q hq => ?_)
      | refine T1_bindv (fun q => ?_)
      | refine T0_bindv (fun q => ?_)
      | omega
theorem fr_f_X11_seen {ρ : Nat → Int32} {p0 : Int32} {p1 : Int32} {p2 : Int32} {σ : Sg}   (hσ : σ 1000000 = ρ) : T1 ρ (f_X11_seen p0 p1 p2 σ) := by
  unfold f_X11_seen
  repeat' first
    | assumption
    | apply T1_if
    | apply T0_if
    | exact T1_none
    | exact T0_none
    | refine T1_some ?_
    | refine T0_some ?_
    | refine mupk ?_ (by omega)
    | refine mrowk ?_ (by omega)
    | apply fr_f_X11_error
    | apply fr_f_X10_copyFrom
    | apply fr_c_X11_seen_59
    | refine T1_bind1 ?_ (fun q hq => ?_)
    | refine T1_bind0 ?_ (fun q hq => ?_)
    | refine T0_bind1 ?_ (fun q hq => ?_)
    | refine T0_bind0 ?_ (fun q hq => ?_)
    | refine T1_bindv (fun q => ?_)
    | refine T0_bindv (fun q => ?_)
    | omega
theorem fr_c_X10_leaveAlone_43 {ρ : Nat → Int32} {a : Nat} {a_sl : Nat} {a_tk : Nat}  (h_a : a < 898000) (h_a_sl : a_sl < 898000) (h_a_tk : a_tk < 898000) : ∀ (n : Nat) (x1 : Int32) (σ : Sg), σ 1000000 = ρ → T0 ρ (c_X10_leaveAlone_43 a a_sl a_tk n x1 σ) := by
  intro n
  induction n with
  | zero => intros; exact T0_none
  | succ n ih =>
    intro x1 σ hσ
    rw [c_X10_leaveAlone_43]
    repeat' first
      | assumption
      | apply T1_if
      | apply T0_if
      | exact T1_none
      | exact T0_none
      | refine T1_some ?_
      | refine T0_some ?_
      | refine mupk ?_ (by omega)
      | refine mrowk ?_ (by omega)
      | apply ih
      | apply fr_f_X11_lay
      | refine T1_bind1 ?_ (fun q hq => ?_)
      | refine T1_bind0 ?_ (fun q hq => ?_)
      | refine T0_bind1 ?_ (fun q hq => ?_)
      | refine T0_bind0 ?_ (fun q hq => ?_)
      | refine T1_bindv (fun q => ?_)
      | refine T0_bindv (fun q => ?_)
      | omega
theorem fr_c_X10_leaveAlone_30 {ρ : Nat → Int32} {a : Nat} {a_sl : Nat} {a_tk : Nat} {x1 : Int32} {x2 : Int32} {σ : Sg}  (h_a : a < 897000) (h_a_sl : a_sl < 897000) (h_a_tk : a_tk < 897000) (hσ : σ 1000000 = ρ) : T0 ρ (c_X10_leaveAlone_30 a a_sl a_tk x1 x2 σ) := by
  unfold c_X10_leaveAlone_30
  repeat' first
    | assumption
    | apply T1_if
    | apply T0_if
    | exact T1_none
    | exact T0_none
    | refine T1_some ?_
    | refine T0_some ?_
    | refine mupk ?_ (by omega)
    | refine mrowk ?_ (by omega)
    | apply fr_f_X7_place
    | apply fr_c_X10_leaveAlone_43
    | refine T1_bind1 ?_ (fun q hq => ?_)
    | refine T1_bind0 ?_ (fun q hq => ?_)
    | refine T0_bind1 ?_ (fun q hq => ?_)
    | refine T0_bind0 ?_ (fun q hq => ?_)
    | refine T1_bindv (fun q => ?_)
    | refine T0_bindv (fun q => ?_)
    | omega
theorem fr_c_X10_leaveAlone_2 {ρ : Nat → Int32} {a : Nat} {a_sl : Nat} {a_tk : Nat}  (h_a : a < 896000) (h_a_sl : a_sl < 896000) (h_a_tk : a_tk < 896000) : ∀ (n : Nat) (x1 : Int32) (x2 : Int32) (x3 : Int32) (σ : Sg), σ 1000000 = ρ → T0 ρ (c_X10_leaveAlone_2 a a_sl a_tk n x1 x2 x3 σ) := by
  intro n
  induction n with
  | zero => intros; exact T0_none
  | succ n ih =>
    intro x1 x2 x3 σ hσ
    rw [c_X10_leaveAlone_2]
    repeat' first
      | assumption
      | apply T1_if
      | apply T0_if
      | exact T1_none
      | exact T0_none
      | refine T1_some ?_
      | refine T0_some ?_
      | refine mupk ?_ (by omega)
      | refine mrowk ?_ (by omega)
      | apply ih
      | apply fr_c_X10_leaveAlone_30
      | apply fr_f_X7_place
      | refine T1_bind1 ?_ (fun q hq => ?_)
      | refine T1_bind0 ?_ (fun q hq => ?_)
      | refine T0_bind1 ?_ (fun q hq => ?_)
      | refine T0_bind0 ?_ (fun q hq => ?_)
      | refine T1_bindv (fun q => ?_)
      | refine T0_bindv (fun q => ?_)
      | omega
theorem fr_f_X10_leaveAlone {ρ : Nat → Int32} {a : Nat} {a_sl : Nat} {a_tk : Nat} {p0 : Int32} {p1 : Int32} {σ : Sg}  (h_a : a < 895000) (h_a_sl : a_sl < 895000) (h_a_tk : a_tk < 895000) (hσ : σ 1000000 = ρ) : T0 ρ (f_X10_leaveAlone a a_sl a_tk p0 p1 σ) := by
  unfold f_X10_leaveAlone
  repeat' first
    | assumption
    | apply T1_if
    | apply T0_if
    | exact T1_none
    | exact T0_none
    | refine T1_some ?_
    | refine T0_some ?_
    | refine mupk ?_ (by omega)
    | refine mrowk ?_ (by omega)
    | apply fr_c_X10_leaveAlone_2
    | refine T1_bind1 ?_ (fun q hq => ?_)
    | refine T1_bind0 ?_ (fun q hq => ?_)
    | refine T0_bind1 ?_ (fun q hq => ?_)
    | refine T0_bind0 ?_ (fun q hq => ?_)
    | refine T1_bindv (fun q => ?_)
    | refine T0_bindv (fun q => ?_)
    | omega
theorem fr_c_X11_round_125 {ρ : Nat → Int32} {k59 : Int32 → Int32 → Int32 → Int32 → Sg → Option (Int32 × Sg)} {x1 : Int32} {x2 : Int32} {x3 : Int32} {x4 : Int32} {σ : Sg} (H_k59 : ∀ (y0 : Int32) (y1 : Int32) (y2 : Int32) (y3 : Int32) (y4 : Sg), y4 1000000 = ρ → T1 ρ (k59 y0 y1 y2 y3 y4))  (hσ : σ 1000000 = ρ) : T1 ρ (c_X11_round_125 k59 x1 x2 x3 x4 σ) := by
  unfold c_X11_round_125
  repeat' first
    | assumption
    | apply T1_if
    | apply T0_if
    | exact T1_none
    | exact T0_none
    | refine T1_some ?_
    | refine T0_some ?_
    | refine mupk ?_ (by omega)
    | refine mrowk ?_ (by omega)
    | apply H_k59
    | refine T1_bind1 ?_ (fun q hq => ?_)
    | refine T1_bind0 ?_ (fun q hq => ?_)
    | refine T0_bind1 ?_ (fun q hq => ?_)
    | refine T0_bind0 ?_ (fun q hq => ?_)
    | refine T1_bindv (fun q => ?_)
    | refine T0_bindv (fun q => ?_)
    | omega
theorem fr_c_X11_round_102 {ρ : Nat → Int32} {k59 : Int32 → Int32 → Int32 → Int32 → Sg → Option (Int32 × Sg)} {x1 : Int32} {x2 : Int32} {x4 : Int32} {s0 : Int32} {σ : Sg} (H_k59 : ∀ (y0 : Int32) (y1 : Int32) (y2 : Int32) (y3 : Int32) (y4 : Sg), y4 1000000 = ρ → T1 ρ (k59 y0 y1 y2 y3 y4))  (hσ : σ 1000000 = ρ) : T1 ρ (c_X11_round_102 k59 x1 x2 x4 s0 σ) := by
  unfold c_X11_round_102
  repeat' first
    | assumption
    | apply T1_if
    | apply T0_if
    | exact T1_none
    | exact T0_none
    | refine T1_some ?_
    | refine T0_some ?_
    | refine mupk ?_ (by omega)
    | refine mrowk ?_ (by omega)
    | apply H_k59
    | apply fr_c_X11_round_125
    | refine T1_bind1 ?_ (fun q hq => ?_)
    | refine T1_bind0 ?_ (fun q hq => ?_)
    | refine T0_bind1 ?_ (fun q hq => ?_)
    | refine T0_bind0 ?_ (fun q hq => ?_)
    | refine T1_bindv (fun q => ?_)
    | refine T0_bindv (fun q => ?_)
    | omega
theorem fr_c_X11_round_97 {ρ : Nat → Int32} {k59 : Int32 → Int32 → Int32 → Int32 → Sg → Option (Int32 × Sg)} {x1 : Int32} {x2 : Int32} {x4 : Int32} {σ : Sg} (H_k59 : ∀ (y0 : Int32) (y1 : Int32) (y2 : Int32) (y3 : Int32) (y4 : Sg), y4 1000000 = ρ → T1 ρ (k59 y0 y1 y2 y3 y4))  (hσ : σ 1000000 = ρ) : T1 ρ (c_X11_round_97 k59 x1 x2 x4 σ) := by
  unfold c_X11_round_97
  repeat' first
    | assumption
    | apply T1_if
    | apply T0_if
    | exact T1_none
    | exact T0_none
    | refine T1_some ?_
    | refine T0_some ?_
    | refine mupk ?_ (by omega)
    | refine mrowk ?_ (by omega)
    | apply H_k59
    | apply fr_c_X11_round_102
    | refine T1_bind1 ?_ (fun q hq => ?_)
    | refine T1_bind0 ?_ (fun q hq => ?_)
    | refine T0_bind1 ?_ (fun q hq => ?_)
    | refine T0_bind0 ?_ (fun q hq => ?_)
    | refine T1_bindv (fun q => ?_)
    | refine T0_bindv (fun q => ?_)
    | omega
theorem fr_c_X11_round_59 {ρ : Nat → Int32}    : ∀ (n : Nat) (x1 : Int32) (x2 : Int32) (x3 : Int32) (x4 : Int32) (σ : Sg), σ 1000000 = ρ → T1 ρ (c_X11_round_59  n x1 x2 x3 x4 σ) := by
  intro n
  induction n with
  | zero => intros; exact T1_none
  | succ n ih =>
    intro x1 x2 x3 x4 σ hσ
    rw [c_X11_round_59]
    repeat' first
      | assumption
      | apply T1_if
      | apply T0_if
      | exact T1_none
      | exact T0_none
      | refine T1_some ?_
      | refine T0_some ?_
      | refine mupk ?_ (by omega)
      | refine mrowk ?_ (by omega)
      | apply ih
      | apply fr_f_X11_error
      | apply fr_f_X10_goBy
      | apply fr_c_X11_round_97
      | apply fr_c_X11_round_102
      | refine T1_bind1 ?_ (fun q hq => ?_)
      | refine T1_bind0 ?_ (fun q hq => ?_)
      | refine T0_bind1 ?_ (fun q hq => ?_)
      | refine T0_bind0 ?_ (fun q hq => ?_)
      | refine T1_bindv (fun q => ?_)
      | refine T0_bindv (fun q => ?_)
      | omega
theorem fr_f_X11_round {ρ : Nat → Int32} {p0 : Int32} {p1 : Int32} {σ : Sg}   (hσ : σ 1000000 = ρ) : T1 ρ (f_X11_round p0 p1 σ) := by
  unfold f_X11_round
  repeat' first
    | assumption
    | apply T1_if
    | apply T0_if
    | exact T1_none
    | exact T0_none
    | refine T1_some ?_
    | refine T0_some ?_
    | refine mupk ?_ (by omega)
    | refine mrowk ?_ (by omega)
    | apply fr_f_X11_error
    | apply fr_f_X10_copyFrom
    | apply fr_f_X10_leaveAlone
    | apply fr_c_X11_round_59
    | refine T1_bind1 ?_ (fun q hq => ?_)
    | refine T1_bind0 ?_ (fun q hq => ?_)
    | refine T0_bind1 ?_ (fun q hq => ?_)
    | refine T0_bind0 ?_ (fun q hq => ?_)
    | refine T1_bindv (fun q => ?_)
    | refine T0_bindv (fun q => ?_)
    | omega
theorem fr_f_X11_soon {ρ : Nat → Int32} {p0 : Int32} {p1 : Int32} {p2 : Int32} {σ : Sg}   (hσ : σ 1000000 = ρ) : T1 ρ (f_X11_soon p0 p1 p2 σ) := by
  unfold f_X11_soon
  repeat' first
    | assumption
    | apply T1_if
    | apply T0_if
    | exact T1_none
    | exact T0_none
    | refine T1_some ?_
    | refine T0_some ?_
    | refine mupk ?_ (by omega)
    | refine mrowk ?_ (by omega)
    | apply fr_f_X11_error
    | refine T1_bind1 ?_ (fun q hq => ?_)
    | refine T1_bind0 ?_ (fun q hq => ?_)
    | refine T0_bind1 ?_ (fun q hq => ?_)
    | refine T0_bind0 ?_ (fun q hq => ?_)
    | refine T1_bindv (fun q => ?_)
    | refine T0_bindv (fun q => ?_)
    | omega
theorem fr_f_X11_cheap {ρ : Nat → Int32} {p0 : Int32} {p1 : Int32} {p2 : Int32} {σ : Sg}   (hσ : σ 1000000 = ρ) : T1 ρ (f_X11_cheap p0 p1 p2 σ) := by
  unfold f_X11_cheap
  repeat' first
    | assumption
    | apply T1_if
    | apply T0_if
    | exact T1_none
    | exact T0_none
    | refine T1_some ?_
    | refine T0_some ?_
    | refine mupk ?_ (by omega)
    | refine mrowk ?_ (by omega)
    | apply fr_f_X11_error
    | refine T1_bind1 ?_ (fun q hq => ?_)
    | refine T1_bind0 ?_ (fun q hq => ?_)
    | refine T0_bind1 ?_ (fun q hq => ?_)
    | refine T0_bind0 ?_ (fun q hq => ?_)
    | refine T1_bindv (fun q => ?_)
    | refine T0_bindv (fun q => ?_)
    | omega
theorem fr_f_X11_rings {ρ : Nat → Int32} {p0 : Int32} {σ : Sg}   (hσ : σ 1000000 = ρ) : T1 ρ (f_X11_rings p0 σ) := by
  unfold f_X11_rings
  repeat' first
    | assumption
    | apply T1_if
    | apply T0_if
    | exact T1_none
    | exact T0_none
    | refine T1_some ?_
    | refine T0_some ?_
    | refine mupk ?_ (by omega)
    | refine mrowk ?_ (by omega)
    | apply fr_f_X11_error
    | refine T1_bind1 ?_ (fun q hq => ?_)
    | refine T1_bind0 ?_ (fun q hq => ?_)
    | refine T0_bind1 ?_ (fun q hq => ?_)
    | refine T0_bind0 ?_ (fun q hq => ?_)
    | refine T1_bindv (fun q => ?_)
    | refine T0_bindv (fun q => ?_)
    | omega
theorem fr_f_X11_meet {ρ : Nat → Int32} {p0 : Int32} {p1 : Int32} {σ : Sg}   (hσ : σ 1000000 = ρ) : T1 ρ (f_X11_meet p0 p1 σ) := by
  unfold f_X11_meet
  repeat' first
    | assumption
    | apply T1_if
    | apply T0_if
    | exact T1_none
    | exact T0_none
    | refine T1_some ?_
    | refine T0_some ?_
    | refine mupk ?_ (by omega)
    | refine mrowk ?_ (by omega)
    | apply fr_f_X11_error
    | refine T1_bind1 ?_ (fun q hq => ?_)
    | refine T1_bind0 ?_ (fun q hq => ?_)
    | refine T0_bind1 ?_ (fun q hq => ?_)
    | refine T0_bind0 ?_ (fun q hq => ?_)
    | refine T1_bindv (fun q => ?_)
    | refine T0_bindv (fun q => ?_)
    | omega
theorem fr_f_X11_tenth {ρ : Nat → Int32} {σ : Sg}   (hσ : σ 1000000 = ρ) : T1 ρ (f_X11_tenth σ) := by
  unfold f_X11_tenth
  repeat' first
    | assumption
    | apply T1_if
    | apply T0_if
    | exact T1_none
    | exact T0_none
    | refine T1_some ?_
    | refine T0_some ?_
    | refine mupk ?_ (by omega)
    | refine mrowk ?_ (by omega)
    | apply fr_f_X11_error
    | refine T1_bind1 ?_ (fun q hq => ?_)
    | refine T1_bind0 ?_ (fun q hq => ?_)
    | refine T0_bind1 ?_ (fun q hq => ?_)
    | refine T0_bind0 ?_ (fun q hq => ?_)
    | refine T1_bindv (fun q => ?_)
    | refine T0_bindv (fun q => ?_)
    | omega
theorem fr_f_X2_append {ρ : Nat → Int32} {a : Nat} {p0 : Int32} {p1 : Int32} {p2 : Int32} {σ : Sg}  (h_a : a < 898000) (hσ : σ 1000000 = ρ) : T1 ρ (f_X2_append a p0 p1 p2 σ) := by
  unfold f_X2_append
  repeat' first
    | assumption
    | apply T1_if
    | apply T0_if
    | exact T1_none
    | exact T0_none
    | refine T1_some ?_
    | refine T0_some ?_
    | refine mupk ?_ (by omega)
    | refine mrowk ?_ (by omega)
    | apply fr_f_X11_lay
    | refine T1_bind1 ?_ (fun q hq => ?_)
    | refine T1_bind0 ?_ (fun q hq => ?_)
    | refine T0_bind1 ?_ (fun q hq => ?_)
    | refine T0_bind0 ?_ (fun q hq => ?_)
    | refine T1_bindv (fun q => ?_)
    | refine T0_bindv (fun q => ?_)
    | omega
theorem fr_f_X11_find {ρ : Nat → Int32} {p0 : Int32} {p1 : Int32} {p2 : Int32} {σ : Sg}   (hσ : σ 1000000 = ρ) : T1 ρ (f_X11_find p0 p1 p2 σ) := by
  unfold f_X11_find
  repeat' first
    | assumption
    | apply T1_if
    | apply T0_if
    | exact T1_none
    | exact T0_none
    | refine T1_some ?_
    | refine T0_some ?_
    | refine mupk ?_ (by omega)
    | refine mrowk ?_ (by omega)
    | apply fr_f_X11_error
    | apply fr_f_X2_append
    | refine T1_bind1 ?_ (fun q hq => ?_)
    | refine T1_bind0 ?_ (fun q hq => ?_)
    | refine T0_bind1 ?_ (fun q hq => ?_)
    | refine T0_bind0 ?_ (fun q hq => ?_)
    | refine T1_bindv (fun q => ?_)
    | refine T0_bindv (fun q => ?_)
    | omega
theorem fr_f_X11_forget {ρ : Nat → Int32} {σ : Sg}   (hσ : σ 1000000 = ρ) : T1 ρ (f_X11_forget σ) := by
  unfold f_X11_forget
  repeat' first
    | assumption
    | apply T1_if
    | apply T0_if
    | exact T1_none
    | exact T0_none
    | refine T1_some ?_
    | refine T0_some ?_
    | refine mupk ?_ (by omega)
    | refine mrowk ?_ (by omega)
    | refine T1_bind1 ?_ (fun q hq => ?_)
    | refine T1_bind0 ?_ (fun q hq => ?_)
    | refine T0_bind1 ?_ (fun q hq => ?_)
    | refine T0_bind0 ?_ (fun q hq => ?_)
    | refine T1_bindv (fun q => ?_)
    | refine T0_bindv (fun q => ?_)
    | omega
theorem fr_f_X11_agrees {ρ : Nat → Int32} {p0 : Int32} {σ : Sg}   (hσ : σ 1000000 = ρ) : T1 ρ (f_X11_agrees p0 σ) := by
  unfold f_X11_agrees
  repeat' first
    | assumption
    | apply T1_if
    | apply T0_if
    | exact T1_none
    | exact T0_none
    | refine T1_some ?_
    | refine T0_some ?_
    | refine mupk ?_ (by omega)
    | refine mrowk ?_ (by omega)
    | apply fr_f_X11_error
    | refine T1_bind1 ?_ (fun q hq => ?_)
    | refine T1_bind0 ?_ (fun q hq => ?_)
    | refine T0_bind1 ?_ (fun q hq => ?_)
    | refine T0_bind0 ?_ (fun q hq => ?_)
    | refine T1_bindv (fun q => ?_)
    | refine T0_bindv (fun q => ?_)
    | omega
theorem fr_c_X0_search_111 {ρ : Nat → Int32} {k53 : Int32 → Int32 → Int32 → Int32 → Sg → Option (Sg)} {r0 : Nat} {r1 : Nat} {x3 : Int32} {x4 : Int32} {x5 : Int32} {x6 : Int32} {σ : Sg} (H_k53 : ∀ (y0 : Int32) (y1 : Int32) (y2 : Int32) (y3 : Int32) (y4 : Sg), y4 1000000 = ρ → T0 ρ (k53 y0 y1 y2 y3 y4)) (h_r0 : r0 < 899000) (h_r1 : r1 < 899000) (hσ : σ 1000000 = ρ) : T0 ρ (c_X0_search_111 k53 r0 r1 x3 x4 x5 x6 σ) := by
  unfold c_X0_search_111
  repeat' first
    | assumption
    | apply T1_if
    | apply T0_if
    | exact T1_none
    | exact T0_none
    | refine T1_some ?_
    | refine T0_some ?_
    | refine mupk ?_ (by omega)
    | refine mrowk ?_ (by omega)
    | apply H_k53
    | refine T1_bind1 ?_ (fun q hq => ?_)
    | refine T1_bind0 ?_ (fun q hq => ?_)
    | refine T0_bind1 ?_ (fun q hq => ?_)
    | refine T0_bind0 ?_ (fun q hq => ?_)
    | refine T1_bindv (fun q => ?_)
    | refine T0_bindv (fun q => ?_)
    | omega
theorem fr_c_X0_search_105 {ρ : Nat → Int32} {k53 : Int32 → Int32 → Int32 → Int32 → Sg → Option (Sg)} {k65 : Int32 → Int32 → Int32 → Int32 → Int32 → Sg → Option (Sg)} {r0 : Nat} {r1 : Nat} {x3 : Int32} {x4 : Int32} {x5 : Int32} {x6 : Int32} {x7 : Int32} {σ : Sg} (H_k53 : ∀ (y0 : Int32) (y1 : Int32) (y2 : Int32) (y3 : Int32) (y4 : Sg), y4 1000000 = ρ → T0 ρ (k53 y0 y1 y2 y3 y4)) (H_k65 : ∀ (y0 : Int32) (y1 : Int32) (y2 : Int32) (y3 : Int32) (y4 : Int32) (y5 : Sg), y5 1000000 = ρ → T0 ρ (k65 y0 y1 y2 y3 y4 y5)) (h_r0 : r0 < 899000) (h_r1 : r1 < 899000) (hσ : σ 1000000 = ρ) : T0 ρ (c_X0_search_105 k53 k65 r0 r1 x3 x4 x5 x6 x7 σ) := by
  unfold c_X0_search_105
  repeat' first
    | assumption
    | apply T1_if
    | apply T0_if
    | exact T1_none
    | exact T0_none
    | refine T1_some ?_
    | refine T0_some ?_
    | refine mupk ?_ (by omega)
    | refine mrowk ?_ (by omega)
    | apply H_k53
    | apply H_k65
    | refine T1_bind1 ?_ (fun q hq => ?_)
    | refine T1_bind0 ?_ (fun q hq => ?_)
    | refine T0_bind1 ?_ (fun q hq => ?_)
    | refine T0_bind0 ?_ (fun q hq => ?_)
    | refine T1_bindv (fun q => ?_)
    | refine T0_bindv (fun q => ?_)
    | omega
theorem fr_c_X0_note_78 {ρ : Nat → Int32} {k42 : Int32 → Int32 → Sg → Option (Sg)} {x3 : Int32} {x4 : Int32} {s0 : Int32} {σ : Sg} (H_k42 : ∀ (y0 : Int32) (y1 : Int32) (y2 : Sg), y2 1000000 = ρ → T0 ρ (k42 y0 y1 y2))  (hσ : σ 1000000 = ρ) : T0 ρ (c_X0_note_78 k42 x3 x4 s0 σ) := by
  unfold c_X0_note_78
  repeat' first
    | assumption
    | apply T1_if
    | apply T0_if
    | exact T1_none
    | exact T0_none
    | refine T1_some ?_
    | refine T0_some ?_
    | refine mupk ?_ (by omega)
    | refine mrowk ?_ (by omega)
    | apply H_k42
    | apply fr_f_X11_lay
    | refine T1_bind1 ?_ (fun q hq => ?_)
    | refine T1_bind0 ?_ (fun q hq => ?_)
    | refine T0_bind1 ?_ (fun q hq => ?_)
    | refine T0_bind0 ?_ (fun q hq => ?_)
    | refine T1_bindv (fun q => ?_)
    | refine T0_bindv (fun q => ?_)
    | omega
theorem fr_c_X0_note_42 {ρ : Nat → Int32}    : ∀ (n : Nat) (x1 : Int32) (x2 : Int32) (σ : Sg), σ 1000000 = ρ → T0 ρ (c_X0_note_42  n x1 x2 σ) := by
  intro n
  induction n with
  | zero => intros; exact T0_none
  | succ n ih =>
    intro x1 x2 σ hσ
    rw [c_X0_note_42]
    repeat' first
      | assumption
      | apply T1_if
      | apply T0_if
      | exact T1_none
      | exact T0_none
      | refine T1_some ?_
      | refine T0_some ?_
      | refine mupk ?_ (by omega)
      | refine mrowk ?_ (by omega)
      | apply ih
      | apply fr_c_X0_note_78
      | refine T1_bind1 ?_ (fun q hq => ?_)
      | refine T1_bind0 ?_ (fun q hq => ?_)
      | refine T0_bind1 ?_ (fun q hq => ?_)
      | refine T0_bind0 ?_ (fun q hq => ?_)
      | refine T1_bindv (fun q => ?_)
      | refine T0_bindv (fun q => ?_)
      | omega
theorem fr_c_X0_note_17 {ρ : Nat → Int32} {x1 : Int32} {x3 : Int32} {σ : Sg}   (hσ : σ 1000000 = ρ) : T0 ρ (c_X0_note_17 x1 x3 σ) := by
  unfold c_X0_note_17
  repeat' first
    | assumption
    | apply T1_if
    | apply T0_if
    | exact T1_none
    | exact T0_none
    | refine T1_some ?_
    | refine T0_some ?_
    | refine mupk ?_ (by omega)
    | refine mrowk ?_ (by omega)
    | apply fr_c_X0_note_42
    | refine T1_bind1 ?_ (fun q hq => ?_)
    | refine T1_bind0 ?_ (fun q hq => ?_)
    | refine T0_bind1 ?_ (fun q hq => ?_)
    | refine T0_bind0 ?_ (fun q hq => ?_)
    | refine T1_bindv (fun q => ?_)
    | refine T0_bindv (fun q => ?_)
    | omega
theorem fr_f_X0_note {ρ : Nat → Int32} {p0 : Int32} {p1 : Int32} {p2 : Int32} {σ : Sg}   (hσ : σ 1000000 = ρ) : T0 ρ (f_X0_note p0 p1 p2 σ) := by
  unfold f_X0_note
  repeat' first
    | assumption
    | apply T1_if
    | apply T0_if
    | exact T1_none
    | exact T0_none
    | refine T1_some ?_
    | refine T0_some ?_
    | refine mupk ?_ (by omega)
    | refine mrowk ?_ (by omega)
    | apply fr_c_X0_note_17
    | refine T1_bind1 ?_ (fun q hq => ?_)
    | refine T1_bind0 ?_ (fun q hq => ?_)
    | refine T0_bind1 ?_ (fun q hq => ?_)
    | refine T0_bind0 ?_ (fun q hq => ?_)
    | refine T1_bindv (fun q => ?_)
    | refine T0_bindv (fun q => ?_)
    | omega
theorem fr_c_X0_search_65 {ρ : Nat → Int32} {k53 : Int32 → Int32 → Int32 → Int32 → Sg → Option (Sg)} {r0 : Nat} {r1 : Nat} (H_k53 : ∀ (y0 : Int32) (y1 : Int32) (y2 : Int32) (y3 : Int32) (y4 : Sg), y4 1000000 = ρ → T0 ρ (k53 y0 y1 y2 y3 y4)) (h_r0 : r0 < 894000) (h_r1 : r1 < 894000) : ∀ (n : Nat) (x1 : Int32) (x2 : Int32) (x3 : Int32) (x4 : Int32) (x5 : Int32) (σ : Sg), σ 1000000 = ρ → T0 ρ (c_X0_search_65 k53 r0 r1 n x1 x2 x3 x4 x5 σ) := by
  intro n
  induction n with
  | zero => intros; exact T0_none
  | succ n ih =>
    intro x1 x2 x3 x4 x5 σ hσ
    rw [c_X0_search_65]
    repeat' first
      | assumption
      | apply T1_if
      | apply T0_if
      | exact T1_none
      | exact T0_none
      | refine T1_some ?_
      | refine T0_some ?_
      | refine mupk ?_ (by omega)
      | refine mrowk ?_ (by omega)
      | apply ih
      | apply H_k53
      | apply fr_c_X0_search_111
      | apply fr_f_X9_lead
      | apply fr_c_X0_search_105
      | apply fr_f_X0_note
      | refine T1_bind1 ?_ (fun q hq => ?_)
      | refine T1_bind0 ?_ (fun q hq => ?_)
      | refine T0_bind1 ?_ (fun q hq => ?_)
      | refine T0_bind0 ?_ (fun q hq => ?_)
      | refine T1_bindv (fun q => ?_)
      | refine T0_bindv (fun q => ?_)
      | omega
theorem fr_c_X0_search_53 {ρ : Nat → Int32} {r0 : Nat} {r1 : Nat}  (h_r0 : r0 < 893000) (h_r1 : r1 < 893000) : ∀ (n : Nat) (x1 : Int32) (x2 : Int32) (x3 : Int32) (x4 : Int32) (σ : Sg), σ 1000000 = ρ → T0 ρ (c_X0_search_53 r0 r1 n x1 x2 x3 x4 σ) := by
  intro n
  induction n with
  | zero => intros; exact T0_none
  | succ n ih =>
    intro x1 x2 x3 x4 σ hσ
    rw [c_X0_search_53]
    repeat' first
      | assumption
      | apply T1_if
      | apply T0_if
      | exact T1_none
      | exact T0_none
      | refine T1_some ?_
      | refine T0_some ?_
      | refine mupk ?_ (by omega)
      | refine mrowk ?_ (by omega)
      | apply ih
      | apply fr_c_X0_search_65
      | refine T1_bind1 ?_ (fun q hq => ?_)
      | refine T1_bind0 ?_ (fun q hq => ?_)
      | refine T0_bind1 ?_ (fun q hq => ?_)
      | refine T0_bind0 ?_ (fun q hq => ?_)
      | refine T1_bindv (fun q => ?_)
      | refine T0_bindv (fun q => ?_)
      | omega
theorem fr_c_X0_search_42 {ρ : Nat → Int32} {r0 : Nat} {r1 : Nat} {x3 : Int32} {x4 : Int32} {x5 : Int32} {σ : Sg}  (h_r0 : r0 < 892000) (h_r1 : r1 < 892000) (hσ : σ 1000000 = ρ) : T0 ρ (c_X0_search_42 r0 r1 x3 x4 x5 σ) := by
  unfold c_X0_search_42
  repeat' first
    | assumption
    | apply T1_if
    | apply T0_if
    | exact T1_none
    | exact T0_none
    | refine T1_some ?_
    | refine T0_some ?_
    | refine mupk ?_ (by omega)
    | refine mrowk ?_ (by omega)
    | apply fr_f_X9_copyFrom
    | apply fr_c_X0_search_53
    | refine T1_bind1 ?_ (fun q hq => ?_)
    | refine T1_bind0 ?_ (fun q hq => ?_)
    | refine T0_bind1 ?_ (fun q hq => ?_)
    | refine T0_bind0 ?_ (fun q hq => ?_)
    | refine T1_bindv (fun q => ?_)
    | refine T0_bindv (fun q => ?_)
    | omega
theorem fr_c_X0_search_18 {ρ : Nat → Int32} {r0 : Nat} {r1 : Nat}  (h_r0 : r0 < 891000) (h_r1 : r1 < 891000) : ∀ (n : Nat) (x1 : Int32) (x2 : Int32) (x3 : Int32) (x4 : Int32) (σ : Sg), σ 1000000 = ρ → T0 ρ (c_X0_search_18 r0 r1 n x1 x2 x3 x4 σ) := by
  intro n
  induction n with
  | zero => intros; exact T0_none
  | succ n ih =>
    intro x1 x2 x3 x4 σ hσ
    rw [c_X0_search_18]
    repeat' first
      | assumption
      | apply T1_if
      | apply T0_if
      | exact T1_none
      | exact T0_none
      | refine T1_some ?_
      | refine T0_some ?_
      | refine mupk ?_ (by omega)
      | refine mrowk ?_ (by omega)
      | apply ih
      | apply fr_c_X0_search_42
      | refine T1_bind1 ?_ (fun q hq => ?_)
      | refine T1_bind0 ?_ (fun q hq => ?_)
      | refine T0_bind1 ?_ (fun q hq => ?_)
      | refine T0_bind0 ?_ (fun q hq => ?_)
      | refine T1_bindv (fun q => ?_)
      | refine T0_bindv (fun q => ?_)
      | omega
theorem fr_f_X0_search {ρ : Nat → Int32} {r0 : Nat} {r1 : Nat} {p2 : Int32} {p3 : Int32} {p4 : Int32} {σ : Sg}  (h_r0 : r0 < 890000) (h_r1 : r1 < 890000) (hσ : σ 1000000 = ρ) : T0 ρ (f_X0_search r0 r1 p2 p3 p4 σ) := by
  unfold f_X0_search
  repeat' first
    | assumption
    | apply T1_if
    | apply T0_if
    | exact T1_none
    | exact T0_none
    | refine T1_some ?_
    | refine T0_some ?_
    | refine mupk ?_ (by omega)
    | refine mrowk ?_ (by omega)
    | apply fr_c_X0_search_18
    | refine T1_bind1 ?_ (fun q hq => ?_)
    | refine T1_bind0 ?_ (fun q hq => ?_)
    | refine T0_bind1 ?_ (fun q hq => ?_)
    | refine T0_bind0 ?_ (fun q hq => ?_)
    | refine T1_bindv (fun q => ?_)
    | refine T0_bindv (fun q => ?_)
    | omega
theorem fr_f_X11_belows {ρ : Nat → Int32} {p0 : Int32} {p1 : Int32} {p2 : Int32} {σ : Sg}   (hσ : σ 1000000 = ρ) : T1 ρ (f_X11_belows p0 p1 p2 σ) := by
  unfold f_X11_belows
  repeat' first
    | assumption
    | apply T1_if
    | apply T0_if
    | exact T1_none
    | exact T0_none
    | refine T1_some ?_
    | refine T0_some ?_
    | refine mupk ?_ (by omega)
    | refine mrowk ?_ (by omega)
    | apply fr_f_X11_error
    | apply fr_f_X0_search
    | refine T1_bind1 ?_ (fun q hq => ?_)
    | refine T1_bind0 ?_ (fun q hq => ?_)
    | refine T0_bind1 ?_ (fun q hq => ?_)
    | refine T0_bind0 ?_ (fun q hq => ?_)
    | refine T1_bindv (fun q => ?_)
    | refine T0_bindv (fun q => ?_)
    | omega
theorem fr_f_X11_cork {ρ : Nat → Int32} {p0 : Int32} {p1 : Int32} {p2 : Int32} {p3 : Int32} {σ : Sg}   (hσ : σ 1000000 = ρ) : T1 ρ (f_X11_cork p0 p1 p2 p3 σ) := by
  unfold f_X11_cork
  repeat' first
    | assumption
    | apply T1_if
    | apply T0_if
    | exact T1_none
    | exact T0_none
    | refine T1_some ?_
    | refine T0_some ?_
    | refine mupk ?_ (by omega)
    | refine mrowk ?_ (by omega)
    | apply fr_f_X11_error
    | apply fr_f_X0_search
    | refine T1_bind1 ?_ (fun q hq => ?_)
    | refine T1_bind0 ?_ (fun q hq => ?_)
    | refine T0_bind1 ?_ (fun q hq => ?_)
    | refine T0_bind0 ?_ (fun q hq => ?_)
    | refine T1_bindv (fun q => ?_)
    | refine T0_bindv (fun q => ?_)
    | omega
theorem fr_f_X11_seed {ρ : Nat → Int32} {p0 : Int32} {σ : Sg}   (hσ : σ 1000000 = ρ) : T1 ρ (f_X11_seed p0 σ) := by
  unfold f_X11_seed
  repeat' first
    | assumption
    | apply T1_if
    | apply T0_if
    | exact T1_none
    | exact T0_none
    | refine T1_some ?_
    | refine T0_some ?_
    | refine mupk ?_ (by omega)
    | refine mrowk ?_ (by omega)
    | refine T1_bind1 ?_ (fun q hq => ?_)
    | refine T1_bind0 ?_ (fun q hq => ?_)
    | refine T0_bind1 ?_ (fun q hq => ?_)
    | refine T0_bind0 ?_ (fun q hq => ?_)
    | refine T1_bindv (fun q => ?_)
    | refine T0_bindv (fun q => ?_)
    | omega
theorem fr_f_X8_note {ρ : Nat → Int32} {p0 : Int32} {σ : Sg}   (hσ : σ 1000000 = ρ) : T0 ρ (f_X8_note p0 σ) := by
  unfold f_X8_note
  repeat' first
    | assumption
    | apply T1_if
    | apply T0_if
    | exact T1_none
    | exact T0_none
    | refine T1_some ?_
    | refine T0_some ?_
    | refine mupk ?_ (by omega)
    | refine mrowk ?_ (by omega)
    | apply fr_f_X11_lay
    | refine T1_bind1 ?_ (fun q hq => ?_)
    | refine T1_bind0 ?_ (fun q hq => ?_)
    | refine T0_bind1 ?_ (fun q hq => ?_)
    | refine T0_bind0 ?_ (fun q hq => ?_)
    | refine T1_bindv (fun q => ?_)
    | refine T0_bindv (fun q => ?_)
    | omega
theorem fr_b_X8_says {ρ : Nat → Int32} {g_X8_says : Int32 → Int32 → Int32 → Int32 → Sg → Option (Int32 × Sg)} {p0 : Int32} {p1 : Int32} {p2 : Int32} {p3 : Int32} {σ : Sg} (H_g_X8_says : ∀ (y0 : Int32) (y1 : Int32) (y2 : Int32) (y3 : Int32) (y4 : Sg), y4 1000000 = ρ → T1 ρ (g_X8_says y0 y1 y2 y3 y4))  (hσ : σ 1000000 = ρ) : T1 ρ (b_X8_says g_X8_says p0 p1 p2 p3 σ) := by
  unfold b_X8_says
  repeat' first
    | assumption
    | apply T1_if
    | apply T0_if
    | exact T1_none
    | exact T0_none
    | refine T1_some ?_
    | refine T0_some ?_
    | refine mupk ?_ (by omega)
    | refine mrowk ?_ (by omega)
    | apply H_g_X8_says
    | apply fr_f_X8_note
    | refine T1_bind1 ?_ (fun q hq => ?_)
    | refine T1_bind0 ?_ (fun q hq => ?_)
    | refine T0_bind1 ?_ (fun q hq => ?_)
    | refine T0_bind0 ?_ (fun q hq => ?_)
    | refine T1_bindv (fun q => ?_)
    | refine T0_bindv (fun q => ?_)
    | omega
theorem fr_f_X8_says {ρ : Nat → Int32} : ∀ (n : Nat) (p0 p1 p2 p3 : Int32) (σ : Sg), σ 1000000 = ρ → T1 ρ (f_X8_says n p0 p1 p2 p3 σ) := by
  intro n
  induction n with
  | zero => intro _ _ _ _ _ _; exact T1_none
  | succ n ih =>
    intro p0 p1 p2 p3 σ h
    rw [f_X8_says_s]
    exact fr_b_X8_says ih h
theorem fr_f_X8_begin {ρ : Nat → Int32} {p0 : Int32} {p1 : Int32} {p2 : Int32} {p3 : Int32} {p4 : Int32} {σ : Sg}   (hσ : σ 1000000 = ρ) : T1 ρ (f_X8_begin p0 p1 p2 p3 p4 σ) := by
  unfold f_X8_begin
  repeat' first
    | assumption
    | apply T1_if
    | apply T0_if
    | exact T1_none
    | exact T0_none
    | refine T1_some ?_
    | refine T0_some ?_
    | refine mupk ?_ (by omega)
    | refine mrowk ?_ (by omega)
    | apply fr_f_X8_says
    | refine T1_bind1 ?_ (fun q hq => ?_)
    | refine T1_bind0 ?_ (fun q hq => ?_)
    | refine T0_bind1 ?_ (fun q hq => ?_)
    | refine T0_bind0 ?_ (fun q hq => ?_)
    | refine T1_bindv (fun q => ?_)
    | refine T0_bindv (fun q => ?_)
    | omega
theorem fr_f_X11_voice {ρ : Nat → Int32} {p0 : Int32} {p1 : Int32} {p2 : Int32} {σ : Sg}   (hσ : σ 1000000 = ρ) : T1 ρ (f_X11_voice p0 p1 p2 σ) := by
  unfold f_X11_voice
  repeat' first
    | assumption
    | apply T1_if
    | apply T0_if
    | exact T1_none
    | exact T0_none
    | refine T1_some ?_
    | refine T0_some ?_
    | refine mupk ?_ (by omega)
    | refine mrowk ?_ (by omega)
    | apply fr_f_X11_error
    | apply fr_f_X8_begin
    | refine T1_bind1 ?_ (fun q hq => ?_)
    | refine T1_bind0 ?_ (fun q hq => ?_)
    | refine T0_bind1 ?_ (fun q hq => ?_)
    | refine T0_bind0 ?_ (fun q hq => ?_)
    | refine T1_bindv (fun q => ?_)
    | refine T0_bindv (fun q => ?_)
    | omega
theorem fr_f_X11_trace {ρ : Nat → Int32} {p0 : Int32} {σ : Sg}   (hσ : σ 1000000 = ρ) : T1 ρ (f_X11_trace p0 σ) := by
  unfold f_X11_trace
  repeat' first
    | assumption
    | apply T1_if
    | apply T0_if
    | exact T1_none
    | exact T0_none
    | refine T1_some ?_
    | refine T0_some ?_
    | refine mupk ?_ (by omega)
    | refine mrowk ?_ (by omega)
    | apply fr_f_X11_error
    | refine T1_bind1 ?_ (fun q hq => ?_)
    | refine T1_bind0 ?_ (fun q hq => ?_)
    | refine T0_bind1 ?_ (fun q hq => ?_)
    | refine T0_bind0 ?_ (fun q hq => ?_)
    | refine T1_bindv (fun q => ?_)
    | refine T0_bindv (fun q => ?_)
    | omega
theorem fr_c_X5_clear_12 {ρ : Nat → Int32} {a : Nat}  (h_a : a < 899000) : ∀ (n : Nat) (x1 : Int32) (σ : Sg), σ 1000000 = ρ → T0 ρ (c_X5_clear_12 a n x1 σ) := by
  intro n
  induction n with
  | zero => intros; exact T0_none
  | succ n ih =>
    intro x1 σ hσ
    rw [c_X5_clear_12]
    repeat' first
      | assumption
      | apply T1_if
      | apply T0_if
      | exact T1_none
      | exact T0_none
      | refine T1_some ?_
      | refine T0_some ?_
      | refine mupk ?_ (by omega)
      | refine mrowk ?_ (by omega)
      | apply ih
      | refine T1_bind1 ?_ (fun q hq => ?_)
      | refine T1_bind0 ?_ (fun q hq => ?_)
      | refine T0_bind1 ?_ (fun q hq => ?_)
      | refine T0_bind0 ?_ (fun q hq => ?_)
      | refine T1_bindv (fun q => ?_)
      | refine T0_bindv (fun q => ?_)
      | omega
theorem fr_f_X5_clear {ρ : Nat → Int32} {a : Nat} {p0 : Int32} {p1 : Int32} {σ : Sg}  (h_a : a < 898000) (hσ : σ 1000000 = ρ) : T0 ρ (f_X5_clear a p0 p1 σ) := by
  unfold f_X5_clear
  repeat' first
    | assumption
    | apply T1_if
    | apply T0_if
    | exact T1_none
    | exact T0_none
    | refine T1_some ?_
    | refine T0_some ?_
    | refine mupk ?_ (by omega)
    | refine mrowk ?_ (by omega)
    | apply fr_c_X5_clear_12
    | refine T1_bind1 ?_ (fun q hq => ?_)
    | refine T1_bind0 ?_ (fun q hq => ?_)
    | refine T0_bind1 ?_ (fun q hq => ?_)
    | refine T0_bind0 ?_ (fun q hq => ?_)
    | refine T1_bindv (fun q => ?_)
    | refine T0_bindv (fun q => ?_)
    | omega
theorem fr_c_X11_sheet_40 {ρ : Nat → Int32} {x2 : Int32} {x3 : Int32} {x4 : Nat} {σ : Sg}  (h_x4 : x4 < 897000) (hσ : σ 1000000 = ρ) : T1 ρ (c_X11_sheet_40 x2 x3 x4 σ) := by
  unfold c_X11_sheet_40
  repeat' first
    | assumption
    | apply T1_if
    | apply T0_if
    | exact T1_none
    | exact T0_none
    | refine T1_some ?_
    | refine T0_some ?_
    | refine mupk ?_ (by omega)
    | refine mrowk ?_ (by omega)
    | apply fr_f_X5_clear
    | apply fr_f_X11_error
    | refine T1_bind1 ?_ (fun q hq => ?_)
    | refine T1_bind0 ?_ (fun q hq => ?_)
    | refine T0_bind1 ?_ (fun q hq => ?_)
    | refine T0_bind0 ?_ (fun q hq => ?_)
    | refine T1_bindv (fun q => ?_)
    | refine T0_bindv (fun q => ?_)
    | omega
theorem fr_f_X11_sheet {ρ : Nat → Int32} {p0 : Int32} {p1 : Int32} {p2 : Int32} {σ : Sg}   (hσ : σ 1000000 = ρ) : T1 ρ (f_X11_sheet p0 p1 p2 σ) := by
  unfold f_X11_sheet
  repeat' first
    | assumption
    | apply T1_if
    | apply T0_if
    | exact T1_none
    | exact T0_none
    | refine T1_some ?_
    | refine T0_some ?_
    | refine mupk ?_ (by omega)
    | refine mrowk ?_ (by omega)
    | apply fr_f_X11_error
    | apply fr_c_X11_sheet_40
    | refine T1_bind1 ?_ (fun q hq => ?_)
    | refine T1_bind0 ?_ (fun q hq => ?_)
    | refine T0_bind1 ?_ (fun q hq => ?_)
    | refine T0_bind0 ?_ (fun q hq => ?_)
    | refine T1_bindv (fun q => ?_)
    | refine T0_bindv (fun q => ?_)
    | omega
theorem fr_f_X5_write {ρ : Nat → Int32} {a : Nat} {p0 : Int32} {p1 : Int32} {σ : Sg}  (h_a : a < 898000) (hσ : σ 1000000 = ρ) : T0 ρ (f_X5_write a p0 p1 σ) := by
  unfold f_X5_write
  repeat' first
    | assumption
    | apply T1_if
    | apply T0_if
    | exact T1_none
    | exact T0_none
    | refine T1_some ?_
    | refine T0_some ?_
    | refine mupk ?_ (by omega)
    | refine mrowk ?_ (by omega)
    | apply fr_f_X11_lay
    | refine T1_bind1 ?_ (fun q hq => ?_)
    | refine T1_bind0 ?_ (fun q hq => ?_)
    | refine T0_bind1 ?_ (fun q hq => ?_)
    | refine T0_bind0 ?_ (fun q hq => ?_)
    | refine T1_bindv (fun q => ?_)
    | refine T0_bindv (fun q => ?_)
    | omega
theorem fr_f_X11_put {ρ : Nat → Int32} {p0 : Int32} {p1 : Int32} {p2 : Int32} {σ : Sg}   (hσ : σ 1000000 = ρ) : T1 ρ (f_X11_put p0 p1 p2 σ) := by
  unfold f_X11_put
  repeat' first
    | assumption
    | apply T1_if
    | apply T0_if
    | exact T1_none
    | exact T0_none
    | refine T1_some ?_
    | refine T0_some ?_
    | refine mupk ?_ (by omega)
    | refine mrowk ?_ (by omega)
    | apply fr_f_X11_error
    | apply fr_f_X5_write
    | refine T1_bind1 ?_ (fun q hq => ?_)
    | refine T1_bind0 ?_ (fun q hq => ?_)
    | refine T0_bind1 ?_ (fun q hq => ?_)
    | refine T0_bind0 ?_ (fun q hq => ?_)
    | refine T1_bindv (fun q => ?_)
    | refine T0_bindv (fun q => ?_)
    | omega
theorem fr_f_X11_move {ρ : Nat → Int32} {p0 : Int32} {p1 : Int32} {p2 : Int32} {p3 : Int32} {p4 : Int32} {σ : Sg}   (hσ : σ 1000000 = ρ) : T1 ρ (f_X11_move p0 p1 p2 p3 p4 σ) := by
  unfold f_X11_move
  repeat' first
    | assumption
    | apply T1_if
    | apply T0_if
    | exact T1_none
    | exact T0_none
    | refine T1_some ?_
    | refine T0_some ?_
    | refine mupk ?_ (by omega)
    | refine mrowk ?_ (by omega)
    | apply fr_f_X11_error
    | refine T1_bind1 ?_ (fun q hq => ?_)
    | refine T1_bind0 ?_ (fun q hq => ?_)
    | refine T0_bind1 ?_ (fun q hq => ?_)
    | refine T0_bind0 ?_ (fun q hq => ?_)
    | refine T1_bindv (fun q => ?_)
    | refine T0_bindv (fun q => ?_)
    | omega
theorem fr_f_X2_copyFrom {ρ : Nat → Int32} {a : Nat} {r0 : Nat} {σ : Sg}  (h_a : a < 898000) (h_r0 : r0 < 898000) (hσ : σ 1000000 = ρ) : T0 ρ (f_X2_copyFrom a r0 σ) := by
  unfold f_X2_copyFrom
  repeat' first
    | assumption
    | apply T1_if
    | apply T0_if
    | exact T1_none
    | exact T0_none
    | refine T1_some ?_
    | refine T0_some ?_
    | refine mupk ?_ (by omega)
    | refine mrowk ?_ (by omega)
    | apply fr_f_X11_copyRow
    | refine T1_bind1 ?_ (fun q hq => ?_)
    | refine T1_bind0 ?_ (fun q hq => ?_)
    | refine T0_bind1 ?_ (fun q hq => ?_)
    | refine T0_bind0 ?_ (fun q hq => ?_)
    | refine T1_bindv (fun q => ?_)
    | refine T0_bindv (fun q => ?_)
    | omega
theorem fr_f_X4_copyFrom {ρ : Nat → Int32} {a : Nat} {a_n : Nat} {r0 : Nat} {r0_n : Nat} {σ : Sg}  (h_a : a < 898000) (h_a_n : a_n < 898000) (h_r0 : r0 < 898000) (h_r0_n : r0_n < 898000) (hσ : σ 1000000 = ρ) : T0 ρ (f_X4_copyFrom a a_n r0 r0_n σ) := by
  unfold f_X4_copyFrom
  repeat' first
    | assumption
    | apply T1_if
    | apply T0_if
    | exact T1_none
    | exact T0_none
    | refine T1_some ?_
    | refine T0_some ?_
    | refine mupk ?_ (by omega)
    | refine mrowk ?_ (by omega)
    | apply fr_f_X11_copyRow
    | refine T1_bind1 ?_ (fun q hq => ?_)
    | refine T1_bind0 ?_ (fun q hq => ?_)
    | refine T0_bind1 ?_ (fun q hq => ?_)
    | refine T0_bind0 ?_ (fun q hq => ?_)
    | refine T1_bindv (fun q => ?_)
    | refine T0_bindv (fun q => ?_)
    | omega
theorem fr_f_X1_copyFrom {ρ : Nat → Int32} {a : Nat} {r0 : Nat} {σ : Sg}  (h_a : a < 897000) (h_r0 : r0 < 897000) (hσ : σ 1000000 = ρ) : T0 ρ (f_X1_copyFrom a r0 σ) := by
  unfold f_X1_copyFrom
  repeat' first
    | assumption
    | apply T1_if
    | apply T0_if
    | exact T1_none
    | exact T0_none
    | refine T1_some ?_
    | refine T0_some ?_
    | refine mupk ?_ (by omega)
    | refine mrowk ?_ (by omega)
    | apply fr_f_X2_copyFrom
    | apply fr_f_X6_copyFrom
    | apply fr_f_X4_copyFrom
    | refine T1_bind1 ?_ (fun q hq => ?_)
    | refine T1_bind0 ?_ (fun q hq => ?_)
    | refine T0_bind1 ?_ (fun q hq => ?_)
    | refine T0_bind0 ?_ (fun q hq => ?_)
    | refine T1_bindv (fun q => ?_)
    | refine T0_bindv (fun q => ?_)
    | omega
theorem fr_f_X11_image {ρ : Nat → Int32} {σ : Sg}   (hσ : σ 1000000 = ρ) : T1 ρ (f_X11_image σ) := by
  unfold f_X11_image
  repeat' first
    | assumption
    | apply T1_if
    | apply T0_if
    | exact T1_none
    | exact T0_none
    | refine T1_some ?_
    | refine T0_some ?_
    | refine mupk ?_ (by omega)
    | refine mrowk ?_ (by omega)
    | apply fr_f_X10_copyFrom
    | apply fr_f_X1_copyFrom
    | refine T1_bind1 ?_ (fun q hq => ?_)
    | refine T1_bind0 ?_ (fun q hq => ?_)
    | refine T0_bind1 ?_ (fun q hq => ?_)
    | refine T0_bind0 ?_ (fun q hq => ?_)
    | refine T1_bindv (fun q => ?_)
    | refine T0_bindv (fun q => ?_)
    | omega
theorem fr_f_X11_restore {ρ : Nat → Int32} {σ : Sg}   (hσ : σ 1000000 = ρ) : T1 ρ (f_X11_restore σ) := by
  unfold f_X11_restore
  repeat' first
    | assumption
    | apply T1_if
    | apply T0_if
    | exact T1_none
    | exact T0_none
    | refine T1_some ?_
    | refine T0_some ?_
    | refine mupk ?_ (by omega)
    | refine mrowk ?_ (by omega)
    | apply fr_f_X11_error
    | apply fr_f_X10_copyFrom
    | apply fr_f_X1_copyFrom
    | refine T1_bind1 ?_ (fun q hq => ?_)
    | refine T1_bind0 ?_ (fun q hq => ?_)
    | refine T0_bind1 ?_ (fun q hq => ?_)
    | refine T0_bind0 ?_ (fun q hq => ?_)
    | refine T1_bindv (fun q => ?_)
    | refine T0_bindv (fun q => ?_)
    | omega
theorem fr_f_X11_tell {ρ : Nat → Int32} {p0 : Int32} {σ : Sg}   (hσ : σ 1000000 = ρ) : T1 ρ (f_X11_tell p0 σ) := by
  unfold f_X11_tell
  repeat' first
    | assumption
    | apply T1_if
    | apply T0_if
    | exact T1_none
    | exact T0_none
    | refine T1_some ?_
    | refine T0_some ?_
    | refine mupk ?_ (by omega)
    | refine mrowk ?_ (by omega)
    | apply fr_f_X4_append
    | apply fr_f_X11_error
    | refine T1_bind1 ?_ (fun q hq => ?_)
    | refine T1_bind0 ?_ (fun q hq => ?_)
    | refine T0_bind1 ?_ (fun q hq => ?_)
    | refine T0_bind0 ?_ (fun q hq => ?_)
    | refine T1_bindv (fun q => ?_)
    | refine T0_bindv (fun q => ?_)
    | omega
theorem fr_c_X11_check_55 {ρ : Nat → Int32}    : ∀ (n : Nat) (x1 : Int32) (x2 : Int32) (x3 : Int32) (σ : Sg), σ 1000000 = ρ → T1 ρ (c_X11_check_55  n x1 x2 x3 σ) := by
  intro n
  induction n with
  | zero => intros; exact T1_none
  | succ n ih =>
    intro x1 x2 x3 σ hσ
    rw [c_X11_check_55]
    repeat' first
      | assumption
      | apply T1_if
      | apply T0_if
      | exact T1_none
      | exact T0_none
      | refine T1_some ?_
      | refine T0_some ?_
      | refine mupk ?_ (by omega)
      | refine mrowk ?_ (by omega)
      | apply ih
      | apply fr_f_X10_goBy
      | refine T1_bind1 ?_ (fun q hq => ?_)
      | refine T1_bind0 ?_ (fun q hq => ?_)
      | refine T0_bind1 ?_ (fun q hq => ?_)
      | refine T0_bind0 ?_ (fun q hq => ?_)
      | refine T1_bindv (fun q => ?_)
      | refine T0_bindv (fun q => ?_)
      | omega
theorem fr_f_X11_check {ρ : Nat → Int32} {p0 : Int32} {σ : Sg}   (hσ : σ 1000000 = ρ) : T1 ρ (f_X11_check p0 σ) := by
  unfold f_X11_check
  repeat' first
    | assumption
    | apply T1_if
    | apply T0_if
    | exact T1_none
    | exact T0_none
    | refine T1_some ?_
    | refine T0_some ?_
    | refine mupk ?_ (by omega)
    | refine mrowk ?_ (by omega)
    | apply fr_f_X11_error
    | apply fr_f_X10_copyFrom
    | apply fr_c_X11_check_55
    | refine T1_bind1 ?_ (fun q hq => ?_)
    | refine T1_bind0 ?_ (fun q hq => ?_)
    | refine T0_bind1 ?_ (fun q hq => ?_)
    | refine T0_bind0 ?_ (fun q hq => ?_)
    | refine T1_bindv (fun q => ?_)
    | refine T0_bindv (fun q => ?_)
    | omega
theorem fr_f_X11_count {ρ : Nat → Int32} {p0 : Int32} {σ : Sg}   (hσ : σ 1000000 = ρ) : T1 ρ (f_X11_count p0 σ) := by
  unfold f_X11_count
  repeat' first
    | assumption
    | apply T1_if
    | apply T0_if
    | exact T1_none
    | exact T0_none
    | refine T1_some ?_
    | refine T0_some ?_
    | refine mupk ?_ (by omega)
    | refine mrowk ?_ (by omega)
    | apply fr_f_X11_error
    | refine T1_bind1 ?_ (fun q hq => ?_)
    | refine T1_bind0 ?_ (fun q hq => ?_)
    | refine T0_bind1 ?_ (fun q hq => ?_)
    | refine T0_bind0 ?_ (fun q hq => ?_)
    | refine T1_bindv (fun q => ?_)
    | refine T0_bindv (fun q => ?_)
    | omega
theorem fr_f_X11_told {ρ : Nat → Int32} {p0 : Int32} {σ : Sg}   (hσ : σ 1000000 = ρ) : T1 ρ (f_X11_told p0 σ) := by
  unfold f_X11_told
  repeat' first
    | assumption
    | apply T1_if
    | apply T0_if
    | exact T1_none
    | exact T0_none
    | refine T1_some ?_
    | refine T0_some ?_
    | refine mupk ?_ (by omega)
    | refine mrowk ?_ (by omega)
    | apply fr_f_X11_error
    | refine T1_bind1 ?_ (fun q hq => ?_)
    | refine T1_bind0 ?_ (fun q hq => ?_)
    | refine T0_bind1 ?_ (fun q hq => ?_)
    | refine T0_bind0 ?_ (fun q hq => ?_)
    | refine T1_bindv (fun q => ?_)
    | refine T0_bindv (fun q => ?_)
    | omega
