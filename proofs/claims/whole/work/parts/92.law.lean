/-! the law's loop: every call answers alike, so the law answers 1 -/
def Ans (o : Option (Int32 × Sg)) : Prop := ∃ σ', o = some ((1 : Int32), σ')
theorem Ans_in {c : Prop} [Decidable c] {b : Option (Int32 × Sg)} (h : ¬ c) (hb : Ans b) : Ans (if c then none else b) := by
  rw [if_neg h]; exact hb
theorem Ans_case {c : Prop} [Decidable c] {a b : Option (Int32 × Sg)} (ha : c → Ans a) (hb : ¬ c → Ans b) : Ans (if c then a else b) := by
  by_cases h : c
  · rw [if_pos h]; exact ha h
  · rw [if_neg h]; exact hb h
theorem Ans_two {xs ρ : Nat → Int32} {A : Option (Int32 × Sg)} {B : Sg → Option (Int32 × Sg)} {F : Int32 × Sg → Option (Int32 × Sg)} {K : Sg → Option (Int32 × Sg)} (h : Good xs A B) (ht : T1 ρ A) (hF : ∀ q : Int32 × Sg, q.2 1000000 = ρ → F q = (B q.2).bind fun q' => if q.1 = q'.1 then K q'.2 else some ((0 : Int32), q'.2)) (hK : ∀ σ2, Inv xs σ2 → Ans (K σ2)) : Ans (A.bind F) := by
  obtain ⟨r, σ1, σ2, e1, e2, hI⟩ := h
  have e3 : σ1 1000000 = ρ := ht (r, σ1) e1
  have e4 := hF (r, σ1) e3
  rw [e1, Option.bind_some, e4]
  show Ans ((B σ1).bind _)
  rw [e2, Option.bind_some]
  show Ans (if r = r then K σ2 else _)
  rw [if_pos rfl]
  exact hK σ2 hI
theorem law_0 {xs : Nat → Int32} {L : Nat} {x3 : Int32} {σ : Sg} (h : Inv xs σ)  {K : Sg → Option (Int32 × Sg)} (hK : ∀ σ2, Inv xs σ2 → Ans (K σ2)) : Ans ((f_X11_well  σ).bind fun q3 => ((f_X12_well  q3.2).bind fun q4 => (if q3.1 = q4.1 then (K q4.2) else (some ((0 : Int32), q4.2))))) := by
  refine Ans_two (ρ := σ 1000000) (eq_well h) (fr_f_X11_well rfl) (fun q hq => ?_) hK
  rfl
theorem law_1 {xs : Nat → Int32} {L : Nat} {x3 : Int32} {σ : Sg} (h : Inv xs σ) (k1 : ¬ ((x3 + (1 : Int32)) < 0 ∨ L ≤ ((x3 + (1 : Int32))).toNatClampNeg)) (k2 : ¬ ((x3 + (2 : Int32)) < 0 ∨ L ≤ ((x3 + (2 : Int32))).toNatClampNeg)) (k3 : ¬ ((x3 + (3 : Int32)) < 0 ∨ L ≤ ((x3 + (3 : Int32))).toNatClampNeg)) {K : Sg → Option (Int32 × Sg)} (hK : ∀ σ2, Inv xs σ2 → Ans (K σ2)) : Ans (if (x3 + (1 : Int32)) < 0 ∨ L ≤ ((x3 + (1 : Int32))).toNatClampNeg then none else (if (x3 + (2 : Int32)) < 0 ∨ L ≤ ((x3 + (2 : Int32))).toNatClampNeg then none else (if (x3 + (3 : Int32)) < 0 ∨ L ≤ ((x3 + (3 : Int32))).toNatClampNeg then none else ((f_X11_going (σ 1000000 ((x3 + (1 : Int32))).toNatClampNeg) (σ 1000000 ((x3 + (2 : Int32))).toNatClampNeg) (σ 1000000 ((x3 + (3 : Int32))).toNatClampNeg) σ).bind fun q9 => (if (x3 + (1 : Int32)) < 0 ∨ L ≤ ((x3 + (1 : Int32))).toNatClampNeg then none else (if (x3 + (2 : Int32)) < 0 ∨ L ≤ ((x3 + (2 : Int32))).toNatClampNeg then none else (if (x3 + (3 : Int32)) < 0 ∨ L ≤ ((x3 + (3 : Int32))).toNatClampNeg then none else ((f_X12_going (q9.2 1000000 ((x3 + (1 : Int32))).toNatClampNeg) (q9.2 1000000 ((x3 + (2 : Int32))).toNatClampNeg) (q9.2 1000000 ((x3 + (3 : Int32))).toNatClampNeg) q9.2).bind fun q13 => (if q9.1 = q13.1 then (K q13.2) else (some ((0 : Int32), q13.2))))))))))) := by
  refine Ans_in k1 ?_
  refine Ans_in k2 ?_
  refine Ans_in k3 ?_
  refine Ans_two (ρ := σ 1000000) (eq_going h _ _ _) (fr_f_X11_going rfl) (fun q hq => ?_) hK
  rw [if_neg k1, if_neg k2, if_neg k3, hq]
theorem law_2 {xs : Nat → Int32} {L : Nat} {x3 : Int32} {σ : Sg} (h : Inv xs σ) (k1 : ¬ ((x3 + (1 : Int32)) < 0 ∨ L ≤ ((x3 + (1 : Int32))).toNatClampNeg)) (k2 : ¬ ((x3 + (2 : Int32)) < 0 ∨ L ≤ ((x3 + (2 : Int32))).toNatClampNeg)) (k3 : ¬ ((x3 + (3 : Int32)) < 0 ∨ L ≤ ((x3 + (3 : Int32))).toNatClampNeg)) {K : Sg → Option (Int32 × Sg)} (hK : ∀ σ2, Inv xs σ2 → Ans (K σ2)) : Ans (if (x3 + (1 : Int32)) < 0 ∨ L ≤ ((x3 + (1 : Int32))).toNatClampNeg then none else (if (x3 + (2 : Int32)) < 0 ∨ L ≤ ((x3 + (2 : Int32))).toNatClampNeg then none else (if (x3 + (3 : Int32)) < 0 ∨ L ≤ ((x3 + (3 : Int32))).toNatClampNeg then none else ((f_X11_set (σ 1000000 ((x3 + (1 : Int32))).toNatClampNeg) (σ 1000000 ((x3 + (2 : Int32))).toNatClampNeg) (σ 1000000 ((x3 + (3 : Int32))).toNatClampNeg) σ).bind fun q18 => (if (x3 + (1 : Int32)) < 0 ∨ L ≤ ((x3 + (1 : Int32))).toNatClampNeg then none else (if (x3 + (2 : Int32)) < 0 ∨ L ≤ ((x3 + (2 : Int32))).toNatClampNeg then none else (if (x3 + (3 : Int32)) < 0 ∨ L ≤ ((x3 + (3 : Int32))).toNatClampNeg then none else ((f_X12_set (q18.2 1000000 ((x3 + (1 : Int32))).toNatClampNeg) (q18.2 1000000 ((x3 + (2 : Int32))).toNatClampNeg) (q18.2 1000000 ((x3 + (3 : Int32))).toNatClampNeg) q18.2).bind fun q22 => (if q18.1 = q22.1 then (K q22.2) else (some ((0 : Int32), q22.2))))))))))) := by
  refine Ans_in k1 ?_
  refine Ans_in k2 ?_
  refine Ans_in k3 ?_
  refine Ans_two (ρ := σ 1000000) (eq_set h _ _ _) (fr_f_X11_set rfl) (fun q hq => ?_) hK
  rw [if_neg k1, if_neg k2, if_neg k3, hq]
theorem law_3 {xs : Nat → Int32} {L : Nat} {x3 : Int32} {σ : Sg} (h : Inv xs σ) (k1 : ¬ ((x3 + (1 : Int32)) < 0 ∨ L ≤ ((x3 + (1 : Int32))).toNatClampNeg)) (k2 : ¬ ((x3 + (2 : Int32)) < 0 ∨ L ≤ ((x3 + (2 : Int32))).toNatClampNeg)) {K : Sg → Option (Int32 × Sg)} (hK : ∀ σ2, Inv xs σ2 → Ans (K σ2)) : Ans (if (x3 + (1 : Int32)) < 0 ∨ L ≤ ((x3 + (1 : Int32))).toNatClampNeg then none else (if (x3 + (2 : Int32)) < 0 ∨ L ≤ ((x3 + (2 : Int32))).toNatClampNeg then none else ((f_X11_ofWell (σ 1000000 ((x3 + (1 : Int32))).toNatClampNeg) (σ 1000000 ((x3 + (2 : Int32))).toNatClampNeg) σ).bind fun q26 => (if (x3 + (1 : Int32)) < 0 ∨ L ≤ ((x3 + (1 : Int32))).toNatClampNeg then none else (if (x3 + (2 : Int32)) < 0 ∨ L ≤ ((x3 + (2 : Int32))).toNatClampNeg then none else ((f_X12_ofWell (q26.2 1000000 ((x3 + (1 : Int32))).toNatClampNeg) (q26.2 1000000 ((x3 + (2 : Int32))).toNatClampNeg) q26.2).bind fun q29 => (if q26.1 = q29.1 then (K q29.2) else (some ((0 : Int32), q29.2))))))))) := by
  refine Ans_in k1 ?_
  refine Ans_in k2 ?_
  refine Ans_two (ρ := σ 1000000) (eq_ofWell h _ _) (fr_f_X11_ofWell rfl) (fun q hq => ?_) hK
  rw [if_neg k1, if_neg k2, hq]
theorem law_4 {xs : Nat → Int32} {L : Nat} {x3 : Int32} {σ : Sg} (h : Inv xs σ) (k1 : ¬ ((x3 + (1 : Int32)) < 0 ∨ L ≤ ((x3 + (1 : Int32))).toNatClampNeg)) {K : Sg → Option (Int32 × Sg)} (hK : ∀ σ2, Inv xs σ2 → Ans (K σ2)) : Ans (if (x3 + (1 : Int32)) < 0 ∨ L ≤ ((x3 + (1 : Int32))).toNatClampNeg then none else ((f_X11_goings (σ 1000000 ((x3 + (1 : Int32))).toNatClampNeg) σ).bind fun q32 => (if (x3 + (1 : Int32)) < 0 ∨ L ≤ ((x3 + (1 : Int32))).toNatClampNeg then none else ((f_X12_goings (q32.2 1000000 ((x3 + (1 : Int32))).toNatClampNeg) q32.2).bind fun q34 => (if q32.1 = q34.1 then (K q34.2) else (some ((0 : Int32), q34.2))))))) := by
  refine Ans_in k1 ?_
  refine Ans_two (ρ := σ 1000000) (eq_goings h _) (fr_f_X11_goings rfl) (fun q hq => ?_) hK
  rw [if_neg k1, hq]
theorem law_5 {xs : Nat → Int32} {L : Nat} {x3 : Int32} {σ : Sg} (h : Inv xs σ) (k1 : ¬ ((x3 + (1 : Int32)) < 0 ∨ L ≤ ((x3 + (1 : Int32))).toNatClampNeg)) (k2 : ¬ ((x3 + (2 : Int32)) < 0 ∨ L ≤ ((x3 + (2 : Int32))).toNatClampNeg)) {K : Sg → Option (Int32 × Sg)} (hK : ∀ σ2, Inv xs σ2 → Ans (K σ2)) : Ans (if (x3 + (1 : Int32)) < 0 ∨ L ≤ ((x3 + (1 : Int32))).toNatClampNeg then none else (if (x3 + (2 : Int32)) < 0 ∨ L ≤ ((x3 + (2 : Int32))).toNatClampNeg then none else ((f_X11_thing (σ 1000000 ((x3 + (1 : Int32))).toNatClampNeg) (σ 1000000 ((x3 + (2 : Int32))).toNatClampNeg) σ).bind fun q38 => (if (x3 + (1 : Int32)) < 0 ∨ L ≤ ((x3 + (1 : Int32))).toNatClampNeg then none else (if (x3 + (2 : Int32)) < 0 ∨ L ≤ ((x3 + (2 : Int32))).toNatClampNeg then none else ((f_X12_thing (q38.2 1000000 ((x3 + (1 : Int32))).toNatClampNeg) (q38.2 1000000 ((x3 + (2 : Int32))).toNatClampNeg) q38.2).bind fun q41 => (if q38.1 = q41.1 then (K q41.2) else (some ((0 : Int32), q41.2))))))))) := by
  refine Ans_in k1 ?_
  refine Ans_in k2 ?_
  refine Ans_two (ρ := σ 1000000) (eq_thing h _ _) (fr_f_X11_thing rfl) (fun q hq => ?_) hK
  rw [if_neg k1, if_neg k2, hq]
theorem law_6 {xs : Nat → Int32} {L : Nat} {x3 : Int32} {σ : Sg} (h : Inv xs σ) (k1 : ¬ ((x3 + (1 : Int32)) < 0 ∨ L ≤ ((x3 + (1 : Int32))).toNatClampNeg)) (k2 : ¬ ((x3 + (2 : Int32)) < 0 ∨ L ≤ ((x3 + (2 : Int32))).toNatClampNeg)) {K : Sg → Option (Int32 × Sg)} (hK : ∀ σ2, Inv xs σ2 → Ans (K σ2)) : Ans (if (x3 + (1 : Int32)) < 0 ∨ L ≤ ((x3 + (1 : Int32))).toNatClampNeg then none else (if (x3 + (2 : Int32)) < 0 ∨ L ≤ ((x3 + (2 : Int32))).toNatClampNeg then none else ((f_X11_ofThing (σ 1000000 ((x3 + (1 : Int32))).toNatClampNeg) (σ 1000000 ((x3 + (2 : Int32))).toNatClampNeg) σ).bind fun q45 => (if (x3 + (1 : Int32)) < 0 ∨ L ≤ ((x3 + (1 : Int32))).toNatClampNeg then none else (if (x3 + (2 : Int32)) < 0 ∨ L ≤ ((x3 + (2 : Int32))).toNatClampNeg then none else ((f_X12_ofThing (q45.2 1000000 ((x3 + (1 : Int32))).toNatClampNeg) (q45.2 1000000 ((x3 + (2 : Int32))).toNatClampNeg) q45.2).bind fun q48 => (if q45.1 = q48.1 then (K q48.2) else (some ((0 : Int32), q48.2))))))))) := by
  refine Ans_in k1 ?_
  refine Ans_in k2 ?_
  refine Ans_two (ρ := σ 1000000) (eq_ofThing h _ _) (fr_f_X11_ofThing rfl) (fun q hq => ?_) hK
  rw [if_neg k1, if_neg k2, hq]
theorem law_7 {xs : Nat → Int32} {L : Nat} {x3 : Int32} {σ : Sg} (h : Inv xs σ) (k1 : ¬ ((x3 + (1 : Int32)) < 0 ∨ L ≤ ((x3 + (1 : Int32))).toNatClampNeg)) (k2 : ¬ ((x3 + (2 : Int32)) < 0 ∨ L ≤ ((x3 + (2 : Int32))).toNatClampNeg)) {K : Sg → Option (Int32 × Sg)} (hK : ∀ σ2, Inv xs σ2 → Ans (K σ2)) : Ans (if (x3 + (1 : Int32)) < 0 ∨ L ≤ ((x3 + (1 : Int32))).toNatClampNeg then none else (if (x3 + (2 : Int32)) < 0 ∨ L ≤ ((x3 + (2 : Int32))).toNatClampNeg then none else ((f_X11_as (σ 1000000 ((x3 + (1 : Int32))).toNatClampNeg) (σ 1000000 ((x3 + (2 : Int32))).toNatClampNeg) σ).bind fun q52 => (if (x3 + (1 : Int32)) < 0 ∨ L ≤ ((x3 + (1 : Int32))).toNatClampNeg then none else (if (x3 + (2 : Int32)) < 0 ∨ L ≤ ((x3 + (2 : Int32))).toNatClampNeg then none else ((f_X12_as (q52.2 1000000 ((x3 + (1 : Int32))).toNatClampNeg) (q52.2 1000000 ((x3 + (2 : Int32))).toNatClampNeg) q52.2).bind fun q55 => (if q52.1 = q55.1 then (K q55.2) else (some ((0 : Int32), q55.2))))))))) := by
  refine Ans_in k1 ?_
  refine Ans_in k2 ?_
  refine Ans_two (ρ := σ 1000000) (eq_as h _ _) (fr_f_X11_as rfl) (fun q hq => ?_) hK
  rw [if_neg k1, if_neg k2, hq]
theorem law_8 {xs : Nat → Int32} {L : Nat} {x3 : Int32} {σ : Sg} (h : Inv xs σ) (k1 : ¬ ((x3 + (1 : Int32)) < 0 ∨ L ≤ ((x3 + (1 : Int32))).toNatClampNeg)) (k2 : ¬ ((x3 + (2 : Int32)) < 0 ∨ L ≤ ((x3 + (2 : Int32))).toNatClampNeg)) {K : Sg → Option (Int32 × Sg)} (hK : ∀ σ2, Inv xs σ2 → Ans (K σ2)) : Ans (if (x3 + (1 : Int32)) < 0 ∨ L ≤ ((x3 + (1 : Int32))).toNatClampNeg then none else (if (x3 + (2 : Int32)) < 0 ∨ L ≤ ((x3 + (2 : Int32))).toNatClampNeg then none else ((f_X11_let (σ 1000000 ((x3 + (1 : Int32))).toNatClampNeg) (σ 1000000 ((x3 + (2 : Int32))).toNatClampNeg) σ).bind fun q59 => (if (x3 + (1 : Int32)) < 0 ∨ L ≤ ((x3 + (1 : Int32))).toNatClampNeg then none else (if (x3 + (2 : Int32)) < 0 ∨ L ≤ ((x3 + (2 : Int32))).toNatClampNeg then none else ((f_X12_let (q59.2 1000000 ((x3 + (1 : Int32))).toNatClampNeg) (q59.2 1000000 ((x3 + (2 : Int32))).toNatClampNeg) q59.2).bind fun q62 => (if q59.1 = q62.1 then (K q62.2) else (some ((0 : Int32), q62.2))))))))) := by
  refine Ans_in k1 ?_
  refine Ans_in k2 ?_
  refine Ans_two (ρ := σ 1000000) (eq_let h _ _) (fr_f_X11_let rfl) (fun q hq => ?_) hK
  rw [if_neg k1, if_neg k2, hq]
theorem law_9 {xs : Nat → Int32} {L : Nat} {x3 : Int32} {σ : Sg} (h : Inv xs σ) (k1 : ¬ ((x3 + (1 : Int32)) < 0 ∨ L ≤ ((x3 + (1 : Int32))).toNatClampNeg)) {K : Sg → Option (Int32 × Sg)} (hK : ∀ σ2, Inv xs σ2 → Ans (K σ2)) : Ans (if (x3 + (1 : Int32)) < 0 ∨ L ≤ ((x3 + (1 : Int32))).toNatClampNeg then none else ((f_X11_fish (σ 1000000 ((x3 + (1 : Int32))).toNatClampNeg) σ).bind fun q65 => (if (x3 + (1 : Int32)) < 0 ∨ L ≤ ((x3 + (1 : Int32))).toNatClampNeg then none else ((f_X12_fish (q65.2 1000000 ((x3 + (1 : Int32))).toNatClampNeg) q65.2).bind fun q67 => (if q65.1 = q67.1 then (K q67.2) else (some ((0 : Int32), q67.2))))))) := by
  refine Ans_in k1 ?_
  refine Ans_two (ρ := σ 1000000) (eq_fish h _) (fr_f_X11_fish rfl) (fun q hq => ?_) hK
  rw [if_neg k1, hq]
theorem law_10 {xs : Nat → Int32} {L : Nat} {x3 : Int32} {σ : Sg} (h : Inv xs σ) (k1 : ¬ ((x3 + (1 : Int32)) < 0 ∨ L ≤ ((x3 + (1 : Int32))).toNatClampNeg)) (k2 : ¬ ((x3 + (2 : Int32)) < 0 ∨ L ≤ ((x3 + (2 : Int32))).toNatClampNeg)) (k3 : ¬ ((x3 + (3 : Int32)) < 0 ∨ L ≤ ((x3 + (3 : Int32))).toNatClampNeg)) {K : Sg → Option (Int32 × Sg)} (hK : ∀ σ2, Inv xs σ2 → Ans (K σ2)) : Ans (if (x3 + (1 : Int32)) < 0 ∨ L ≤ ((x3 + (1 : Int32))).toNatClampNeg then none else (if (x3 + (2 : Int32)) < 0 ∨ L ≤ ((x3 + (2 : Int32))).toNatClampNeg then none else (if (x3 + (3 : Int32)) < 0 ∨ L ≤ ((x3 + (3 : Int32))).toNatClampNeg then none else ((f_X11_feed ((((σ 1000000 ((x3 + (1 : Int32))).toNatClampNeg)).toInt64 <<< (((32 : Int32)).toInt64 &&& 63)) ||| (((σ 1000000 ((x3 + (2 : Int32))).toNatClampNeg)).toInt64 &&& (Int64.ofNat 4294967295))) (σ 1000000 ((x3 + (3 : Int32))).toNatClampNeg) σ).bind fun q72 => (if (x3 + (1 : Int32)) < 0 ∨ L ≤ ((x3 + (1 : Int32))).toNatClampNeg then none else (if (x3 + (2 : Int32)) < 0 ∨ L ≤ ((x3 + (2 : Int32))).toNatClampNeg then none else (if (x3 + (3 : Int32)) < 0 ∨ L ≤ ((x3 + (3 : Int32))).toNatClampNeg then none else ((f_X12_feed ((((q72.2 1000000 ((x3 + (1 : Int32))).toNatClampNeg)).toInt64 <<< (((32 : Int32)).toInt64 &&& 63)) ||| (((q72.2 1000000 ((x3 + (2 : Int32))).toNatClampNeg)).toInt64 &&& (Int64.ofNat 4294967295))) (q72.2 1000000 ((x3 + (3 : Int32))).toNatClampNeg) q72.2).bind fun q76 => (if q72.1 = q76.1 then (K q76.2) else (some ((0 : Int32), q76.2))))))))))) := by
  refine Ans_in k1 ?_
  refine Ans_in k2 ?_
  refine Ans_in k3 ?_
  refine Ans_two (ρ := σ 1000000) (eq_feed h _ _) (fr_f_X11_feed rfl) (fun q hq => ?_) hK
  rw [if_neg k1, if_neg k2, if_neg k3, hq]
theorem law_11 {xs : Nat → Int32} {L : Nat} {x3 : Int32} {σ : Sg} (h : Inv xs σ) (k1 : ¬ ((x3 + (1 : Int32)) < 0 ∨ L ≤ ((x3 + (1 : Int32))).toNatClampNeg)) {K : Sg → Option (Int32 × Sg)} (hK : ∀ σ2, Inv xs σ2 → Ans (K σ2)) : Ans (if (x3 + (1 : Int32)) < 0 ∨ L ≤ ((x3 + (1 : Int32))).toNatClampNeg then none else ((f_X11_text (σ 1000000 ((x3 + (1 : Int32))).toNatClampNeg) σ).bind fun q79 => (if (x3 + (1 : Int32)) < 0 ∨ L ≤ ((x3 + (1 : Int32))).toNatClampNeg then none else ((f_X12_text (q79.2 1000000 ((x3 + (1 : Int32))).toNatClampNeg) q79.2).bind fun q81 => (if q79.1 = q81.1 then (K q81.2) else (some ((0 : Int32), q81.2))))))) := by
  refine Ans_in k1 ?_
  refine Ans_two (ρ := σ 1000000) (eq_text h _) (fr_f_X11_text rfl) (fun q hq => ?_) hK
  rw [if_neg k1, hq]
theorem law_12 {xs : Nat → Int32} {L : Nat} {x3 : Int32} {σ : Sg} (h : Inv xs σ) (k1 : ¬ ((x3 + (1 : Int32)) < 0 ∨ L ≤ ((x3 + (1 : Int32))).toNatClampNeg)) (k2 : ¬ ((x3 + (2 : Int32)) < 0 ∨ L ≤ ((x3 + (2 : Int32))).toNatClampNeg)) (k3 : ¬ ((x3 + (3 : Int32)) < 0 ∨ L ≤ ((x3 + (3 : Int32))).toNatClampNeg)) (k4 : ¬ ((x3 + (4 : Int32)) < 0 ∨ L ≤ ((x3 + (4 : Int32))).toNatClampNeg)) (k5 : ¬ ((x3 + (5 : Int32)) < 0 ∨ L ≤ ((x3 + (5 : Int32))).toNatClampNeg)) {K : Sg → Option (Int32 × Sg)} (hK : ∀ σ2, Inv xs σ2 → Ans (K σ2)) : Ans (if (x3 + (1 : Int32)) < 0 ∨ L ≤ ((x3 + (1 : Int32))).toNatClampNeg then none else (if (x3 + (2 : Int32)) < 0 ∨ L ≤ ((x3 + (2 : Int32))).toNatClampNeg then none else (if (x3 + (3 : Int32)) < 0 ∨ L ≤ ((x3 + (3 : Int32))).toNatClampNeg then none else (if (x3 + (4 : Int32)) < 0 ∨ L ≤ ((x3 + (4 : Int32))).toNatClampNeg then none else (if (x3 + (5 : Int32)) < 0 ∨ L ≤ ((x3 + (5 : Int32))).toNatClampNeg then none else ((f_X11_law (σ 1000000 ((x3 + (1 : Int32))).toNatClampNeg) (σ 1000000 ((x3 + (2 : Int32))).toNatClampNeg) (σ 1000000 ((x3 + (3 : Int32))).toNatClampNeg) (σ 1000000 ((x3 + (4 : Int32))).toNatClampNeg) (σ 1000000 ((x3 + (5 : Int32))).toNatClampNeg) σ).bind fun q88 => (if (x3 + (1 : Int32)) < 0 ∨ L ≤ ((x3 + (1 : Int32))).toNatClampNeg then none else (if (x3 + (2 : Int32)) < 0 ∨ L ≤ ((x3 + (2 : Int32))).toNatClampNeg then none else (if (x3 + (3 : Int32)) < 0 ∨ L ≤ ((x3 + (3 : Int32))).toNatClampNeg then none else (if (x3 + (4 : Int32)) < 0 ∨ L ≤ ((x3 + (4 : Int32))).toNatClampNeg then none else (if (x3 + (5 : Int32)) < 0 ∨ L ≤ ((x3 + (5 : Int32))).toNatClampNeg then none else ((f_X12_law (q88.2 1000000 ((x3 + (1 : Int32))).toNatClampNeg) (q88.2 1000000 ((x3 + (2 : Int32))).toNatClampNeg) (q88.2 1000000 ((x3 + (3 : Int32))).toNatClampNeg) (q88.2 1000000 ((x3 + (4 : Int32))).toNatClampNeg) (q88.2 1000000 ((x3 + (5 : Int32))).toNatClampNeg) q88.2).bind fun q94 => (if q88.1 = q94.1 then (K q94.2) else (some ((0 : Int32), q94.2))))))))))))))) := by
  refine Ans_in k1 ?_
  refine Ans_in k2 ?_
  refine Ans_in k3 ?_
  refine Ans_in k4 ?_
  refine Ans_in k5 ?_
  refine Ans_two (ρ := σ 1000000) (eq_law h _ _ _ _ _) (fr_f_X11_law rfl) (fun q hq => ?_) hK
  rw [if_neg k1, if_neg k2, if_neg k3, if_neg k4, if_neg k5, hq]
theorem law_13 {xs : Nat → Int32} {L : Nat} {x3 : Int32} {σ : Sg} (h : Inv xs σ) (k1 : ¬ ((x3 + (1 : Int32)) < 0 ∨ L ≤ ((x3 + (1 : Int32))).toNatClampNeg)) {K : Sg → Option (Int32 × Sg)} (hK : ∀ σ2, Inv xs σ2 → Ans (K σ2)) : Ans (if (x3 + (1 : Int32)) < 0 ∨ L ≤ ((x3 + (1 : Int32))).toNatClampNeg then none else ((f_X11_days (σ 1000000 ((x3 + (1 : Int32))).toNatClampNeg) σ).bind fun q97 => (if (x3 + (1 : Int32)) < 0 ∨ L ≤ ((x3 + (1 : Int32))).toNatClampNeg then none else ((f_X12_days (q97.2 1000000 ((x3 + (1 : Int32))).toNatClampNeg) q97.2).bind fun q99 => (if q97.1 = q99.1 then (K q99.2) else (some ((0 : Int32), q99.2))))))) := by
  refine Ans_in k1 ?_
  refine Ans_two (ρ := σ 1000000) (eq_days h _) (fr_f_X11_days rfl) (fun q hq => ?_) hK
  rw [if_neg k1, hq]
theorem law_14 {xs : Nat → Int32} {L : Nat} {x3 : Int32} {σ : Sg} (h : Inv xs σ) (k1 : ¬ ((x3 + (1 : Int32)) < 0 ∨ L ≤ ((x3 + (1 : Int32))).toNatClampNeg)) {K : Sg → Option (Int32 × Sg)} (hK : ∀ σ2, Inv xs σ2 → Ans (K σ2)) : Ans (if (x3 + (1 : Int32)) < 0 ∨ L ≤ ((x3 + (1 : Int32))).toNatClampNeg then none else ((f_X11_floods (σ 1000000 ((x3 + (1 : Int32))).toNatClampNeg) σ).bind fun q102 => (if (x3 + (1 : Int32)) < 0 ∨ L ≤ ((x3 + (1 : Int32))).toNatClampNeg then none else ((f_X12_floods (q102.2 1000000 ((x3 + (1 : Int32))).toNatClampNeg) q102.2).bind fun q104 => (if q102.1 = q104.1 then (K q104.2) else (some ((0 : Int32), q104.2))))))) := by
  refine Ans_in k1 ?_
  refine Ans_two (ρ := σ 1000000) (eq_floods h _) (fr_f_X11_floods rfl) (fun q hq => ?_) hK
  rw [if_neg k1, hq]
theorem law_15 {xs : Nat → Int32} {L : Nat} {x3 : Int32} {σ : Sg} (h : Inv xs σ) (k1 : ¬ ((x3 + (1 : Int32)) < 0 ∨ L ≤ ((x3 + (1 : Int32))).toNatClampNeg)) (k2 : ¬ ((x3 + (2 : Int32)) < 0 ∨ L ≤ ((x3 + (2 : Int32))).toNatClampNeg)) (k3 : ¬ ((x3 + (3 : Int32)) < 0 ∨ L ≤ ((x3 + (3 : Int32))).toNatClampNeg)) {K : Sg → Option (Int32 × Sg)} (hK : ∀ σ2, Inv xs σ2 → Ans (K σ2)) : Ans (if (x3 + (1 : Int32)) < 0 ∨ L ≤ ((x3 + (1 : Int32))).toNatClampNeg then none else (if (x3 + (2 : Int32)) < 0 ∨ L ≤ ((x3 + (2 : Int32))).toNatClampNeg then none else (if (x3 + (3 : Int32)) < 0 ∨ L ≤ ((x3 + (3 : Int32))).toNatClampNeg then none else ((f_X11_then (σ 1000000 ((x3 + (1 : Int32))).toNatClampNeg) (σ 1000000 ((x3 + (2 : Int32))).toNatClampNeg) (σ 1000000 ((x3 + (3 : Int32))).toNatClampNeg) σ).bind fun q109 => (if (x3 + (1 : Int32)) < 0 ∨ L ≤ ((x3 + (1 : Int32))).toNatClampNeg then none else (if (x3 + (2 : Int32)) < 0 ∨ L ≤ ((x3 + (2 : Int32))).toNatClampNeg then none else (if (x3 + (3 : Int32)) < 0 ∨ L ≤ ((x3 + (3 : Int32))).toNatClampNeg then none else ((f_X12_then (q109.2 1000000 ((x3 + (1 : Int32))).toNatClampNeg) (q109.2 1000000 ((x3 + (2 : Int32))).toNatClampNeg) (q109.2 1000000 ((x3 + (3 : Int32))).toNatClampNeg) q109.2).bind fun q113 => (if q109.1 = q113.1 then (K q113.2) else (some ((0 : Int32), q113.2))))))))))) := by
  refine Ans_in k1 ?_
  refine Ans_in k2 ?_
  refine Ans_in k3 ?_
  refine Ans_two (ρ := σ 1000000) (eq_then h _ _ _) (fr_f_X11_then rfl) (fun q hq => ?_) hK
  rw [if_neg k1, if_neg k2, if_neg k3, hq]
theorem law_16 {xs : Nat → Int32} {L : Nat} {x3 : Int32} {σ : Sg} (h : Inv xs σ) (k1 : ¬ ((x3 + (1 : Int32)) < 0 ∨ L ≤ ((x3 + (1 : Int32))).toNatClampNeg)) (k2 : ¬ ((x3 + (2 : Int32)) < 0 ∨ L ≤ ((x3 + (2 : Int32))).toNatClampNeg)) {K : Sg → Option (Int32 × Sg)} (hK : ∀ σ2, Inv xs σ2 → Ans (K σ2)) : Ans (if (x3 + (1 : Int32)) < 0 ∨ L ≤ ((x3 + (1 : Int32))).toNatClampNeg then none else (if (x3 + (2 : Int32)) < 0 ∨ L ≤ ((x3 + (2 : Int32))).toNatClampNeg then none else ((f_X11_in (σ 1000000 ((x3 + (1 : Int32))).toNatClampNeg) (σ 1000000 ((x3 + (2 : Int32))).toNatClampNeg) σ).bind fun q117 => (if (x3 + (1 : Int32)) < 0 ∨ L ≤ ((x3 + (1 : Int32))).toNatClampNeg then none else (if (x3 + (2 : Int32)) < 0 ∨ L ≤ ((x3 + (2 : Int32))).toNatClampNeg then none else ((f_X12_in (q117.2 1000000 ((x3 + (1 : Int32))).toNatClampNeg) (q117.2 1000000 ((x3 + (2 : Int32))).toNatClampNeg) q117.2).bind fun q120 => (if q117.1 = q120.1 then (K q120.2) else (some ((0 : Int32), q120.2))))))))) := by
  refine Ans_in k1 ?_
  refine Ans_in k2 ?_
  refine Ans_two (ρ := σ 1000000) (eq_in h _ _) (fr_f_X11_in rfl) (fun q hq => ?_) hK
  rw [if_neg k1, if_neg k2, hq]
theorem law_17 {xs : Nat → Int32} {L : Nat} {x3 : Int32} {σ : Sg} (h : Inv xs σ) (k1 : ¬ ((x3 + (1 : Int32)) < 0 ∨ L ≤ ((x3 + (1 : Int32))).toNatClampNeg)) (k2 : ¬ ((x3 + (2 : Int32)) < 0 ∨ L ≤ ((x3 + (2 : Int32))).toNatClampNeg)) (k3 : ¬ ((x3 + (3 : Int32)) < 0 ∨ L ≤ ((x3 + (3 : Int32))).toNatClampNeg)) {K : Sg → Option (Int32 × Sg)} (hK : ∀ σ2, Inv xs σ2 → Ans (K σ2)) : Ans (if (x3 + (1 : Int32)) < 0 ∨ L ≤ ((x3 + (1 : Int32))).toNatClampNeg then none else (if (x3 + (2 : Int32)) < 0 ∨ L ≤ ((x3 + (2 : Int32))).toNatClampNeg then none else (if (x3 + (3 : Int32)) < 0 ∨ L ≤ ((x3 + (3 : Int32))).toNatClampNeg then none else ((f_X11_seen (σ 1000000 ((x3 + (1 : Int32))).toNatClampNeg) (σ 1000000 ((x3 + (2 : Int32))).toNatClampNeg) (σ 1000000 ((x3 + (3 : Int32))).toNatClampNeg) σ).bind fun q125 => (if (x3 + (1 : Int32)) < 0 ∨ L ≤ ((x3 + (1 : Int32))).toNatClampNeg then none else (if (x3 + (2 : Int32)) < 0 ∨ L ≤ ((x3 + (2 : Int32))).toNatClampNeg then none else (if (x3 + (3 : Int32)) < 0 ∨ L ≤ ((x3 + (3 : Int32))).toNatClampNeg then none else ((f_X12_seen (q125.2 1000000 ((x3 + (1 : Int32))).toNatClampNeg) (q125.2 1000000 ((x3 + (2 : Int32))).toNatClampNeg) (q125.2 1000000 ((x3 + (3 : Int32))).toNatClampNeg) q125.2).bind fun q129 => (if q125.1 = q129.1 then (K q129.2) else (some ((0 : Int32), q129.2))))))))))) := by
  refine Ans_in k1 ?_
  refine Ans_in k2 ?_
  refine Ans_in k3 ?_
  refine Ans_two (ρ := σ 1000000) (eq_seen h _ _ _) (fr_f_X11_seen rfl) (fun q hq => ?_) hK
  rw [if_neg k1, if_neg k2, if_neg k3, hq]
theorem law_18 {xs : Nat → Int32} {L : Nat} {x3 : Int32} {σ : Sg} (h : Inv xs σ) (k1 : ¬ ((x3 + (1 : Int32)) < 0 ∨ L ≤ ((x3 + (1 : Int32))).toNatClampNeg)) (k2 : ¬ ((x3 + (2 : Int32)) < 0 ∨ L ≤ ((x3 + (2 : Int32))).toNatClampNeg)) {K : Sg → Option (Int32 × Sg)} (hK : ∀ σ2, Inv xs σ2 → Ans (K σ2)) : Ans (if (x3 + (1 : Int32)) < 0 ∨ L ≤ ((x3 + (1 : Int32))).toNatClampNeg then none else (if (x3 + (2 : Int32)) < 0 ∨ L ≤ ((x3 + (2 : Int32))).toNatClampNeg then none else ((f_X11_round (σ 1000000 ((x3 + (1 : Int32))).toNatClampNeg) (σ 1000000 ((x3 + (2 : Int32))).toNatClampNeg) σ).bind fun q133 => (if (x3 + (1 : Int32)) < 0 ∨ L ≤ ((x3 + (1 : Int32))).toNatClampNeg then none else (if (x3 + (2 : Int32)) < 0 ∨ L ≤ ((x3 + (2 : Int32))).toNatClampNeg then none else ((f_X12_round (q133.2 1000000 ((x3 + (1 : Int32))).toNatClampNeg) (q133.2 1000000 ((x3 + (2 : Int32))).toNatClampNeg) q133.2).bind fun q136 => (if q133.1 = q136.1 then (K q136.2) else (some ((0 : Int32), q136.2))))))))) := by
  refine Ans_in k1 ?_
  refine Ans_in k2 ?_
  refine Ans_two (ρ := σ 1000000) (eq_round h _ _) (fr_f_X11_round rfl) (fun q hq => ?_) hK
  rw [if_neg k1, if_neg k2, hq]
theorem law_19 {xs : Nat → Int32} {L : Nat} {x3 : Int32} {σ : Sg} (h : Inv xs σ) (k1 : ¬ ((x3 + (1 : Int32)) < 0 ∨ L ≤ ((x3 + (1 : Int32))).toNatClampNeg)) (k2 : ¬ ((x3 + (2 : Int32)) < 0 ∨ L ≤ ((x3 + (2 : Int32))).toNatClampNeg)) (k3 : ¬ ((x3 + (3 : Int32)) < 0 ∨ L ≤ ((x3 + (3 : Int32))).toNatClampNeg)) {K : Sg → Option (Int32 × Sg)} (hK : ∀ σ2, Inv xs σ2 → Ans (K σ2)) : Ans (if (x3 + (1 : Int32)) < 0 ∨ L ≤ ((x3 + (1 : Int32))).toNatClampNeg then none else (if (x3 + (2 : Int32)) < 0 ∨ L ≤ ((x3 + (2 : Int32))).toNatClampNeg then none else (if (x3 + (3 : Int32)) < 0 ∨ L ≤ ((x3 + (3 : Int32))).toNatClampNeg then none else ((f_X11_soon (σ 1000000 ((x3 + (1 : Int32))).toNatClampNeg) (σ 1000000 ((x3 + (2 : Int32))).toNatClampNeg) (σ 1000000 ((x3 + (3 : Int32))).toNatClampNeg) σ).bind fun q141 => (if (x3 + (1 : Int32)) < 0 ∨ L ≤ ((x3 + (1 : Int32))).toNatClampNeg then none else (if (x3 + (2 : Int32)) < 0 ∨ L ≤ ((x3 + (2 : Int32))).toNatClampNeg then none else (if (x3 + (3 : Int32)) < 0 ∨ L ≤ ((x3 + (3 : Int32))).toNatClampNeg then none else ((f_X12_soon (q141.2 1000000 ((x3 + (1 : Int32))).toNatClampNeg) (q141.2 1000000 ((x3 + (2 : Int32))).toNatClampNeg) (q141.2 1000000 ((x3 + (3 : Int32))).toNatClampNeg) q141.2).bind fun q145 => (if q141.1 = q145.1 then (K q145.2) else (some ((0 : Int32), q145.2))))))))))) := by
  refine Ans_in k1 ?_
  refine Ans_in k2 ?_
  refine Ans_in k3 ?_
  refine Ans_two (ρ := σ 1000000) (eq_soon h _ _ _) (fr_f_X11_soon rfl) (fun q hq => ?_) hK
  rw [if_neg k1, if_neg k2, if_neg k3, hq]
theorem law_20 {xs : Nat → Int32} {L : Nat} {x3 : Int32} {σ : Sg} (h : Inv xs σ) (k1 : ¬ ((x3 + (1 : Int32)) < 0 ∨ L ≤ ((x3 + (1 : Int32))).toNatClampNeg)) (k2 : ¬ ((x3 + (2 : Int32)) < 0 ∨ L ≤ ((x3 + (2 : Int32))).toNatClampNeg)) (k3 : ¬ ((x3 + (3 : Int32)) < 0 ∨ L ≤ ((x3 + (3 : Int32))).toNatClampNeg)) {K : Sg → Option (Int32 × Sg)} (hK : ∀ σ2, Inv xs σ2 → Ans (K σ2)) : Ans (if (x3 + (1 : Int32)) < 0 ∨ L ≤ ((x3 + (1 : Int32))).toNatClampNeg then none else (if (x3 + (2 : Int32)) < 0 ∨ L ≤ ((x3 + (2 : Int32))).toNatClampNeg then none else (if (x3 + (3 : Int32)) < 0 ∨ L ≤ ((x3 + (3 : Int32))).toNatClampNeg then none else ((f_X11_cheap (σ 1000000 ((x3 + (1 : Int32))).toNatClampNeg) (σ 1000000 ((x3 + (2 : Int32))).toNatClampNeg) (σ 1000000 ((x3 + (3 : Int32))).toNatClampNeg) σ).bind fun q150 => (if (x3 + (1 : Int32)) < 0 ∨ L ≤ ((x3 + (1 : Int32))).toNatClampNeg then none else (if (x3 + (2 : Int32)) < 0 ∨ L ≤ ((x3 + (2 : Int32))).toNatClampNeg then none else (if (x3 + (3 : Int32)) < 0 ∨ L ≤ ((x3 + (3 : Int32))).toNatClampNeg then none else ((f_X12_cheap (q150.2 1000000 ((x3 + (1 : Int32))).toNatClampNeg) (q150.2 1000000 ((x3 + (2 : Int32))).toNatClampNeg) (q150.2 1000000 ((x3 + (3 : Int32))).toNatClampNeg) q150.2).bind fun q154 => (if q150.1 = q154.1 then (K q154.2) else (some ((0 : Int32), q154.2))))))))))) := by
  refine Ans_in k1 ?_
  refine Ans_in k2 ?_
  refine Ans_in k3 ?_
  refine Ans_two (ρ := σ 1000000) (eq_cheap h _ _ _) (fr_f_X11_cheap rfl) (fun q hq => ?_) hK
  rw [if_neg k1, if_neg k2, if_neg k3, hq]
theorem law_21 {xs : Nat → Int32} {L : Nat} {x3 : Int32} {σ : Sg} (h : Inv xs σ) (k1 : ¬ ((x3 + (1 : Int32)) < 0 ∨ L ≤ ((x3 + (1 : Int32))).toNatClampNeg)) {K : Sg → Option (Int32 × Sg)} (hK : ∀ σ2, Inv xs σ2 → Ans (K σ2)) : Ans (if (x3 + (1 : Int32)) < 0 ∨ L ≤ ((x3 + (1 : Int32))).toNatClampNeg then none else ((f_X11_rings (σ 1000000 ((x3 + (1 : Int32))).toNatClampNeg) σ).bind fun q157 => (if (x3 + (1 : Int32)) < 0 ∨ L ≤ ((x3 + (1 : Int32))).toNatClampNeg then none else ((f_X12_rings (q157.2 1000000 ((x3 + (1 : Int32))).toNatClampNeg) q157.2).bind fun q159 => (if q157.1 = q159.1 then (K q159.2) else (some ((0 : Int32), q159.2))))))) := by
  refine Ans_in k1 ?_
  refine Ans_two (ρ := σ 1000000) (eq_rings h _) (fr_f_X11_rings rfl) (fun q hq => ?_) hK
  rw [if_neg k1, hq]
theorem law_22 {xs : Nat → Int32} {L : Nat} {x3 : Int32} {σ : Sg} (h : Inv xs σ) (k1 : ¬ ((x3 + (1 : Int32)) < 0 ∨ L ≤ ((x3 + (1 : Int32))).toNatClampNeg)) (k2 : ¬ ((x3 + (2 : Int32)) < 0 ∨ L ≤ ((x3 + (2 : Int32))).toNatClampNeg)) {K : Sg → Option (Int32 × Sg)} (hK : ∀ σ2, Inv xs σ2 → Ans (K σ2)) : Ans (if (x3 + (1 : Int32)) < 0 ∨ L ≤ ((x3 + (1 : Int32))).toNatClampNeg then none else (if (x3 + (2 : Int32)) < 0 ∨ L ≤ ((x3 + (2 : Int32))).toNatClampNeg then none else ((f_X11_meet (σ 1000000 ((x3 + (1 : Int32))).toNatClampNeg) (σ 1000000 ((x3 + (2 : Int32))).toNatClampNeg) σ).bind fun q163 => (if (x3 + (1 : Int32)) < 0 ∨ L ≤ ((x3 + (1 : Int32))).toNatClampNeg then none else (if (x3 + (2 : Int32)) < 0 ∨ L ≤ ((x3 + (2 : Int32))).toNatClampNeg then none else ((f_X12_meet (q163.2 1000000 ((x3 + (1 : Int32))).toNatClampNeg) (q163.2 1000000 ((x3 + (2 : Int32))).toNatClampNeg) q163.2).bind fun q166 => (if q163.1 = q166.1 then (K q166.2) else (some ((0 : Int32), q166.2))))))))) := by
  refine Ans_in k1 ?_
  refine Ans_in k2 ?_
  refine Ans_two (ρ := σ 1000000) (eq_meet h _ _) (fr_f_X11_meet rfl) (fun q hq => ?_) hK
  rw [if_neg k1, if_neg k2, hq]
theorem law_23 {xs : Nat → Int32} {L : Nat} {x3 : Int32} {σ : Sg} (h : Inv xs σ)  {K : Sg → Option (Int32 × Sg)} (hK : ∀ σ2, Inv xs σ2 → Ans (K σ2)) : Ans ((f_X11_tenth  σ).bind fun q168 => ((f_X12_tenth  q168.2).bind fun q169 => (if q168.1 = q169.1 then (K q169.2) else (some ((0 : Int32), q169.2))))) := by
  refine Ans_two (ρ := σ 1000000) (eq_tenth h) (fr_f_X11_tenth rfl) (fun q hq => ?_) hK
  rfl
theorem law_24 {xs : Nat → Int32} {L : Nat} {x3 : Int32} {σ : Sg} (h : Inv xs σ) (k1 : ¬ ((x3 + (1 : Int32)) < 0 ∨ L ≤ ((x3 + (1 : Int32))).toNatClampNeg)) (k2 : ¬ ((x3 + (2 : Int32)) < 0 ∨ L ≤ ((x3 + (2 : Int32))).toNatClampNeg)) (k3 : ¬ ((x3 + (3 : Int32)) < 0 ∨ L ≤ ((x3 + (3 : Int32))).toNatClampNeg)) {K : Sg → Option (Int32 × Sg)} (hK : ∀ σ2, Inv xs σ2 → Ans (K σ2)) : Ans (if (x3 + (1 : Int32)) < 0 ∨ L ≤ ((x3 + (1 : Int32))).toNatClampNeg then none else (if (x3 + (2 : Int32)) < 0 ∨ L ≤ ((x3 + (2 : Int32))).toNatClampNeg then none else (if (x3 + (3 : Int32)) < 0 ∨ L ≤ ((x3 + (3 : Int32))).toNatClampNeg then none else ((f_X11_find (σ 1000000 ((x3 + (1 : Int32))).toNatClampNeg) (σ 1000000 ((x3 + (2 : Int32))).toNatClampNeg) (σ 1000000 ((x3 + (3 : Int32))).toNatClampNeg) σ).bind fun q174 => (if (x3 + (1 : Int32)) < 0 ∨ L ≤ ((x3 + (1 : Int32))).toNatClampNeg then none else (if (x3 + (2 : Int32)) < 0 ∨ L ≤ ((x3 + (2 : Int32))).toNatClampNeg then none else (if (x3 + (3 : Int32)) < 0 ∨ L ≤ ((x3 + (3 : Int32))).toNatClampNeg then none else ((f_X12_find (q174.2 1000000 ((x3 + (1 : Int32))).toNatClampNeg) (q174.2 1000000 ((x3 + (2 : Int32))).toNatClampNeg) (q174.2 1000000 ((x3 + (3 : Int32))).toNatClampNeg) q174.2).bind fun q178 => (if q174.1 = q178.1 then (K q178.2) else (some ((0 : Int32), q178.2))))))))))) := by
  refine Ans_in k1 ?_
  refine Ans_in k2 ?_
  refine Ans_in k3 ?_
  refine Ans_two (ρ := σ 1000000) (eq_find h _ _ _) (fr_f_X11_find rfl) (fun q hq => ?_) hK
  rw [if_neg k1, if_neg k2, if_neg k3, hq]
theorem law_25 {xs : Nat → Int32} {L : Nat} {x3 : Int32} {σ : Sg} (h : Inv xs σ)  {K : Sg → Option (Int32 × Sg)} (hK : ∀ σ2, Inv xs σ2 → Ans (K σ2)) : Ans ((f_X11_forget  σ).bind fun q180 => ((f_X12_forget  q180.2).bind fun q181 => (if q180.1 = q181.1 then (K q181.2) else (some ((0 : Int32), q181.2))))) := by
  refine Ans_two (ρ := σ 1000000) (eq_forget h) (fr_f_X11_forget rfl) (fun q hq => ?_) hK
  rfl
theorem law_26 {xs : Nat → Int32} {L : Nat} {x3 : Int32} {σ : Sg} (h : Inv xs σ) (k1 : ¬ ((x3 + (1 : Int32)) < 0 ∨ L ≤ ((x3 + (1 : Int32))).toNatClampNeg)) {K : Sg → Option (Int32 × Sg)} (hK : ∀ σ2, Inv xs σ2 → Ans (K σ2)) : Ans (if (x3 + (1 : Int32)) < 0 ∨ L ≤ ((x3 + (1 : Int32))).toNatClampNeg then none else ((f_X11_agrees (σ 1000000 ((x3 + (1 : Int32))).toNatClampNeg) σ).bind fun q184 => (if (x3 + (1 : Int32)) < 0 ∨ L ≤ ((x3 + (1 : Int32))).toNatClampNeg then none else ((f_X12_agrees (q184.2 1000000 ((x3 + (1 : Int32))).toNatClampNeg) q184.2).bind fun q186 => (if q184.1 = q186.1 then (K q186.2) else (some ((0 : Int32), q186.2))))))) := by
  refine Ans_in k1 ?_
  refine Ans_two (ρ := σ 1000000) (eq_agrees h _) (fr_f_X11_agrees rfl) (fun q hq => ?_) hK
  rw [if_neg k1, hq]
theorem law_27 {xs : Nat → Int32} {L : Nat} {x3 : Int32} {σ : Sg} (h : Inv xs σ) (k1 : ¬ ((x3 + (1 : Int32)) < 0 ∨ L ≤ ((x3 + (1 : Int32))).toNatClampNeg)) (k2 : ¬ ((x3 + (2 : Int32)) < 0 ∨ L ≤ ((x3 + (2 : Int32))).toNatClampNeg)) (k3 : ¬ ((x3 + (3 : Int32)) < 0 ∨ L ≤ ((x3 + (3 : Int32))).toNatClampNeg)) {K : Sg → Option (Int32 × Sg)} (hK : ∀ σ2, Inv xs σ2 → Ans (K σ2)) : Ans (if (x3 + (1 : Int32)) < 0 ∨ L ≤ ((x3 + (1 : Int32))).toNatClampNeg then none else (if (x3 + (2 : Int32)) < 0 ∨ L ≤ ((x3 + (2 : Int32))).toNatClampNeg then none else (if (x3 + (3 : Int32)) < 0 ∨ L ≤ ((x3 + (3 : Int32))).toNatClampNeg then none else ((f_X11_belows (σ 1000000 ((x3 + (1 : Int32))).toNatClampNeg) (σ 1000000 ((x3 + (2 : Int32))).toNatClampNeg) (σ 1000000 ((x3 + (3 : Int32))).toNatClampNeg) σ).bind fun q191 => (if (x3 + (1 : Int32)) < 0 ∨ L ≤ ((x3 + (1 : Int32))).toNatClampNeg then none else (if (x3 + (2 : Int32)) < 0 ∨ L ≤ ((x3 + (2 : Int32))).toNatClampNeg then none else (if (x3 + (3 : Int32)) < 0 ∨ L ≤ ((x3 + (3 : Int32))).toNatClampNeg then none else ((f_X12_belows (q191.2 1000000 ((x3 + (1 : Int32))).toNatClampNeg) (q191.2 1000000 ((x3 + (2 : Int32))).toNatClampNeg) (q191.2 1000000 ((x3 + (3 : Int32))).toNatClampNeg) q191.2).bind fun q195 => (if q191.1 = q195.1 then (K q195.2) else (some ((0 : Int32), q195.2))))))))))) := by
  refine Ans_in k1 ?_
  refine Ans_in k2 ?_
  refine Ans_in k3 ?_
  refine Ans_two (ρ := σ 1000000) (eq_belows h _ _ _) (fr_f_X11_belows rfl) (fun q hq => ?_) hK
  rw [if_neg k1, if_neg k2, if_neg k3, hq]
theorem law_28 {xs : Nat → Int32} {L : Nat} {x3 : Int32} {σ : Sg} (h : Inv xs σ) (k1 : ¬ ((x3 + (1 : Int32)) < 0 ∨ L ≤ ((x3 + (1 : Int32))).toNatClampNeg)) (k2 : ¬ ((x3 + (2 : Int32)) < 0 ∨ L ≤ ((x3 + (2 : Int32))).toNatClampNeg)) (k3 : ¬ ((x3 + (3 : Int32)) < 0 ∨ L ≤ ((x3 + (3 : Int32))).toNatClampNeg)) (k4 : ¬ ((x3 + (4 : Int32)) < 0 ∨ L ≤ ((x3 + (4 : Int32))).toNatClampNeg)) {K : Sg → Option (Int32 × Sg)} (hK : ∀ σ2, Inv xs σ2 → Ans (K σ2)) : Ans (if (x3 + (1 : Int32)) < 0 ∨ L ≤ ((x3 + (1 : Int32))).toNatClampNeg then none else (if (x3 + (2 : Int32)) < 0 ∨ L ≤ ((x3 + (2 : Int32))).toNatClampNeg then none else (if (x3 + (3 : Int32)) < 0 ∨ L ≤ ((x3 + (3 : Int32))).toNatClampNeg then none else (if (x3 + (4 : Int32)) < 0 ∨ L ≤ ((x3 + (4 : Int32))).toNatClampNeg then none else ((f_X11_cork (σ 1000000 ((x3 + (1 : Int32))).toNatClampNeg) (σ 1000000 ((x3 + (2 : Int32))).toNatClampNeg) (σ 1000000 ((x3 + (3 : Int32))).toNatClampNeg) (σ 1000000 ((x3 + (4 : Int32))).toNatClampNeg) σ).bind fun q201 => (if (x3 + (1 : Int32)) < 0 ∨ L ≤ ((x3 + (1 : Int32))).toNatClampNeg then none else (if (x3 + (2 : Int32)) < 0 ∨ L ≤ ((x3 + (2 : Int32))).toNatClampNeg then none else (if (x3 + (3 : Int32)) < 0 ∨ L ≤ ((x3 + (3 : Int32))).toNatClampNeg then none else (if (x3 + (4 : Int32)) < 0 ∨ L ≤ ((x3 + (4 : Int32))).toNatClampNeg then none else ((f_X12_cork (q201.2 1000000 ((x3 + (1 : Int32))).toNatClampNeg) (q201.2 1000000 ((x3 + (2 : Int32))).toNatClampNeg) (q201.2 1000000 ((x3 + (3 : Int32))).toNatClampNeg) (q201.2 1000000 ((x3 + (4 : Int32))).toNatClampNeg) q201.2).bind fun q206 => (if q201.1 = q206.1 then (K q206.2) else (some ((0 : Int32), q206.2))))))))))))) := by
  refine Ans_in k1 ?_
  refine Ans_in k2 ?_
  refine Ans_in k3 ?_
  refine Ans_in k4 ?_
  refine Ans_two (ρ := σ 1000000) (eq_cork h _ _ _ _) (fr_f_X11_cork rfl) (fun q hq => ?_) hK
  rw [if_neg k1, if_neg k2, if_neg k3, if_neg k4, hq]
theorem law_29 {xs : Nat → Int32} {L : Nat} {x3 : Int32} {σ : Sg} (h : Inv xs σ) (k1 : ¬ ((x3 + (1 : Int32)) < 0 ∨ L ≤ ((x3 + (1 : Int32))).toNatClampNeg)) {K : Sg → Option (Int32 × Sg)} (hK : ∀ σ2, Inv xs σ2 → Ans (K σ2)) : Ans (if (x3 + (1 : Int32)) < 0 ∨ L ≤ ((x3 + (1 : Int32))).toNatClampNeg then none else ((f_X11_seed (σ 1000000 ((x3 + (1 : Int32))).toNatClampNeg) σ).bind fun q209 => (if (x3 + (1 : Int32)) < 0 ∨ L ≤ ((x3 + (1 : Int32))).toNatClampNeg then none else ((f_X12_seed (q209.2 1000000 ((x3 + (1 : Int32))).toNatClampNeg) q209.2).bind fun q211 => (if q209.1 = q211.1 then (K q211.2) else (some ((0 : Int32), q211.2))))))) := by
  refine Ans_in k1 ?_
  refine Ans_two (ρ := σ 1000000) (eq_seed h _) (fr_f_X11_seed rfl) (fun q hq => ?_) hK
  rw [if_neg k1, hq]
theorem law_30 {xs : Nat → Int32} {L : Nat} {x3 : Int32} {σ : Sg} (h : Inv xs σ) (k1 : ¬ ((x3 + (1 : Int32)) < 0 ∨ L ≤ ((x3 + (1 : Int32))).toNatClampNeg)) (k2 : ¬ ((x3 + (2 : Int32)) < 0 ∨ L ≤ ((x3 + (2 : Int32))).toNatClampNeg)) (k3 : ¬ ((x3 + (3 : Int32)) < 0 ∨ L ≤ ((x3 + (3 : Int32))).toNatClampNeg)) {K : Sg → Option (Int32 × Sg)} (hK : ∀ σ2, Inv xs σ2 → Ans (K σ2)) : Ans (if (x3 + (1 : Int32)) < 0 ∨ L ≤ ((x3 + (1 : Int32))).toNatClampNeg then none else (if (x3 + (2 : Int32)) < 0 ∨ L ≤ ((x3 + (2 : Int32))).toNatClampNeg then none else (if (x3 + (3 : Int32)) < 0 ∨ L ≤ ((x3 + (3 : Int32))).toNatClampNeg then none else ((f_X11_voice (σ 1000000 ((x3 + (1 : Int32))).toNatClampNeg) (σ 1000000 ((x3 + (2 : Int32))).toNatClampNeg) (σ 1000000 ((x3 + (3 : Int32))).toNatClampNeg) σ).bind fun q216 => (if (x3 + (1 : Int32)) < 0 ∨ L ≤ ((x3 + (1 : Int32))).toNatClampNeg then none else (if (x3 + (2 : Int32)) < 0 ∨ L ≤ ((x3 + (2 : Int32))).toNatClampNeg then none else (if (x3 + (3 : Int32)) < 0 ∨ L ≤ ((x3 + (3 : Int32))).toNatClampNeg then none else ((f_X12_voice (q216.2 1000000 ((x3 + (1 : Int32))).toNatClampNeg) (q216.2 1000000 ((x3 + (2 : Int32))).toNatClampNeg) (q216.2 1000000 ((x3 + (3 : Int32))).toNatClampNeg) q216.2).bind fun q220 => (if q216.1 = q220.1 then (K q220.2) else (some ((0 : Int32), q220.2))))))))))) := by
  refine Ans_in k1 ?_
  refine Ans_in k2 ?_
  refine Ans_in k3 ?_
  refine Ans_two (ρ := σ 1000000) (eq_voice h _ _ _) (fr_f_X11_voice rfl) (fun q hq => ?_) hK
  rw [if_neg k1, if_neg k2, if_neg k3, hq]
theorem law_31 {xs : Nat → Int32} {L : Nat} {x3 : Int32} {σ : Sg} (h : Inv xs σ) (k1 : ¬ ((x3 + (1 : Int32)) < 0 ∨ L ≤ ((x3 + (1 : Int32))).toNatClampNeg)) {K : Sg → Option (Int32 × Sg)} (hK : ∀ σ2, Inv xs σ2 → Ans (K σ2)) : Ans (if (x3 + (1 : Int32)) < 0 ∨ L ≤ ((x3 + (1 : Int32))).toNatClampNeg then none else ((f_X11_trace (σ 1000000 ((x3 + (1 : Int32))).toNatClampNeg) σ).bind fun q223 => (if (x3 + (1 : Int32)) < 0 ∨ L ≤ ((x3 + (1 : Int32))).toNatClampNeg then none else ((f_X12_trace (q223.2 1000000 ((x3 + (1 : Int32))).toNatClampNeg) q223.2).bind fun q225 => (if q223.1 = q225.1 then (K q225.2) else (some ((0 : Int32), q225.2))))))) := by
  refine Ans_in k1 ?_
  refine Ans_two (ρ := σ 1000000) (eq_trace h _) (fr_f_X11_trace rfl) (fun q hq => ?_) hK
  rw [if_neg k1, hq]
theorem law_32 {xs : Nat → Int32} {L : Nat} {x3 : Int32} {σ : Sg} (h : Inv xs σ) (k1 : ¬ ((x3 + (1 : Int32)) < 0 ∨ L ≤ ((x3 + (1 : Int32))).toNatClampNeg)) (k2 : ¬ ((x3 + (2 : Int32)) < 0 ∨ L ≤ ((x3 + (2 : Int32))).toNatClampNeg)) (k3 : ¬ ((x3 + (3 : Int32)) < 0 ∨ L ≤ ((x3 + (3 : Int32))).toNatClampNeg)) {K : Sg → Option (Int32 × Sg)} (hK : ∀ σ2, Inv xs σ2 → Ans (K σ2)) : Ans (if (x3 + (1 : Int32)) < 0 ∨ L ≤ ((x3 + (1 : Int32))).toNatClampNeg then none else (if (x3 + (2 : Int32)) < 0 ∨ L ≤ ((x3 + (2 : Int32))).toNatClampNeg then none else (if (x3 + (3 : Int32)) < 0 ∨ L ≤ ((x3 + (3 : Int32))).toNatClampNeg then none else ((f_X11_sheet (σ 1000000 ((x3 + (1 : Int32))).toNatClampNeg) (σ 1000000 ((x3 + (2 : Int32))).toNatClampNeg) (σ 1000000 ((x3 + (3 : Int32))).toNatClampNeg) σ).bind fun q230 => (if (x3 + (1 : Int32)) < 0 ∨ L ≤ ((x3 + (1 : Int32))).toNatClampNeg then none else (if (x3 + (2 : Int32)) < 0 ∨ L ≤ ((x3 + (2 : Int32))).toNatClampNeg then none else (if (x3 + (3 : Int32)) < 0 ∨ L ≤ ((x3 + (3 : Int32))).toNatClampNeg then none else ((f_X12_sheet (q230.2 1000000 ((x3 + (1 : Int32))).toNatClampNeg) (q230.2 1000000 ((x3 + (2 : Int32))).toNatClampNeg) (q230.2 1000000 ((x3 + (3 : Int32))).toNatClampNeg) q230.2).bind fun q234 => (if q230.1 = q234.1 then (K q234.2) else (some ((0 : Int32), q234.2))))))))))) := by
  refine Ans_in k1 ?_
  refine Ans_in k2 ?_
  refine Ans_in k3 ?_
  refine Ans_two (ρ := σ 1000000) (eq_sheet h _ _ _) (fr_f_X11_sheet rfl) (fun q hq => ?_) hK
  rw [if_neg k1, if_neg k2, if_neg k3, hq]
theorem law_33 {xs : Nat → Int32} {L : Nat} {x3 : Int32} {σ : Sg} (h : Inv xs σ) (k1 : ¬ ((x3 + (1 : Int32)) < 0 ∨ L ≤ ((x3 + (1 : Int32))).toNatClampNeg)) (k2 : ¬ ((x3 + (2 : Int32)) < 0 ∨ L ≤ ((x3 + (2 : Int32))).toNatClampNeg)) (k3 : ¬ ((x3 + (3 : Int32)) < 0 ∨ L ≤ ((x3 + (3 : Int32))).toNatClampNeg)) {K : Sg → Option (Int32 × Sg)} (hK : ∀ σ2, Inv xs σ2 → Ans (K σ2)) : Ans (if (x3 + (1 : Int32)) < 0 ∨ L ≤ ((x3 + (1 : Int32))).toNatClampNeg then none else (if (x3 + (2 : Int32)) < 0 ∨ L ≤ ((x3 + (2 : Int32))).toNatClampNeg then none else (if (x3 + (3 : Int32)) < 0 ∨ L ≤ ((x3 + (3 : Int32))).toNatClampNeg then none else ((f_X11_put (σ 1000000 ((x3 + (1 : Int32))).toNatClampNeg) (σ 1000000 ((x3 + (2 : Int32))).toNatClampNeg) (σ 1000000 ((x3 + (3 : Int32))).toNatClampNeg) σ).bind fun q239 => (if (x3 + (1 : Int32)) < 0 ∨ L ≤ ((x3 + (1 : Int32))).toNatClampNeg then none else (if (x3 + (2 : Int32)) < 0 ∨ L ≤ ((x3 + (2 : Int32))).toNatClampNeg then none else (if (x3 + (3 : Int32)) < 0 ∨ L ≤ ((x3 + (3 : Int32))).toNatClampNeg then none else ((f_X12_put (q239.2 1000000 ((x3 + (1 : Int32))).toNatClampNeg) (q239.2 1000000 ((x3 + (2 : Int32))).toNatClampNeg) (q239.2 1000000 ((x3 + (3 : Int32))).toNatClampNeg) q239.2).bind fun q243 => (if q239.1 = q243.1 then (K q243.2) else (some ((0 : Int32), q243.2))))))))))) := by
  refine Ans_in k1 ?_
  refine Ans_in k2 ?_
  refine Ans_in k3 ?_
  refine Ans_two (ρ := σ 1000000) (eq_put h _ _ _) (fr_f_X11_put rfl) (fun q hq => ?_) hK
  rw [if_neg k1, if_neg k2, if_neg k3, hq]
theorem law_34 {xs : Nat → Int32} {L : Nat} {x3 : Int32} {σ : Sg} (h : Inv xs σ) (k1 : ¬ ((x3 + (1 : Int32)) < 0 ∨ L ≤ ((x3 + (1 : Int32))).toNatClampNeg)) (k2 : ¬ ((x3 + (2 : Int32)) < 0 ∨ L ≤ ((x3 + (2 : Int32))).toNatClampNeg)) (k3 : ¬ ((x3 + (3 : Int32)) < 0 ∨ L ≤ ((x3 + (3 : Int32))).toNatClampNeg)) (k4 : ¬ ((x3 + (4 : Int32)) < 0 ∨ L ≤ ((x3 + (4 : Int32))).toNatClampNeg)) (k5 : ¬ ((x3 + (5 : Int32)) < 0 ∨ L ≤ ((x3 + (5 : Int32))).toNatClampNeg)) {K : Sg → Option (Int32 × Sg)} (hK : ∀ σ2, Inv xs σ2 → Ans (K σ2)) : Ans (if (x3 + (1 : Int32)) < 0 ∨ L ≤ ((x3 + (1 : Int32))).toNatClampNeg then none else (if (x3 + (2 : Int32)) < 0 ∨ L ≤ ((x3 + (2 : Int32))).toNatClampNeg then none else (if (x3 + (3 : Int32)) < 0 ∨ L ≤ ((x3 + (3 : Int32))).toNatClampNeg then none else (if (x3 + (4 : Int32)) < 0 ∨ L ≤ ((x3 + (4 : Int32))).toNatClampNeg then none else (if (x3 + (5 : Int32)) < 0 ∨ L ≤ ((x3 + (5 : Int32))).toNatClampNeg then none else ((f_X11_move (σ 1000000 ((x3 + (1 : Int32))).toNatClampNeg) (σ 1000000 ((x3 + (2 : Int32))).toNatClampNeg) (σ 1000000 ((x3 + (3 : Int32))).toNatClampNeg) (σ 1000000 ((x3 + (4 : Int32))).toNatClampNeg) (σ 1000000 ((x3 + (5 : Int32))).toNatClampNeg) σ).bind fun q250 => (if (x3 + (1 : Int32)) < 0 ∨ L ≤ ((x3 + (1 : Int32))).toNatClampNeg then none else (if (x3 + (2 : Int32)) < 0 ∨ L ≤ ((x3 + (2 : Int32))).toNatClampNeg then none else (if (x3 + (3 : Int32)) < 0 ∨ L ≤ ((x3 + (3 : Int32))).toNatClampNeg then none else (if (x3 + (4 : Int32)) < 0 ∨ L ≤ ((x3 + (4 : Int32))).toNatClampNeg then none else (if (x3 + (5 : Int32)) < 0 ∨ L ≤ ((x3 + (5 : Int32))).toNatClampNeg then none else ((f_X12_move (q250.2 1000000 ((x3 + (1 : Int32))).toNatClampNeg) (q250.2 1000000 ((x3 + (2 : Int32))).toNatClampNeg) (q250.2 1000000 ((x3 + (3 : Int32))).toNatClampNeg) (q250.2 1000000 ((x3 + (4 : Int32))).toNatClampNeg) (q250.2 1000000 ((x3 + (5 : Int32))).toNatClampNeg) q250.2).bind fun q256 => (if q250.1 = q256.1 then (K q256.2) else (some ((0 : Int32), q256.2))))))))))))))) := by
  refine Ans_in k1 ?_
  refine Ans_in k2 ?_
  refine Ans_in k3 ?_
  refine Ans_in k4 ?_
  refine Ans_in k5 ?_
  refine Ans_two (ρ := σ 1000000) (eq_move h _ _ _ _ _) (fr_f_X11_move rfl) (fun q hq => ?_) hK
  rw [if_neg k1, if_neg k2, if_neg k3, if_neg k4, if_neg k5, hq]
theorem law_35 {xs : Nat → Int32} {L : Nat} {x3 : Int32} {σ : Sg} (h : Inv xs σ)  {K : Sg → Option (Int32 × Sg)} (hK : ∀ σ2, Inv xs σ2 → Ans (K σ2)) : Ans ((f_X11_image  σ).bind fun q258 => ((f_X12_image  q258.2).bind fun q259 => (if q258.1 = q259.1 then (K q259.2) else (some ((0 : Int32), q259.2))))) := by
  refine Ans_two (ρ := σ 1000000) (eq_image h) (fr_f_X11_image rfl) (fun q hq => ?_) hK
  rfl
theorem law_36 {xs : Nat → Int32} {L : Nat} {x3 : Int32} {σ : Sg} (h : Inv xs σ)  {K : Sg → Option (Int32 × Sg)} (hK : ∀ σ2, Inv xs σ2 → Ans (K σ2)) : Ans ((f_X11_restore  σ).bind fun q261 => ((f_X12_restore  q261.2).bind fun q262 => (if q261.1 = q262.1 then (K q262.2) else (some ((0 : Int32), q262.2))))) := by
  refine Ans_two (ρ := σ 1000000) (eq_restore h) (fr_f_X11_restore rfl) (fun q hq => ?_) hK
  rfl
theorem law_37 {xs : Nat → Int32} {L : Nat} {x3 : Int32} {σ : Sg} (h : Inv xs σ) (k1 : ¬ ((x3 + (1 : Int32)) < 0 ∨ L ≤ ((x3 + (1 : Int32))).toNatClampNeg)) {K : Sg → Option (Int32 × Sg)} (hK : ∀ σ2, Inv xs σ2 → Ans (K σ2)) : Ans (if (x3 + (1 : Int32)) < 0 ∨ L ≤ ((x3 + (1 : Int32))).toNatClampNeg then none else ((f_X11_tell (σ 1000000 ((x3 + (1 : Int32))).toNatClampNeg) σ).bind fun q265 => (if (x3 + (1 : Int32)) < 0 ∨ L ≤ ((x3 + (1 : Int32))).toNatClampNeg then none else ((f_X12_tell (q265.2 1000000 ((x3 + (1 : Int32))).toNatClampNeg) q265.2).bind fun q267 => (if q265.1 = q267.1 then (K q267.2) else (some ((0 : Int32), q267.2))))))) := by
  refine Ans_in k1 ?_
  refine Ans_two (ρ := σ 1000000) (eq_tell h _) (fr_f_X11_tell rfl) (fun q hq => ?_) hK
  rw [if_neg k1, hq]
theorem law_38 {xs : Nat → Int32} {L : Nat} {x3 : Int32} {σ : Sg} (h : Inv xs σ) (k1 : ¬ ((x3 + (1 : Int32)) < 0 ∨ L ≤ ((x3 + (1 : Int32))).toNatClampNeg)) {K : Sg → Option (Int32 × Sg)} (hK : ∀ σ2, Inv xs σ2 → Ans (K σ2)) : Ans (if (x3 + (1 : Int32)) < 0 ∨ L ≤ ((x3 + (1 : Int32))).toNatClampNeg then none else ((f_X11_check (σ 1000000 ((x3 + (1 : Int32))).toNatClampNeg) σ).bind fun q270 => (if (x3 + (1 : Int32)) < 0 ∨ L ≤ ((x3 + (1 : Int32))).toNatClampNeg then none else ((f_X12_check (q270.2 1000000 ((x3 + (1 : Int32))).toNatClampNeg) q270.2).bind fun q272 => (if q270.1 = q272.1 then (K q272.2) else (some ((0 : Int32), q272.2))))))) := by
  refine Ans_in k1 ?_
  refine Ans_two (ρ := σ 1000000) (eq_check h _) (fr_f_X11_check rfl) (fun q hq => ?_) hK
  rw [if_neg k1, hq]
theorem law_39 {xs : Nat → Int32} {L : Nat} {x3 : Int32} {σ : Sg} (h : Inv xs σ) (k1 : ¬ ((x3 + (1 : Int32)) < 0 ∨ L ≤ ((x3 + (1 : Int32))).toNatClampNeg)) {K : Sg → Option (Int32 × Sg)} (hK : ∀ σ2, Inv xs σ2 → Ans (K σ2)) : Ans (if (x3 + (1 : Int32)) < 0 ∨ L ≤ ((x3 + (1 : Int32))).toNatClampNeg then none else ((f_X11_count (σ 1000000 ((x3 + (1 : Int32))).toNatClampNeg) σ).bind fun q275 => (if (x3 + (1 : Int32)) < 0 ∨ L ≤ ((x3 + (1 : Int32))).toNatClampNeg then none else ((f_X12_count (q275.2 1000000 ((x3 + (1 : Int32))).toNatClampNeg) q275.2).bind fun q277 => (if q275.1 = q277.1 then (K q277.2) else (some ((0 : Int32), q277.2))))))) := by
  refine Ans_in k1 ?_
  refine Ans_two (ρ := σ 1000000) (eq_count h _) (fr_f_X11_count rfl) (fun q hq => ?_) hK
  rw [if_neg k1, hq]
theorem law_40 {xs : Nat → Int32} {L : Nat} {x3 : Int32} {σ : Sg} (h : Inv xs σ) (k1 : ¬ ((x3 + (1 : Int32)) < 0 ∨ L ≤ ((x3 + (1 : Int32))).toNatClampNeg)) {K : Sg → Option (Int32 × Sg)} (hK : ∀ σ2, Inv xs σ2 → Ans (K σ2)) : Ans (if (x3 + (1 : Int32)) < 0 ∨ L ≤ ((x3 + (1 : Int32))).toNatClampNeg then none else ((f_X11_told (σ 1000000 ((x3 + (1 : Int32))).toNatClampNeg) σ).bind fun q280 => (if (x3 + (1 : Int32)) < 0 ∨ L ≤ ((x3 + (1 : Int32))).toNatClampNeg then none else ((f_X12_told (q280.2 1000000 ((x3 + (1 : Int32))).toNatClampNeg) q280.2).bind fun q282 => (if q280.1 = q282.1 then (K q282.2) else (some ((0 : Int32), q282.2))))))) := by
  refine Ans_in k1 ?_
  refine Ans_two (ρ := σ 1000000) (eq_told h _) (fr_f_X11_told rfl) (fun q hq => ?_) hK
  rw [if_neg k1, hq]
set_option maxHeartbeats 4000000 in
theorem law_step {xs : Nat → Int32} {L n : Nat} {x3 : Int32} {σ : Sg} (h : Inv xs σ) (c1 : ¬ ((Int32.ofNat L) - (6 : Int32)) < x3) (k0 : ¬ (x3 < 0 ∨ L ≤ (x3).toNatClampNeg)) (k1 : ¬ ((x3 + (1 : Int32)) < 0 ∨ L ≤ ((x3 + (1 : Int32))).toNatClampNeg)) (k2 : ¬ ((x3 + (2 : Int32)) < 0 ∨ L ≤ ((x3 + (2 : Int32))).toNatClampNeg)) (k3 : ¬ ((x3 + (3 : Int32)) < 0 ∨ L ≤ ((x3 + (3 : Int32))).toNatClampNeg)) (k4 : ¬ ((x3 + (4 : Int32)) < 0 ∨ L ≤ ((x3 + (4 : Int32))).toNatClampNeg)) (k5 : ¬ ((x3 + (5 : Int32)) < 0 ∨ L ≤ ((x3 + (5 : Int32))).toNatClampNeg)) (hK : ∀ σ2, Inv xs σ2 → Ans (c_L_law_1555 (c_L_law_18 L n) L x3 σ2)) : Ans (c_L_law_18 L (n + 1) x3 σ) := by
  rw [c_L_law_18.eq_2]
  refine Ans_case (fun z => absurd z c1) (fun _ => ?_)
  refine Ans_in k0 ?_
  refine Ans_case (fun _ => law_0 (L := L) (x3 := x3) (K := c_L_law_1555 (c_L_law_18 L n) L x3) h hK) (fun _ => ?_)
  refine Ans_case (fun _ => law_1 (L := L) (x3 := x3) (K := c_L_law_1555 (c_L_law_18 L n) L x3) h k1 k2 k3 hK) (fun _ => ?_)
  refine Ans_case (fun _ => law_2 (L := L) (x3 := x3) (K := c_L_law_1555 (c_L_law_18 L n) L x3) h k1 k2 k3 hK) (fun _ => ?_)
  refine Ans_case (fun _ => law_3 (L := L) (x3 := x3) (K := c_L_law_1555 (c_L_law_18 L n) L x3) h k1 k2 hK) (fun _ => ?_)
  refine Ans_case (fun _ => law_4 (L := L) (x3 := x3) (K := c_L_law_1555 (c_L_law_18 L n) L x3) h k1 hK) (fun _ => ?_)
  refine Ans_case (fun _ => law_5 (L := L) (x3 := x3) (K := c_L_law_1555 (c_L_law_18 L n) L x3) h k1 k2 hK) (fun _ => ?_)
  refine Ans_case (fun _ => law_6 (L := L) (x3 := x3) (K := c_L_law_1555 (c_L_law_18 L n) L x3) h k1 k2 hK) (fun _ => ?_)
  refine Ans_case (fun _ => law_7 (L := L) (x3 := x3) (K := c_L_law_1555 (c_L_law_18 L n) L x3) h k1 k2 hK) (fun _ => ?_)
  refine Ans_case (fun _ => law_8 (L := L) (x3 := x3) (K := c_L_law_1555 (c_L_law_18 L n) L x3) h k1 k2 hK) (fun _ => ?_)
  refine Ans_case (fun _ => law_9 (L := L) (x3 := x3) (K := c_L_law_1555 (c_L_law_18 L n) L x3) h k1 hK) (fun _ => ?_)
  refine Ans_case (fun _ => law_10 (L := L) (x3 := x3) (K := c_L_law_1555 (c_L_law_18 L n) L x3) h k1 k2 k3 hK) (fun _ => ?_)
  refine Ans_case (fun _ => law_11 (L := L) (x3 := x3) (K := c_L_law_1555 (c_L_law_18 L n) L x3) h k1 hK) (fun _ => ?_)
  refine Ans_case (fun _ => law_12 (L := L) (x3 := x3) (K := c_L_law_1555 (c_L_law_18 L n) L x3) h k1 k2 k3 k4 k5 hK) (fun _ => ?_)
  refine Ans_case (fun _ => law_13 (L := L) (x3 := x3) (K := c_L_law_1555 (c_L_law_18 L n) L x3) h k1 hK) (fun _ => ?_)
  refine Ans_case (fun _ => law_14 (L := L) (x3 := x3) (K := c_L_law_1555 (c_L_law_18 L n) L x3) h k1 hK) (fun _ => ?_)
  refine Ans_case (fun _ => law_15 (L := L) (x3 := x3) (K := c_L_law_1555 (c_L_law_18 L n) L x3) h k1 k2 k3 hK) (fun _ => ?_)
  refine Ans_case (fun _ => law_16 (L := L) (x3 := x3) (K := c_L_law_1555 (c_L_law_18 L n) L x3) h k1 k2 hK) (fun _ => ?_)
  refine Ans_case (fun _ => law_17 (L := L) (x3 := x3) (K := c_L_law_1555 (c_L_law_18 L n) L x3) h k1 k2 k3 hK) (fun _ => ?_)
  refine Ans_case (fun _ => law_18 (L := L) (x3 := x3) (K := c_L_law_1555 (c_L_law_18 L n) L x3) h k1 k2 hK) (fun _ => ?_)
  refine Ans_case (fun _ => law_19 (L := L) (x3 := x3) (K := c_L_law_1555 (c_L_law_18 L n) L x3) h k1 k2 k3 hK) (fun _ => ?_)
  refine Ans_case (fun _ => law_20 (L := L) (x3 := x3) (K := c_L_law_1555 (c_L_law_18 L n) L x3) h k1 k2 k3 hK) (fun _ => ?_)
  refine Ans_case (fun _ => law_21 (L := L) (x3 := x3) (K := c_L_law_1555 (c_L_law_18 L n) L x3) h k1 hK) (fun _ => ?_)
  refine Ans_case (fun _ => law_22 (L := L) (x3 := x3) (K := c_L_law_1555 (c_L_law_18 L n) L x3) h k1 k2 hK) (fun _ => ?_)
  refine Ans_case (fun _ => law_23 (L := L) (x3 := x3) (K := c_L_law_1555 (c_L_law_18 L n) L x3) h hK) (fun _ => ?_)
  refine Ans_case (fun _ => law_24 (L := L) (x3 := x3) (K := c_L_law_1555 (c_L_law_18 L n) L x3) h k1 k2 k3 hK) (fun _ => ?_)
  refine Ans_case (fun _ => law_25 (L := L) (x3 := x3) (K := c_L_law_1555 (c_L_law_18 L n) L x3) h hK) (fun _ => ?_)
  refine Ans_case (fun _ => law_26 (L := L) (x3 := x3) (K := c_L_law_1555 (c_L_law_18 L n) L x3) h k1 hK) (fun _ => ?_)
  refine Ans_case (fun _ => law_27 (L := L) (x3 := x3) (K := c_L_law_1555 (c_L_law_18 L n) L x3) h k1 k2 k3 hK) (fun _ => ?_)
  refine Ans_case (fun _ => law_28 (L := L) (x3 := x3) (K := c_L_law_1555 (c_L_law_18 L n) L x3) h k1 k2 k3 k4 hK) (fun _ => ?_)
  refine Ans_case (fun _ => law_29 (L := L) (x3 := x3) (K := c_L_law_1555 (c_L_law_18 L n) L x3) h k1 hK) (fun _ => ?_)
  refine Ans_case (fun _ => law_30 (L := L) (x3 := x3) (K := c_L_law_1555 (c_L_law_18 L n) L x3) h k1 k2 k3 hK) (fun _ => ?_)
  refine Ans_case (fun _ => law_31 (L := L) (x3 := x3) (K := c_L_law_1555 (c_L_law_18 L n) L x3) h k1 hK) (fun _ => ?_)
  refine Ans_case (fun _ => law_32 (L := L) (x3 := x3) (K := c_L_law_1555 (c_L_law_18 L n) L x3) h k1 k2 k3 hK) (fun _ => ?_)
  refine Ans_case (fun _ => law_33 (L := L) (x3 := x3) (K := c_L_law_1555 (c_L_law_18 L n) L x3) h k1 k2 k3 hK) (fun _ => ?_)
  refine Ans_case (fun _ => law_34 (L := L) (x3 := x3) (K := c_L_law_1555 (c_L_law_18 L n) L x3) h k1 k2 k3 k4 k5 hK) (fun _ => ?_)
  refine Ans_case (fun _ => law_35 (L := L) (x3 := x3) (K := c_L_law_1555 (c_L_law_18 L n) L x3) h hK) (fun _ => ?_)
  refine Ans_case (fun _ => law_36 (L := L) (x3 := x3) (K := c_L_law_1555 (c_L_law_18 L n) L x3) h hK) (fun _ => ?_)
  refine Ans_case (fun _ => law_37 (L := L) (x3 := x3) (K := c_L_law_1555 (c_L_law_18 L n) L x3) h k1 hK) (fun _ => ?_)
  refine Ans_case (fun _ => law_38 (L := L) (x3 := x3) (K := c_L_law_1555 (c_L_law_18 L n) L x3) h k1 hK) (fun _ => ?_)
  refine Ans_case (fun _ => law_39 (L := L) (x3 := x3) (K := c_L_law_1555 (c_L_law_18 L n) L x3) h k1 hK) (fun _ => ?_)
  refine Ans_case (fun _ => law_40 (L := L) (x3 := x3) (K := c_L_law_1555 (c_L_law_18 L n) L x3) h k1 hK) (fun _ => ?_)
  exact hK σ h
theorem law_end {L : Nat} {x3 : Int32} {n : Nat} {σ : Sg} (c1 : ((Int32.ofNat L) - (6 : Int32)) < x3) : Ans (c_L_law_18 L (n + 1) x3 σ) := by
  rw [c_L_law_18.eq_2, if_pos c1]
  exact ⟨σ, rfl⟩
theorem law_go {xs : Nat → Int32} {L : Nat} (hL : L ≤ 3072) : ∀ (n i : Nat) (σ : Sg), Inv xs σ → 6 * i ≤ L → L < 6 * i + 6 * n → Ans (c_L_law_18 L n (nI (6 * i)) σ) := by
  intro n
  induction n with
  | zero => intro i σ h h1 h2; omega
  | succ n ih =>
    intro i σ h h1 h2
    have a1 : (Int32.ofNat L).toInt = L := nI_toInt (n := L) (by omega)
    have a2 : (6 : Int32).toInt = 6 := rfl
    have a3 : (nI (6 * i)).toInt = ((6 * i : Nat) : Int) := nI_toInt (by omega)
    have a4 : ((Int32.ofNat L) - (6 : Int32)).toInt = (L : Int) - 6 := by
      rw [isub (by rw [a1, a2]; omega) (by rw [a1, a2]; omega), a1, a2]
    by_cases c1 : ((Int32.ofNat L) - (6 : Int32)) < nI (6 * i)
    · exact law_end c1
    · have hi : 6 * i + 6 ≤ L := by
        by_cases z : 6 * i + 6 ≤ L
        · exact z
        · exact absurd (by rw [ilt, a4, a3]; omega) c1
      have kk : ∀ j, j < 6 → ¬ ((nI (6 * i) + nI j) < 0 ∨ L ≤ (nI (6 * i) + nI j).toNatClampNeg) := fun j hj => by
        rw [nI_add]; exact nI_in (by omega) (by omega)
      refine law_step h c1 (nI_in (by omega) (by omega)) (kk 1 (by omega)) (kk 2 (by omega)) (kk 3 (by omega)) (kk 4 (by omega)) (kk 5 (by omega)) (fun σ2 hI => ?_)
      unfold c_L_law_1555
      have e : nI (6 * i) + (6 : Int32) = nI (6 * (i + 1)) := (nI_add (6 * i) 6).trans (congrArg nI (by omega))
      rw [e]
      exact ih (i + 1) σ2 hI (by omega) (by omega)
theorem S0_z (xs : Nat → Int32) {a k : Nat} (h : a < 1000000) (h1 : ¬ (a = 1 ∧ k = 5)) (h2 : ¬ (a = 16 ∧ k = 5)) (h3 : ¬ (a = 94 ∧ k = 4)) : mS0 xs a k = 0 := by
  unfold mS0
  rw [mup_eq, if_neg h3, mup_eq, if_neg h2, mup_eq, if_neg h1]
  unfold mS00
  rw [if_neg (by omega), if_neg (by omega), if_neg (by omega)]
theorem S0_1 (xs : Nat → Int32) : mS0 xs 1 5 = 1 := by
  unfold mS0
  rw [mup_eq, if_neg (by omega), mup_eq, if_neg (by omega), mup_eq, if_pos ⟨rfl, rfl⟩]
theorem S0_94 (xs : Nat → Int32) : mS0 xs 94 4 = 1 := by
  unfold mS0
  rw [mup_eq, if_pos ⟨rfl, rfl⟩]
theorem S0_old (xs : Nat → Int32) {a : Nat} (h : 1000000 ≤ a) : mS0 xs a = mS00 xs a := by
  unfold mS0
  rw [mup_ne (by omega), mup_ne (by omega), mup_ne (by omega)]
theorem inv0 (xs : Nat → Int32) : Inv xs (mS0 xs) := by
  have z : ∀ a k, a < 1000000 → ¬ (a = 1 ∧ k = 5) → ¬ (a = 16 ∧ k = 5) → ¬ (a = 94 ∧ k = 4) → mS0 xs a k = 0 := fun a k h h1 h2 h3 => S0_z xs h h1 h2 h3
  have d : ∀ k, k ≠ 4 → mS0 xs 94 k = 0 := fun k hk => z 94 k (by omega) (by omega) (by omega) (by omega)
  have c0 : (0 : Int32).toNatClampNeg = 0 := by decide
  have w0 : wN (mS0 xs 94) = 0 := by unfold wN; rw [d 1 (by omega), c0]
  have t0 : tN (mS0 xs 94) = 0 := by unfold tN; rw [d 2 (by omega), c0]
  have f0 : fN (mS0 xs 94) = 0 := by unfold fN; rw [d 3 (by omega), c0]
  have p0 : pN (mS0 xs 94) = 0 := by unfold pN; rw [d 5 (by omega), c0]
  have b0 : aN (mS0 xs 94) = 0 := by unfold aN; rw [d 6 (by omega), c0]
  have sm : ∀ hi, Sm (0 : Int32) 0 hi := fun hi => ⟨0, by omega, by omega, nI_0.symm⟩
  refine ⟨⟨?_, ?_, ?_, ?_⟩, fun k hk => ?_, ?_, ?_, ⟨?_, ?_, ?_⟩, fun s hs => ?_, ?_, ?_, ?_⟩
  · refine ⟨by rw [d 0 (by omega)]; exact sm _, by rw [w0, d 1 (by omega)]; exact nI_0.symm, by omega, by rw [t0, d 2 (by omega)]; exact nI_0.symm, by omega, fun w hw => ?_, fun t ht => ?_⟩
    · omega
    · omega
  · refine ⟨by rw [f0, d 3 (by omega)]; exact nI_0.symm, by omega, fun f hf => ?_, by rw [p0, d 5 (by omega)]; exact nI_0.symm, by omega, fun i hi => ?_, by rw [b0, d 6 (by omega)]; exact nI_0.symm, by omega⟩
    · omega
    · omega
  · refine ⟨?_, ?_, ?_, fun w hw => ?_, fun t ht => ?_⟩
    · rw [d 0 (by omega)]; exact z _ _ (by omega) (by omega) (by omega) (by omega)
    · rw [d 1 (by omega)]; exact z _ _ (by omega) (by omega) (by omega) (by omega)
    · rw [d 2 (by omega)]; exact z _ _ (by omega) (by omega) (by omega) (by omega)
    · omega
    · omega
  · refine ⟨?_, ?_, fun f hf => ?_, ?_, fun i hi => ?_, ?_, fun i hi => ?_, Or.inl ⟨?_, ?_⟩, Or.inl ⟨?_, ?_⟩⟩
    · rw [S0_94]; exact S0_1 xs
    · rw [d 3 (by omega)]; exact z _ _ (by omega) (by omega) (by omega) (by omega)
    · omega
    · rw [d 5 (by omega)]; exact z _ _ (by omega) (by omega) (by omega) (by omega)
    · omega
    · rw [d 6 (by omega)]; exact z _ _ (by omega) (by omega) (by omega) (by omega)
    · omega
    · exact d _ (by omega)
    · exact z _ _ (by omega) (by omega) (by omega) (by omega)
    · exact d _ (by omega)
    · exact z _ _ (by omega) (by omega) (by omega) (by omega)
  · rw [z 92 k (by omega) (by omega) (by omega) (by omega), z 97 k (by omega) (by omega) (by omega) (by omega)]
  · rw [z 0 10 (by omega) (by omega) (by omega) (by omega), z 93 3 (by omega) (by omega) (by omega) (by omega)]
  · exact Or.inl (z 93 3 (by omega) (by omega) (by omega) (by omega))
  · rw [z 93 15 (by omega) (by omega) (by omega) (by omega)]; exact sm _
  · rw [z 93 15 (by omega) (by omega) (by omega) (by omega)]; exact z 81 1 (by omega) (by omega) (by omega) (by omega)
  · intro i _ hi
    rw [z 82 i (by omega) (by omega) (by omega) (by omega), z 101 i (by omega) (by omega) (by omega) (by omega)]
  · have y2 := z 102 s (by omega) (by omega) (by omega) (by omega)
    have y3 := z 103 s (by omega) (by omega) (by omega) (by omega)
    refine ⟨?_, ?_, Or.inl y2, by rw [y3]; exact sm _, fun i hi => ?_⟩
    · rw [y2]; exact z _ _ (by omega) (by omega) (by omega) (by omega)
    · rw [y3]; exact z _ _ (by omega) (by omega) (by omega) (by omega)
    · rw [z (84 + 2 * s + 1) i (by omega) (by omega) (by omega) (by omega), z 104 (40 * s + i) (by omega) (by omega) (by omega) (by omega)]
  · rw [S0_old xs (by omega)]; unfold mS00; rw [if_pos rfl]
  · rw [S0_old xs (by omega)]; unfold mS00; rw [if_neg (by omega), if_pos rfl]
  · rw [S0_old xs (by omega)]; unfold mS00; rw [if_neg (by omega), if_neg (by omega), if_pos rfl]
theorem law_all (n : Nat) (hn : 600 ≤ n) (L : Nat) (xs : Nat → Int32) (hL : L ≤ 3072) : ∃ σ', c_L_law_18 L n 0 (mS0 xs) = some (1, σ') := by
  have h := law_go hL n 0 (mS0 xs) (inv0 xs) (by omega) (by omega)
  have e : nI (6 * 0) = 0 := nI_0
  rw [e] at h
  exact h
