theorem jn_42 (v w : Int32) : jn 42 v w = v * w := rfl
theorem jn_43 (v w : Int32) : jn 43 v w = v + w := rfl
theorem jn_45 (v w : Int32) : jn 45 v w = v - w := rfl
theorem jn_47 (v w : Int32) : jn 47 v w = if w = 0 then 0 else v / w := by
  have e : jn 47 v w = (if w = 0 then (some (0 : Int32)) else (if w = 0 then none else (some (v / w)))).getD 0 := rfl
  rw [e]
  by_cases z : w = 0
  · rw [if_pos z, if_pos z]; rfl
  · rw [if_neg z, if_neg z, if_neg z]; rfl
theorem jn_37 (v w : Int32) : jn 37 v w = if w = 0 then 0 else v - v / w * w := by
  have e : jn 37 v w = (if w = 0 then (some (0 : Int32)) else (if w = 0 then none else (some (v - v / w * w)))).getD 0 := rfl
  rw [e]
  by_cases z : w = 0
  · rw [if_pos z, if_pos z]; rfl
  · rw [if_neg z, if_neg z, if_neg z]; rfl
theorem jn_38 (v w : Int32) : jn 38 v w = if v = 0 then 0 else if w = 0 then 0 else 1 := by
  have e : jn 38 v w = (if v = 0 then (some (0 : Int32)) else (if w = 0 then (some (0 : Int32)) else (some (1 : Int32)))).getD 0 := rfl
  rw [e]
  repeat' split
  all_goals rfl
theorem jn_124 (v w : Int32) : jn 124 v w = if v = 0 then (if w = 0 then 0 else 1) else 1 := by
  have e : jn 124 v w = (if v = 0 then (if w = 0 then (some (0 : Int32)) else (some (1 : Int32))) else (some (1 : Int32))).getD 0 := rfl
  rw [e]
  repeat' split
  all_goals rfl
theorem jn_60 (v w : Int32) : jn 60 v w = if w ≤ v then 0 else 1 := by
  have e : jn 60 v w = (if w ≤ v then (some (0 : Int32)) else (some (1 : Int32))).getD 0 := rfl
  rw [e]
  split <;> rfl
theorem jn_61 (v w : Int32) : jn 61 v w = if v = w then 1 else 0 := by
  have e : jn 61 v w = (if v = w then (some (1 : Int32)) else (some (0 : Int32))).getD 0 := rfl
  rw [e]
  split <;> rfl
theorem jn_62 (v w : Int32) : jn 62 v w = if v ≤ w then 0 else 1 := by
  have e : jn 62 v w = (if v ≤ w then (some (0 : Int32)) else (some (1 : Int32))).getD 0 := rfl
  rw [e]
  split <;> rfl
theorem product_out {B : Nat → Int32} {n u o f g : Nat} (hn : n ≤ 50) (hO : ∀ p, p ≤ n → Out B n u o p (f_X3_reads f (nI 5) (nI o)) (f_X12_unit g)) : ∀ p, p ≤ n → Out B n u o p (f_X3_reads (f + 1) (nI 4) (nI o)) (f_X12_product (g + 1)) := by
  refine level_out (l := 4) (fX := f_X3_reads f (nI 5) (nI o)) (fM := f_X12_unit g) (gR := f_X3_reads f) (gU := f_X3_readsUnit f) (gN := f_X3_readsNot f) (gI := f_X3_readsInside f) (LM := c_X12_product_5 (f_X12_either g) (f_X12_both g) (f_X12_compared g) (f_X12_sum g) (f_X12_product g) (f_X12_unit g)) hn (by omega) (by omega) (fun σ => rfl) hO (fun σ base p m v hb hS hp z => ?_) (fun σ m v h => ?_) (fun σ base p m v hb hS hp z => ?_)
  · have hh := m_here hS hp hn hb
    have zz : ¬ (nb B n p = 42 ∨ nb B n p = 47 ∨ nb B n p = 37) := fun y => z ((lv_is _).2.2.2.2.mpr y)
    rw [c_X12_product_5, hh, Option.bind_some, if_neg (fun y => zz (Or.inl y)), Option.bind_some, if_neg (fun y => zz (Or.inr (Or.inl y))), Option.bind_some, if_neg (fun y => zz (Or.inr (Or.inr y)))]
  · rw [c_X12_product_5, m_bad h, Option.bind_some, if_neg (by decide), Option.bind_some, if_neg (by decide), Option.bind_some, if_neg (by decide)]
  · have hh := m_here hS hp hn hb
    have go : c_X12_product_5 (f_X12_either g) (f_X12_both g) (f_X12_compared g) (f_X12_sum g) (f_X12_product g) (f_X12_unit g) (m + 1) v σ = c_X12_product_32 (c_X12_product_5 (f_X12_either g) (f_X12_both g) (f_X12_compared g) (f_X12_sum g) (f_X12_product g) (f_X12_unit g) m) (f_X12_either g) (f_X12_both g) (f_X12_compared g) (f_X12_sum g) (f_X12_product g) (f_X12_unit g) v σ := by
      rw [c_X12_product_5, hh, Option.bind_some]
      rcases (lv_is _).2.2.2.2.mp z with y | y | y
      · rw [if_pos y]
      · rw [if_neg (by rw [y]; decide), Option.bind_some, if_pos y]
      · rw [if_neg (by rw [y]; decide), Option.bind_some, if_neg (by rw [y]; decide), Option.bind_some, if_pos y]
    rw [go]
    unfold c_X12_product_32 c_X12_product_87
    rw [hh, Option.bind_some]
    cases hq : f_X12_unit g (mup σ 93 6 (σ 93 6 + 1)) with
    | none => rfl
    | some q =>
      rw [Option.bind_some, Option.bind_some]
      rcases (lv_is _).2.2.2.2.mp z with y | y | y
      · rw [y, if_pos rfl, jn_42]
      · rw [y, if_neg (by decide), jn_47]
        by_cases w : q.1 = 0
        · rw [if_pos w, if_pos w]
        · rw [if_neg w, if_pos rfl, if_neg w, if_neg w]
      · rw [y, if_neg (by decide), jn_37]
        by_cases w : q.1 = 0
        · rw [if_pos w, if_pos w]
        · rw [if_neg w, if_neg (by decide), if_neg w, if_neg w]
theorem sum_out {B : Nat → Int32} {n u o f g : Nat} (hn : n ≤ 50) (hO : ∀ p, p ≤ n → Out B n u o p (f_X3_reads f (nI 4) (nI o)) (f_X12_product g)) : ∀ p, p ≤ n → Out B n u o p (f_X3_reads (f + 1) (nI 3) (nI o)) (f_X12_sum (g + 1)) := by
  refine level_out (l := 3) (fX := f_X3_reads f (nI 4) (nI o)) (fM := f_X12_product g) (gR := f_X3_reads f) (gU := f_X3_readsUnit f) (gN := f_X3_readsNot f) (gI := f_X3_readsInside f) (LM := c_X12_sum_5 (f_X12_either g) (f_X12_both g) (f_X12_compared g) (f_X12_sum g) (f_X12_product g) (f_X12_unit g)) hn (by omega) (by omega) (fun σ => rfl) hO (fun σ base p m v hb hS hp z => ?_) (fun σ m v h => ?_) (fun σ base p m v hb hS hp z => ?_)
  · have hh := m_here hS hp hn hb
    have zz : ¬ (nb B n p = 43 ∨ nb B n p = 45) := fun y => z ((lv_is _).2.2.2.1.mpr y)
    rw [c_X12_sum_5, hh, Option.bind_some, if_neg (fun y => zz (Or.inl y)), Option.bind_some, if_neg (fun y => zz (Or.inr y))]
  · rw [c_X12_sum_5, m_bad h, Option.bind_some, if_neg (by decide), Option.bind_some, if_neg (by decide)]
  · have hh := m_here hS hp hn hb
    have go : c_X12_sum_5 (f_X12_either g) (f_X12_both g) (f_X12_compared g) (f_X12_sum g) (f_X12_product g) (f_X12_unit g) (m + 1) v σ = c_X12_sum_23 (c_X12_sum_5 (f_X12_either g) (f_X12_both g) (f_X12_compared g) (f_X12_sum g) (f_X12_product g) (f_X12_unit g) m) (f_X12_either g) (f_X12_both g) (f_X12_compared g) (f_X12_sum g) (f_X12_product g) (f_X12_unit g) v σ := by
      rw [c_X12_sum_5, hh, Option.bind_some]
      rcases (lv_is _).2.2.2.1.mp z with y | y
      · rw [if_pos y]
      · rw [if_neg (by rw [y]; decide), Option.bind_some, if_pos y]
    rw [go]
    unfold c_X12_sum_23 c_X12_sum_58
    rw [hh, Option.bind_some]
    cases hq : f_X12_product g (mup σ 93 6 (σ 93 6 + 1)) with
    | none => rfl
    | some q =>
      rw [Option.bind_some, Option.bind_some]
      rcases (lv_is _).2.2.2.1.mp z with y | y
      · rw [y, if_pos rfl, jn_43]
      · rw [y, if_neg (by decide), jn_45]
theorem both_out {B : Nat → Int32} {n u o f g : Nat} (hn : n ≤ 50) (hO : ∀ p, p ≤ n → Out B n u o p (f_X3_reads f (nI 2) (nI o)) (f_X12_compared g)) : ∀ p, p ≤ n → Out B n u o p (f_X3_reads (f + 1) (nI 1) (nI o)) (f_X12_both (g + 1)) := by
  refine level_out (l := 1) (fX := f_X3_reads f (nI 2) (nI o)) (fM := f_X12_compared g) (gR := f_X3_reads f) (gU := f_X3_readsUnit f) (gN := f_X3_readsNot f) (gI := f_X3_readsInside f) (LM := c_X12_both_5 (f_X12_either g) (f_X12_both g) (f_X12_compared g) (f_X12_sum g) (f_X12_product g) (f_X12_unit g)) hn (by omega) (by omega) (fun σ => rfl) hO (fun σ base p m v hb hS hp z => ?_) (fun σ m v h => ?_) (fun σ base p m v hb hS hp z => ?_)
  · have hh := m_here hS hp hn hb
    have zz : ¬ nb B n p = 38 := fun y => z ((lv_is _).2.1.mpr y)
    rw [c_X12_both_5]
    unfold f_X12_takes
    rw [hh, Option.bind_some, if_neg zz, Option.bind_some, if_pos rfl]
  · rw [c_X12_both_5]
    unfold f_X12_takes
    rw [m_bad h, Option.bind_some, if_neg (by decide), Option.bind_some, if_pos rfl]
  · have hh := m_here hS hp hn hb
    have y := (lv_is _).2.1.mp z
    rw [c_X12_both_5]
    unfold f_X12_takes c_X12_both_31 c_X12_both_32
    rw [hh, Option.bind_some, if_pos y, Option.bind_some, if_neg one_ne]
    cases hq : f_X12_compared g (mup σ 93 6 (σ 93 6 + 1)) with
    | none => rfl
    | some q =>
      rw [Option.bind_some, Option.bind_some, y, jn_38]
      by_cases w : v = 0
      · rw [if_pos w, if_pos w]
      · rw [if_neg w, if_neg w]
        by_cases x : q.1 = 0
        · rw [if_pos x, if_pos x]
        · rw [if_neg x, if_neg x]
theorem either_out {B : Nat → Int32} {n u o f g : Nat} (hn : n ≤ 50) (hO : ∀ p, p ≤ n → Out B n u o p (f_X3_reads f (nI 1) (nI o)) (f_X12_both g)) : ∀ p, p ≤ n → Out B n u o p (f_X3_reads (f + 1) (nI 0) (nI o)) (f_X12_either (g + 1)) := by
  refine level_out (l := 0) (fX := f_X3_reads f (nI 1) (nI o)) (fM := f_X12_both g) (gR := f_X3_reads f) (gU := f_X3_readsUnit f) (gN := f_X3_readsNot f) (gI := f_X3_readsInside f) (LM := c_X12_either_5 (f_X12_either g) (f_X12_both g) (f_X12_compared g) (f_X12_sum g) (f_X12_product g) (f_X12_unit g)) hn (by omega) (by omega) (fun σ => rfl) hO (fun σ base p m v hb hS hp z => ?_) (fun σ m v h => ?_) (fun σ base p m v hb hS hp z => ?_)
  · have hh := m_here hS hp hn hb
    have zz : ¬ nb B n p = 124 := fun y => z ((lv_is _).1.mpr y)
    rw [c_X12_either_5]
    unfold f_X12_takes
    rw [hh, Option.bind_some, if_neg zz, Option.bind_some, if_pos rfl]
  · rw [c_X12_either_5]
    unfold f_X12_takes
    rw [m_bad h, Option.bind_some, if_neg (by decide), Option.bind_some, if_pos rfl]
  · have hh := m_here hS hp hn hb
    have y := (lv_is _).1.mp z
    rw [c_X12_either_5]
    unfold f_X12_takes c_X12_either_27 c_X12_either_32
    rw [hh, Option.bind_some, if_pos y, Option.bind_some, if_neg one_ne]
    cases hq : f_X12_both g (mup σ 93 6 (σ 93 6 + 1)) with
    | none => rfl
    | some q =>
      rw [Option.bind_some, Option.bind_some, y, jn_124]
      by_cases w : v = 0
      · rw [if_pos w, if_pos w]
        by_cases x : q.1 = 0
        · rw [if_pos x, if_pos x]
        · rw [if_neg x, if_neg x]
      · rw [if_neg w, if_neg w]
theorem compared_gen {B : Nat → Int32} {n u o : Nat} {fX fM gE gB gC gP gQ : Sg → Option (Int32 × Sg)} {gR : Int32 → Int32 → Sg → Option (Int32 × Sg)} {gU gN gI : Int32 → Sg → Option (Int32 × Sg)} (hn : n ≤ 50) (hX : ∀ σ, gR (nI 2 + 1) (nI o) σ = fX σ) (hO : ∀ p, p ≤ n → Out B n u o p fX fM) : ∀ p, p ≤ n → Out B n u o p (fun σ => b_X3_reads gR gU gN gI (nI 2) (nI o) σ) (fun σ => b_X12_compared gE gB gC fM gP gQ σ) := by
  intro p hp
  have hbX : ∀ σ, b_X3_reads gR gU gN gI (nI 2) (nI o) σ = (fX σ).bind fun q10 => (if q10.1 = 0 then (some ((0 : Int32), q10.2)) else c_X3_reads_39 gR gU gN gI 1000 (nI 2) (nI o) 1 0 q10.2) := fun σ => by
    have h2 : nI 2 = (2 : Int32) := rfl
    unfold b_X3_reads c_X3_reads_35
    rw [if_pos (by decide), hX]
    simp only [if_pos h2]
  have xs1 : ∀ p σ c, p ≤ n → XS B n u p c σ → c_X3_reads_39 gR gU gN gI 1000 (nI 2) (nI o) 1 0 σ = (if lv (nb B n p) = nI 2 then ((fX (mup σ 70 3 (σ 70 3 + 1))).bind fun q6 => (if q6.1 = 0 then (some ((0 : Int32), q6.2)) else ((f_X6_append 71 (-(nb B n p)) q6.2).bind fun q8 => some (1, q8)))) else some (1, σ)) := fun p σ c hp hS => by
    rw [c_X3_reads_39, if_neg (by decide), x_next hS hp hn, Option.bind_some, levelOf_eq, Option.bind_some, Option.bind_some]
    by_cases z : lv (nb B n p) = nI 2
    · rw [if_pos z, if_pos z]
      have e1 : ∀ q8, c_X3_reads_39 gR gU gN gI 999 (nI 2) (nI o) 1 (0 + 1) q8 = some (1, q8) := fun q8 => by
        rw [c_X3_reads_39, if_pos (by decide)]
      simp only [e1]
      rw [hX]
    · rw [if_neg z, if_neg z]
  have ms1 : ∀ p σ base v, base ≤ 264 → p ≤ n → MS B base n o p (slw u) σ → ((f_X12_here σ).bind fun q8 => (if q8 = (60 : Int32) then (c_X12_compared_30 gE gB gC fM gP gQ v q8 σ) else (if q8 = (61 : Int32) then (c_X12_compared_30 gE gB gC fM gP gQ v q8 σ) else (if q8 = (62 : Int32) then (c_X12_compared_30 gE gB gC fM gP gQ v q8 σ) else (some (v, σ)))))) = (if lv (nb B n p) = nI 2 then ((fM (mup σ 93 6 (σ 93 6 + 1))).bind fun q => some (jn (nb B n p) v q.1, q.2)) else some (v, σ)) := fun p σ base v hb hp hS => by
    rw [m_here hS hp hn hb, Option.bind_some]
    by_cases z : lv (nb B n p) = nI 2
    · rw [if_pos z]
      have go : c_X12_compared_30 gE gB gC fM gP gQ v (nb B n p) σ = ((fM (mup σ 93 6 (σ 93 6 + 1))).bind fun q => some (jn (nb B n p) v q.1, q.2)) := by
        unfold c_X12_compared_30 c_X12_compared_78
        cases hq : fM (mup σ 93 6 (σ 93 6 + 1)) with
        | none => rfl
        | some q =>
          rw [Option.bind_some, Option.bind_some]
          rcases (lv_is _).2.2.1.mp z with y | y | y
          · rw [y, if_pos rfl, jn_60]
            split <;> rfl
          · rw [y, if_neg (by decide), if_pos rfl, jn_61]
            split <;> rfl
          · rw [y, if_neg (by decide), if_neg (by decide), jn_62]
            split <;> rfl
      rw [go]
      rcases (lv_is _).2.2.1.mp z with y | y | y
      · rw [if_pos y]
      · rw [if_neg (by rw [y]; decide), if_pos y]
      · rw [if_neg (by rw [y]; decide), if_neg (by rw [y]; decide), if_pos y]
    · have zz : ¬ (nb B n p = 60 ∨ nb B n p = 61 ∨ nb B n p = 62) := fun y => z ((lv_is _).2.2.1.mpr y)
      rw [if_neg z, if_neg (fun y => zz (Or.inl y)), if_neg (fun y => zz (Or.inr (Or.inl y))), if_neg (fun y => zz (Or.inr (Or.inr y)))]
  rcases hO p hp with ⟨p1, cd1, V1, k1, k2, k3, k4, k5, k6⟩ | ⟨pf, k1, k2, k3⟩
  · by_cases z : lv (nb B n p1) = nI 2
    · have hpn := lv_in (show 2 ≤ 4 by omega) z
      obtain ⟨o1, o2, o3⟩ := lv_op (show 2 ≤ 4 by omega) z
      rcases hO (p1 + 1) (by omega) with ⟨p2, cd2, V2, q1, q2, q3, q4, q5, q6⟩ | ⟨pf, q1, q2, q3⟩
      · refine Or.inl ⟨p2, cd1 ++ (cd2 ++ [-(nb B n p1)]), _, by omega, q2, by rw [List.length_append, List.length_append]; show cd1.length + (cd2.length + 1) ≤ _; omega, Wk_bin k4 q4 o1 o2 o3, fun σ c hS hc => ?_, fun σ base hb hS => ?_⟩
        · obtain ⟨σ1, e1, e2⟩ := k5 σ c hS hc
          have s1 := hS.keep e2
          have x1 := XO.at1 s1
          have s2 : XS B n u (p1 + 1) (c + cd1.length) (mup σ1 70 3 (σ1 70 3 + 1)) := s1.keep x1
          obtain ⟨σ2, f1, f2⟩ := q5 _ _ s2 (by omega)
          have x2 : XO σ2 σ1 p2 (c + cd1.length) cd2 := XO.trans x1 f2
          obtain ⟨σ3, g1, g2⟩ := x_append (v := -(nb B n p1)) (s1.keep x2) (by omega)
          refine ⟨σ3, ?_, e2.trans (x2.trans g2)⟩
          show b_X3_reads gR gU gN gI (nI 2) (nI o) σ = _
          rw [hbX, e1, Option.bind_some, if_neg one_ne, xs1 p1 σ1 _ k2 s1, if_pos z, f1, Option.bind_some, if_neg one_ne, g1, Option.bind_some]
        · obtain ⟨σ1, e1, e2, e3⟩ := k6 σ base hb hS
          obtain ⟨σ2, f1, f2, f3⟩ := q6 _ base hb e2.at1
          have e4 : MK σ2 σ := (f3.trans (MK.at σ1 _)).trans e3
          refine ⟨σ2, ?_, f2, e4⟩
          show b_X12_compared gE gB gC fM gP gQ σ = _
          unfold b_X12_compared
          rw [e1, Option.bind_some]
          refine Eq.trans (ms1 p1 σ1 base _ hb k2 e2) ?_
          rw [if_pos z, f1, Option.bind_some, mup_o (by omega), mup_o (by omega), mup_o (by omega), mup_o (by omega), e3 98 0 (by omega), e3 98 1 (by omega), e3 98 2 (by omega), e3 98 3 (by omega)]
      · refine Or.inr ⟨pf, q1, fun σ c hS hc => ?_, fun σ base hb hS => ?_⟩
        · obtain ⟨σ1, e1, e2⟩ := k5 σ c hS hc
          have s1 := hS.keep e2
          have x1 := XO.at1 s1
          have s2 : XS B n u (p1 + 1) (c + cd1.length) (mup σ1 70 3 (σ1 70 3 + 1)) := s1.keep x1
          obtain ⟨σ2, f1, f2, f3⟩ := q2 _ _ s2 (by omega)
          refine ⟨σ2, ?_, f2, (f3.trans x1.2.2.2.2).trans e2.2.2.2.2⟩
          show b_X3_reads gR gU gN gI (nI 2) (nI o) σ = _
          rw [hbX, e1, Option.bind_some, if_neg one_ne, xs1 p1 σ1 _ k2 s1, if_pos z, f1, Option.bind_some, if_pos rfl]
        · obtain ⟨σ1, e1, e2, e3⟩ := k6 σ base hb hS
          obtain ⟨v', σ2, f1, f2, f3⟩ := q3 _ base hb e2.at1
          refine ⟨jn (nb B n p1) (V1 (σ 98 0) (σ 98 1) (σ 98 2) (σ 98 3)) v', σ2, ?_, f2, (f3.trans (MK.at σ1 _)).trans e3⟩
          show b_X12_compared gE gB gC fM gP gQ σ = _
          unfold b_X12_compared
          rw [e1, Option.bind_some]
          refine Eq.trans (ms1 p1 σ1 base _ hb k2 e2) ?_
          rw [if_pos z, f1, Option.bind_some]
    · refine Or.inl ⟨p1, cd1, V1, k1, k2, k3, k4, fun σ c hS hc => ?_, fun σ base hb hS => ?_⟩
      · obtain ⟨σ1, e1, e2⟩ := k5 σ c hS hc
        refine ⟨σ1, ?_, e2⟩
        show b_X3_reads gR gU gN gI (nI 2) (nI o) σ = _
        rw [hbX, e1, Option.bind_some, if_neg one_ne, xs1 p1 σ1 _ k2 (hS.keep e2), if_neg z]
      · obtain ⟨σ1, e1, e2, e3⟩ := k6 σ base hb hS
        refine ⟨σ1, ?_, e2, e3⟩
        show b_X12_compared gE gB gC fM gP gQ σ = _
        unfold b_X12_compared
        rw [e1, Option.bind_some]
        refine Eq.trans (ms1 p1 σ1 base _ hb k2 e2) ?_
        rw [if_neg z]
  · refine Or.inr ⟨pf, k1, fun σ c hS hc => ?_, fun σ base hb hS => ?_⟩
    · obtain ⟨σ1, e1, e2, e3⟩ := k2 σ c hS hc
      refine ⟨σ1, ?_, e2, e3⟩
      show b_X3_reads gR gU gN gI (nI 2) (nI o) σ = _
      rw [hbX, e1, Option.bind_some, if_pos rfl]
    · obtain ⟨v', σ1, e1, e2, e3⟩ := k3 σ base hb hS
      refine ⟨v', σ1, ?_, e2, e3⟩
      show b_X12_compared gE gB gC fM gP gQ σ = _
      unfold b_X12_compared
      have hb0 := m_bad (σ := σ1) (by rw [e2]; exact nI_pos' (by omega))
      rw [e1, Option.bind_some]
      dsimp only
      rw [hb0, Option.bind_some, if_neg (by decide), if_neg (by decide), if_neg (by decide)]
theorem compared_out {B : Nat → Int32} {n u o f g : Nat} (hn : n ≤ 50) (hO : ∀ p, p ≤ n → Out B n u o p (f_X3_reads f (nI 3) (nI o)) (f_X12_sum g)) : ∀ p, p ≤ n → Out B n u o p (f_X3_reads (f + 1) (nI 2) (nI o)) (f_X12_compared (g + 1)) :=
  compared_gen (gR := f_X3_reads f) (gU := f_X3_readsUnit f) (gN := f_X3_readsNot f) (gI := f_X3_readsInside f) (gE := f_X12_either g) (gB := f_X12_both g) (gC := f_X12_compared g) (gP := f_X12_product g) (gQ := f_X12_unit g) hn (fun σ => rfl) hO
