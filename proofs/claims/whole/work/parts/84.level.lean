def slw (u : Nat) : Int32 := if u = 0 then 1 else 0
def OkO (B : Nat → Int32) (n u o p : Nat) (fX fM : Sg → Option (Int32 × Sg)) (p' : Nat) (cd : List Int32) (V : Int32 → Int32 → Int32 → Int32 → Int32) : Prop := p < p' ∧ p' ≤ n ∧ cd.length ≤ p' - p ∧ Wk cd V ∧ (∀ σ c, XS B n u p c σ → c + (n - p) ≤ 50 → ∃ σ', fX σ = some (1, σ') ∧ XO σ' σ p' c cd) ∧ (∀ σ base, base ≤ 264 → MS B base n o p (slw u) σ → ∃ σ', fM σ = some (V (σ 98 0) (σ 98 1) (σ 98 2) (σ 98 3), σ') ∧ MS B base n o p' (slw u) σ' ∧ MK σ' σ)
def BadO (B : Nat → Int32) (n u o p : Nat) (fX fM : Sg → Option (Int32 × Sg)) (pf : Nat) : Prop := pf ≤ n ∧ (∀ σ c, XS B n u p c σ → c + (n - p) ≤ 50 → ∃ σ', fX σ = some (0, σ') ∧ σ' 70 3 = nI pf ∧ XK σ' σ) ∧ (∀ σ base, base ≤ 264 → MS B base n o p (slw u) σ → ∃ v σ', fM σ = some (v, σ') ∧ σ' 93 8 = nI pf ∧ MK σ' σ)
def Out (B : Nat → Int32) (n u o p : Nat) (fX fM : Sg → Option (Int32 × Sg)) : Prop := (∃ p' cd V, OkO B n u o p fX fM p' cd V) ∨ (∃ pf, BadO B n u o p fX fM pf)
def lv (c : Int32) : Int32 := (f_X3_levelOf c (fun _ _ => 0)).getD 0
theorem levelOf_ex (c : Int32) : ∃ r, f_X3_levelOf c (fun _ _ => 0) = some r := by
  unfold f_X3_levelOf
  repeat' split
  all_goals exact ⟨_, rfl⟩
theorem levelOf_eq (c : Int32) (σ : Sg) : f_X3_levelOf c σ = some (lv c) := by
  obtain ⟨r, hr⟩ := levelOf_ex c
  have e : f_X3_levelOf c σ = f_X3_levelOf c (fun _ _ => 0) := rfl
  rw [e]
  unfold lv
  rw [hr]
  rfl
theorem lv_is (c : Int32) : (lv c = 0 ↔ c = 124) ∧ (lv c = 1 ↔ c = 38) ∧ (lv c = 2 ↔ c = 60 ∨ c = 61 ∨ c = 62) ∧ (lv c = 3 ↔ c = 43 ∨ c = 45) ∧ (lv c = 4 ↔ c = 42 ∨ c = 47 ∨ c = 37) := by
  by_cases h1 : c = 37
  · subst h1; decide
  by_cases h2 : c = 38
  · subst h2; decide
  by_cases h3 : c = 42
  · subst h3; decide
  by_cases h4 : c = 43
  · subst h4; decide
  by_cases h5 : c = 45
  · subst h5; decide
  by_cases h6 : c = 47
  · subst h6; decide
  by_cases h7 : c = 60
  · subst h7; decide
  by_cases h8 : c = 61
  · subst h8; decide
  by_cases h9 : c = 62
  · subst h9; decide
  by_cases h10 : c = 124
  · subst h10; decide
  have e : lv c = -1 := by
    unfold lv f_X3_levelOf
    rw [if_neg h1, if_neg h2, if_neg h3, if_neg h4, if_neg h5, if_neg h6, if_neg h7, if_neg h8, if_neg h9, if_neg h10]
    rfl
  rw [e]
  refine ⟨⟨fun z => absurd z (by decide), fun z => absurd z h10⟩, ⟨fun z => absurd z (by decide), fun z => absurd z h2⟩, ⟨fun z => absurd z (by decide), fun z => ?_⟩, ⟨fun z => absurd z (by decide), fun z => ?_⟩, ⟨fun z => absurd z (by decide), fun z => ?_⟩⟩
  · rcases z with z | z | z
    · exact absurd z h7
    · exact absurd z h8
    · exact absurd z h9
  · rcases z with z | z
    · exact absurd z h4
    · exact absurd z h5
  · rcases z with z | z | z
    · exact absurd z h3
    · exact absurd z h6
    · exact absurd z h1
theorem lv_op {c : Int32} {l : Nat} (hl : l ≤ 4) (h : lv c = nI l) : -c < (-4 : Int32) ∧ -c ≠ -33 ∧ -(-c) = c := by
  obtain ⟨a0, a1, a2, a3, a4⟩ := lv_is c
  obtain rfl | rfl | rfl | rfl | rfl : l = 0 ∨ l = 1 ∨ l = 2 ∨ l = 3 ∨ l = 4 := by omega
  · rw [a0.mp h]; decide
  · rw [a1.mp h]; decide
  · rcases a2.mp h with z | z | z <;> (rw [z]; decide)
  · rcases a3.mp h with z | z <;> (rw [z]; decide)
  · rcases a4.mp h with z | z | z <;> (rw [z]; decide)
theorem lv_in {B : Nat → Int32} {n p l : Nat} (hl : l ≤ 4) (h : lv (nb B n p) = nI l) : p < n := by
  rcases Nat.lt_or_ge p n with z | z
  · exact z
  · exfalso
    unfold nb at h
    rw [if_neg (by omega)] at h
    have e : lv (-1) = -1 := by decide
    rw [e] at h
    exact absurd (h ▸ nI_pos' (show l < 2 ^ 31 by omega) : (0 : Int32) ≤ -1) (by decide)
theorem loop_out {B : Nat → Int32} {n u o l : Nat} {fX fM : Sg → Option (Int32 × Sg)} {gR : Int32 → Int32 → Sg → Option (Int32 × Sg)} {gU gN gI : Int32 → Sg → Option (Int32 × Sg)} {LM : Nat → Int32 → Sg → Option (Int32 × Sg)} (hn : n ≤ 50) (hl : l ≤ 4) (hX : ∀ σ, gR (nI l + 1) (nI o) σ = fX σ) (hO : ∀ p, p ≤ n → Out B n u o p fX fM)
    (hEnd : ∀ σ base p m v, base ≤ 264 → MS B base n o p (slw u) σ → p ≤ n → lv (nb B n p) ≠ nI l → LM (m + 1) v σ = some (v, σ))
    (hBad : ∀ σ m v, 0 ≤ σ 93 8 → LM (m + 1) v σ = some (v, σ))
    (hStep : ∀ σ base p m v, base ≤ 264 → MS B base n o p (slw u) σ → p ≤ n → lv (nb B n p) = nI l → LM (m + 1) v σ = (fM (mup σ 93 6 (σ 93 6 + 1))).bind fun q => LM m (jn (nb B n p) v q.1) q.2) :
    ∀ j p i (cd0 : List Int32) (V0 : Int32 → Int32 → Int32 → Int32 → Int32), n - p ≤ j → p ≤ n → i < p → Wk cd0 V0 →
      (∃ p' cd V, p ≤ p' ∧ p' ≤ n ∧ cd.length ≤ p' - p ∧ Wk (cd0 ++ cd) V ∧ (∀ σ c m, XS B n u p c σ → c + (n - p) ≤ 50 → j < m → ∃ σ', c_X3_reads_39 gR gU gN gI m (nI l) (nI o) (nI 50) (nI i) σ = some (1, σ') ∧ XO σ' σ p' c cd) ∧ (∀ σ base m, base ≤ 264 → MS B base n o p (slw u) σ → j < m → ∃ σ', LM m (V0 (σ 98 0) (σ 98 1) (σ 98 2) (σ 98 3)) σ = some (V (σ 98 0) (σ 98 1) (σ 98 2) (σ 98 3), σ') ∧ MS B base n o p' (slw u) σ' ∧ MK σ' σ)) ∨
      (∃ pf, pf ≤ n ∧ (∀ σ c m, XS B n u p c σ → c + (n - p) ≤ 50 → j < m → ∃ σ', c_X3_reads_39 gR gU gN gI m (nI l) (nI o) (nI 50) (nI i) σ = some (0, σ') ∧ σ' 70 3 = nI pf ∧ XK σ' σ) ∧ (∀ σ base m v, base ≤ 264 → MS B base n o p (slw u) σ → j < m → ∃ v' σ', LM m v σ = some (v', σ') ∧ σ' 93 8 = nI pf ∧ MK σ' σ)) := by
  have xstop : ∀ p i m σ c, p ≤ n → i < p → XS B n u p c σ → lv (nb B n p) ≠ nI l → c_X3_reads_39 gR gU gN gI (m + 1) (nI l) (nI o) (nI 50) (nI i) σ = some (1, σ) := fun p i m σ c hp hi hS z => by
    rw [c_X3_reads_39, if_neg (nI_ge (by omega) (by omega)), x_next hS hp hn, Option.bind_some, levelOf_eq, Option.bind_some, if_neg z]
  have xstep : ∀ p i m σ c, p ≤ n → i < p → XS B n u p c σ → lv (nb B n p) = nI l → c_X3_reads_39 gR gU gN gI (m + 1) (nI l) (nI o) (nI 50) (nI i) σ = (fX (mup σ 70 3 (σ 70 3 + 1))).bind fun q6 => (if q6.1 = 0 then (some ((0 : Int32), q6.2)) else ((f_X6_append 71 (-(nb B n p)) q6.2).bind fun q8 => (c_X3_reads_39 gR gU gN gI m (nI l) (nI o) (nI 50) (nI (i + 1)) q8))) := fun p i m σ c hp hi hS z => by
    rw [c_X3_reads_39, if_neg (nI_ge (by omega) (by omega)), x_next hS hp hn, Option.bind_some, levelOf_eq, Option.bind_some, if_pos z, Option.bind_some, hX, nIp1]
  intro j
  induction j with
  | zero =>
    intro p i cd0 V0 hj hp hi hW
    have z : lv (nb B n p) ≠ nI l := fun e => by have := lv_in hl e; omega
    refine Or.inl ⟨p, [], V0, Nat.le_refl _, hp, Nat.zero_le _, by rw [List.append_nil]; exact hW, fun σ c m hS hc hm => ?_, fun σ base m hb hS hm => ?_⟩
    · obtain ⟨m, rfl⟩ : ∃ k, m = k + 1 := ⟨m - 1, by omega⟩
      exact ⟨σ, xstop p i m σ c hp hi hS z, hS.2.1, hS.2.2.2.2, fun _ _ => rfl, fun j hj => absurd hj (by simp), fun _ _ _ _ _ => rfl⟩
    · obtain ⟨m, rfl⟩ : ∃ k, m = k + 1 := ⟨m - 1, by omega⟩
      exact ⟨σ, hEnd σ base p m _ hb hS hp z, hS, fun _ _ _ => rfl⟩
  | succ j ih =>
    intro p i cd0 V0 hj hp hi hW
    by_cases z : lv (nb B n p) = nI l
    · have hpn := lv_in hl z
      obtain ⟨o1, o2, o3⟩ := lv_op hl z
      rcases hO (p + 1) (by omega) with ⟨p1, cd1, V1, k1, k2, k3, k4, k5, k6⟩ | ⟨pf, k1, k2, k3⟩
      · have hW2 := Wk_bin hW k4 o1 o2 o3
        have l1 : (cd1 ++ [-(nb B n p)]).length = cd1.length + 1 := by rw [List.length_append]; rfl
        have xgo : ∀ σ c m, XS B n u p c σ → c + (n - p) ≤ 50 → ∃ σ2, c_X3_reads_39 gR gU gN gI (m + 1) (nI l) (nI o) (nI 50) (nI i) σ = c_X3_reads_39 gR gU gN gI m (nI l) (nI o) (nI 50) (nI (i + 1)) σ2 ∧ XO σ2 σ p1 c (cd1 ++ [-(nb B n p)]) ∧ XS B n u p1 (c + (cd1 ++ [-(nb B n p)]).length) σ2 := fun σ c m hS hc => by
          have x1 := XO.at1 hS
          have s1 : XS B n u (p + 1) c (mup σ 70 3 (σ 70 3 + 1)) := hS.keep x1
          obtain ⟨σ1, e1, e2⟩ := k5 _ c s1 (by omega)
          have s2 := s1.keep e2
          obtain ⟨σ2, e3, e4⟩ := x_append (v := -(nb B n p)) s2 (by omega)
          have x2 : XO σ1 σ p1 c cd1 := XO.trans x1 e2
          refine ⟨σ2, ?_, x2.trans e4, hS.keep (x2.trans e4)⟩
          rw [xstep p i m σ c hp hi hS z, e1, Option.bind_some, if_neg one_ne, e3, Option.bind_some]
        have mgo : ∀ σ base m, base ≤ 264 → MS B base n o p (slw u) σ → ∃ σ2, LM (m + 1) (V0 (σ 98 0) (σ 98 1) (σ 98 2) (σ 98 3)) σ = LM m (jn (nb B n p) (V0 (σ2 98 0) (σ2 98 1) (σ2 98 2) (σ2 98 3)) (V1 (σ2 98 0) (σ2 98 1) (σ2 98 2) (σ2 98 3))) σ2 ∧ MS B base n o p1 (slw u) σ2 ∧ MK σ2 σ := fun σ base m hb hS => by
          obtain ⟨σ2, e1, e2, e3⟩ := k6 _ base hb hS.at1
          have e4 : MK σ2 σ := e3.trans (MK.at σ _)
          refine ⟨σ2, ?_, e2, e4⟩
          rw [hStep σ base p m _ hb hS hp z, e1, Option.bind_some, e4 98 0 (by omega), e4 98 1 (by omega), e4 98 2 (by omega), e4 98 3 (by omega), mup_o (by omega), mup_o (by omega), mup_o (by omega), mup_o (by omega)]
        rcases ih p1 (i + 1) _ _ (by omega) (by omega) (by omega) hW2 with ⟨p2, cd2, V2, q1, q2, q3, q4, q5, q6⟩ | ⟨pf, q1, q2, q3⟩
        · refine Or.inl ⟨p2, (cd1 ++ [-(nb B n p)]) ++ cd2, V2, by omega, q2, by rw [List.length_append, l1]; omega, by rw [← List.append_assoc]; exact q4, fun σ c m hS hc hm => ?_, fun σ base m hb hS hm => ?_⟩
          · obtain ⟨m, rfl⟩ : ∃ k, m = k + 1 := ⟨m - 1, by omega⟩
            obtain ⟨σ2, e1, e2, e3⟩ := xgo σ c m hS hc
            obtain ⟨σ3, f1, f2⟩ := q5 σ2 _ m e3 (by rw [l1]; omega) (by omega)
            exact ⟨σ3, e1.trans f1, e2.trans f2⟩
          · obtain ⟨m, rfl⟩ : ∃ k, m = k + 1 := ⟨m - 1, by omega⟩
            obtain ⟨σ2, e1, e2, e3⟩ := mgo σ base m hb hS
            obtain ⟨σ3, f1, f2, f3⟩ := q6 σ2 base m hb e2 (by omega)
            refine ⟨σ3, ?_, f2, f3.trans e3⟩
            rw [e1]
            refine Eq.trans f1 ?_
            rw [e3 98 0 (by omega), e3 98 1 (by omega), e3 98 2 (by omega), e3 98 3 (by omega)]
        · refine Or.inr ⟨pf, q1, fun σ c m hS hc hm => ?_, fun σ base m v hb hS hm => ?_⟩
          · obtain ⟨m, rfl⟩ : ∃ k, m = k + 1 := ⟨m - 1, by omega⟩
            obtain ⟨σ2, e1, e2, e3⟩ := xgo σ c m hS hc
            obtain ⟨σ3, f1, f2, f3⟩ := q2 σ2 _ m e3 (by rw [l1]; omega) (by omega)
            exact ⟨σ3, e1.trans f1, f2, f3.trans e2.2.2.2.2⟩
          · obtain ⟨m, rfl⟩ : ∃ k, m = k + 1 := ⟨m - 1, by omega⟩
            obtain ⟨σ2, e1, e2, e3⟩ := k6 _ base hb hS.at1
            obtain ⟨v', σ3, f1, f2, f3⟩ := q3 σ2 base m (jn (nb B n p) v (V1 (mup σ 93 6 (σ 93 6 + 1) 98 0) (mup σ 93 6 (σ 93 6 + 1) 98 1) (mup σ 93 6 (σ 93 6 + 1) 98 2) (mup σ 93 6 (σ 93 6 + 1) 98 3))) hb e2 (by omega)
            refine ⟨v', σ3, ?_, f2, f3.trans (e3.trans (MK.at σ _))⟩
            rw [hStep σ base p m v hb hS hp z, e1, Option.bind_some]
            exact f1
      · refine Or.inr ⟨pf, k1, fun σ c m hS hc hm => ?_, fun σ base m v hb hS hm => ?_⟩
        · obtain ⟨m, rfl⟩ : ∃ k, m = k + 1 := ⟨m - 1, by omega⟩
          have x1 := XO.at1 hS
          have s1 : XS B n u (p + 1) c (mup σ 70 3 (σ 70 3 + 1)) := hS.keep x1
          obtain ⟨σ1, e1, e2, e3⟩ := k2 _ c s1 (by omega)
          refine ⟨σ1, ?_, e2, e3.trans x1.2.2.2.2⟩
          rw [xstep p i m σ c hp hi hS z, e1, Option.bind_some, if_pos rfl]
        · obtain ⟨m, rfl⟩ : ∃ k, m = k + 1 + 1 := ⟨m - 2, by omega⟩
          obtain ⟨v', σ1, e1, e2, e3⟩ := k3 _ base hb hS.at1
          refine ⟨jn (nb B n p) v v', σ1, ?_, e2, e3.trans (MK.at σ _)⟩
          rw [hStep σ base p (m + 1) v hb hS hp z, e1, Option.bind_some]
          exact hBad σ1 m _ (by rw [e2]; exact nI_pos' (by omega))
    · refine Or.inl ⟨p, [], V0, Nat.le_refl _, hp, Nat.zero_le _, by rw [List.append_nil]; exact hW, fun σ c m hS hc hm => ?_, fun σ base m hb hS hm => ?_⟩
      · obtain ⟨m, rfl⟩ : ∃ k, m = k + 1 := ⟨m - 1, by omega⟩
        exact ⟨σ, xstop p i m σ c hp hi hS z, hS.2.1, hS.2.2.2.2, fun _ _ => rfl, fun j hj => absurd hj (by simp), fun _ _ _ _ _ => rfl⟩
      · obtain ⟨m, rfl⟩ : ∃ k, m = k + 1 := ⟨m - 1, by omega⟩
        exact ⟨σ, hEnd σ base p m _ hb hS hp z, hS, fun _ _ _ => rfl⟩
/-- a level of joined ones, from the next -/
theorem level_out {B : Nat → Int32} {n u o l : Nat} {fX fM : Sg → Option (Int32 × Sg)} {gR : Int32 → Int32 → Sg → Option (Int32 × Sg)} {gU gN gI : Int32 → Sg → Option (Int32 × Sg)} {LM : Nat → Int32 → Sg → Option (Int32 × Sg)} (hn : n ≤ 50) (hl : l ≤ 4) (hl2 : l ≠ 2) (hX : ∀ σ, gR (nI l + 1) (nI o) σ = fX σ) (hO : ∀ p, p ≤ n → Out B n u o p fX fM)
    (hEnd : ∀ σ base p m v, base ≤ 264 → MS B base n o p (slw u) σ → p ≤ n → lv (nb B n p) ≠ nI l → LM (m + 1) v σ = some (v, σ))
    (hBad : ∀ σ m v, 0 ≤ σ 93 8 → LM (m + 1) v σ = some (v, σ))
    (hStep : ∀ σ base p m v, base ≤ 264 → MS B base n o p (slw u) σ → p ≤ n → lv (nb B n p) = nI l → LM (m + 1) v σ = (fM (mup σ 93 6 (σ 93 6 + 1))).bind fun q => LM m (jn (nb B n p) v q.1) q.2) :
    ∀ p, p ≤ n → Out B n u o p (fun σ => b_X3_reads gR gU gN gI (nI l) (nI o) σ) (fun σ => (fM σ).bind fun q => LM 1000 q.1 q.2) := by
  intro p hp
  have hb : ∀ σ, b_X3_reads gR gU gN gI (nI l) (nI o) σ = (fX σ).bind fun q10 => (if q10.1 = 0 then (some ((0 : Int32), q10.2)) else c_X3_reads_39 gR gU gN gI 1000 (nI l) (nI o) (nI 50) (nI 0) q10.2) := fun σ => by
    unfold b_X3_reads c_X3_reads_35
    have h2 : ¬ nI l = (2 : Int32) := by rw [show (2 : Int32) = nI 2 from rfl, nI_eq_iff (by omega) (by omega)]; omega
    rw [if_pos (by rw [show (5 : Int32) = nI 5 from rfl, nI_lt_iff (by omega) (by omega)]; omega), hX]
    simp only [if_neg h2]
    rfl
  rcases hO p hp with ⟨p1, cd1, V1, k1, k2, k3, k4, k5, k6⟩ | ⟨pf, k1, k2, k3⟩
  · rcases loop_out (gR := gR) (gU := gU) (gN := gN) (gI := gI) hn hl hX hO hEnd hBad hStep (n - p1) p1 0 cd1 V1 (Nat.le_refl _) k2 (by omega) k4 with ⟨p2, cd2, V2, q1, q2, q3, q4, q5, q6⟩ | ⟨pf, q1, q2, q3⟩
    · refine Or.inl ⟨p2, cd1 ++ cd2, V2, by omega, q2, by rw [List.length_append]; omega, q4, fun σ c hS hc => ?_, fun σ base hb2 hS => ?_⟩
      · obtain ⟨σ1, e1, e2⟩ := k5 σ c hS hc
        obtain ⟨σ2, f1, f2⟩ := q5 σ1 _ 1000 (hS.keep e2) (by omega) (by omega)
        refine ⟨σ2, ?_, e2.trans f2⟩
        show b_X3_reads gR gU gN gI (nI l) (nI o) σ = _
        rw [hb, e1, Option.bind_some, if_neg one_ne]
        exact f1
      · obtain ⟨σ1, e1, e2, e3⟩ := k6 σ base hb2 hS
        obtain ⟨σ2, f1, f2, f3⟩ := q6 σ1 base 1000 hb2 e2 (by omega)
        refine ⟨σ2, ?_, f2, f3.trans e3⟩
        show (fM σ).bind _ = _
        rw [e1, Option.bind_some]
        rw [e3 98 0 (by omega), e3 98 1 (by omega), e3 98 2 (by omega), e3 98 3 (by omega)] at f1
        exact f1
    · refine Or.inr ⟨pf, q1, fun σ c hS hc => ?_, fun σ base hb2 hS => ?_⟩
      · obtain ⟨σ1, e1, e2⟩ := k5 σ c hS hc
        obtain ⟨σ2, f1, f2, f3⟩ := q2 σ1 _ 1000 (hS.keep e2) (by omega) (by omega)
        refine ⟨σ2, ?_, f2, f3.trans e2.2.2.2.2⟩
        show b_X3_reads gR gU gN gI (nI l) (nI o) σ = _
        rw [hb, e1, Option.bind_some, if_neg one_ne]
        exact f1
      · obtain ⟨σ1, e1, e2, e3⟩ := k6 σ base hb2 hS
        obtain ⟨v', σ2, f1, f2, f3⟩ := q3 σ1 base 1000 (V1 (σ 98 0) (σ 98 1) (σ 98 2) (σ 98 3)) hb2 e2 (by omega)
        refine ⟨v', σ2, ?_, f2, f3.trans e3⟩
        show (fM σ).bind _ = _
        rw [e1, Option.bind_some]
        exact f1
  · refine Or.inr ⟨pf, k1, fun σ c hS hc => ?_, fun σ base hb2 hS => ?_⟩
    · obtain ⟨σ1, e1, e2, e3⟩ := k2 σ c hS hc
      refine ⟨σ1, ?_, e2, e3⟩
      show b_X3_reads gR gU gN gI (nI l) (nI o) σ = _
      rw [hb, e1, Option.bind_some, if_pos rfl]
    · obtain ⟨v', σ1, e1, e2, e3⟩ := k3 σ base hb2 hS
      refine ⟨v', σ1, ?_, e2, e3⟩
      show (fM σ).bind _ = _
      rw [e1, Option.bind_some]
      exact hBad σ1 999 v' (by rw [e2]; exact nI_pos' (by omega))
