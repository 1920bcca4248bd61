theorem nb_in {B : Nat → Int32} {n p : Nat} (h : nb B n p ≠ -1) : p < n := by
  rcases Nat.lt_or_ge p n with z | z
  · exact z
  · exact absurd (by unfold nb; rw [if_neg (by omega)]) h
theorem unit_gen {B : Nat → Int32} {n u o : Nat} {gE gB gC gS gP gQ uX rX : Sg → Option (Int32 × Sg)} {gR : Int32 → Int32 → Sg → Option (Int32 × Sg)} {gU gN gI : Int32 → Sg → Option (Int32 × Sg)} (hn : n ≤ 50) (hu : u ≤ 1) (ho : o ≤ 5)
    (hN : o < 5 → ∀ σ, gN (nI o + 1) σ = (uX σ).bind fun q1 => (if q1.1 = 0 then (some ((0 : Int32), q1.2)) else ((f_X6_append 71 (-33 : Int32) q1.2).bind fun q3 => (some ((1 : Int32), q3)))))
    (hI : o < 5 → ∀ σ, gI (nI o + 1) σ = (rX σ).bind fun q1 => (if q1.1 = 0 then (some ((0 : Int32), q1.2)) else ((f_X3_next q1.2).bind fun q3 => (if q3 = (41 : Int32) then (some ((1 : Int32), (mup q1.2 70 3 ((q1.2 70 3) + (1 : Int32))))) else (some ((0 : Int32), q1.2))))))
    (hU : o < 5 → ∀ p, p ≤ n → Out B n u (o + 1) p uX gQ) (hR : o < 5 → ∀ p, p ≤ n → Out B n u (o + 1) p rX gE) :
    ∀ p, p ≤ n → Out B n u o p (fun σ => b_X3_readsUnit gR gU gN gI (nI o) σ) (fun σ => b_X12_unit gE gB gC gS gP gQ σ) := by
  intro p hp
  obtain ⟨r, rx, rm, rr⟩ := name_eq (nb B n p) hu
  by_cases h33 : nb B n p = 33 ∨ nb B n p = 40
  · have hpn : p < n := nb_in (by rcases h33 with z | z <;> (rw [z]; decide))
    have nd : ¬ (48 ≤ nb B n p ∧ nb B n p ≤ 57) := by rcases h33 with z | z <;> (rw [z]; decide)
    have r1 : r = -1 := by
      rcases rr with z | ⟨-, -, z1, z2, -⟩
      · exact z
      · rcases h33 with z | z
        · exact absurd z z1
        · exact absurd z z2
    have xU : ∀ σ c, XS B n u p c σ → b_X3_readsUnit gR gU gN gI (nI o) σ = c_X3_readsUnit_62 gR gU gN gI (nI o) (nb B n p) σ := fun σ c hS => by
      unfold b_X3_readsUnit
      rw [x_next hS hp hn, Option.bind_some, isDigit_eq, Option.bind_some, bI_0 nd, rx σ hS.1, Option.bind_some, r1, if_pos n1lt]
      rcases h33 with z | z
      · rw [if_pos z]
      · rw [if_neg (by rw [z]; decide), if_pos z]
    have mU : ∀ σ base, base ≤ 264 → MS B base n o p (slw u) σ → b_X12_unit gE gB gC gS gP gQ σ = c_X12_unit_17 gE gB gC gS gP gQ (nb B n p) σ := fun σ base hb hS => by
      unfold b_X12_unit
      rw [m_here hS hp hn hb, Option.bind_some]
      rcases h33 with z | z
      · rw [if_pos z]
      · rw [if_neg (by rw [z]; decide), if_pos z]
    by_cases ho5 : o < 5
    · have xo : nI o < (5 : Int32) := by rw [show (5 : Int32) = nI 5 from rfl, nI_lt_iff (by omega) (by omega)]; exact ho5
      have mo : ∀ σ base, MS B base n o p (slw u) σ → ¬ σ 93 9 = (5 : Int32) := fun σ base hS => by
        rw [hS.2.2.2.2.1, show (5 : Int32) = nI 5 from rfl, nI_eq_iff (by omega) (by omega)]; omega
      have mk1 : ∀ σ : Sg, MK (mup (mup σ 93 9 (σ 93 9 + 1)) 93 6 (mup σ 93 9 (σ 93 9 + 1) 93 6 + 1)) σ := fun σ r k h => by
        rw [mup_o (by omega), mup_o (by omega)]
      have mk9 : ∀ (σ : Sg) (v : Int32), MK (mup σ 93 9 v) σ := fun σ v r k h => mup_o (by omega)
      have mk8 : ∀ (σ : Sg) (v : Int32), MK (mup σ 93 8 v) σ := fun σ v r k h => mup_o (by omega)
      rcases h33 with z | z
      · have xN : ∀ σ, c_X3_readsUnit_62 gR gU gN gI (nI o) (nb B n p) σ = ((uX (mup σ 70 3 (σ 70 3 + 1))).bind fun q1 => (if q1.1 = 0 then (some ((0 : Int32), q1.2)) else ((f_X6_append 71 (-33 : Int32) q1.2).bind fun q3 => (some ((1 : Int32), q3))))).bind fun q5 => (if q5.1 = 0 ∨ q5.1 = 1 then some (q5.1, q5.2) else none) := fun σ => by
          unfold c_X3_readsUnit_62
          rw [if_pos xo, if_pos z, hN ho5]
        rcases hU ho5 (p + 1) (by omega) with ⟨p1, cd1, V1, k1, k2, k3, k4, k5, k6⟩ | ⟨pf, k1, k2, k3⟩
        · refine Or.inl ⟨p1, cd1 ++ [-33], _, by omega, k2, by rw [List.length_append]; show cd1.length + 1 ≤ _; omega, Wk_not k4, fun σ c hS hc => ?_, fun σ base hb hS => ?_⟩
          · have x1 := XO.at1 hS
            have s1 : XS B n u (p + 1) c (mup σ 70 3 (σ 70 3 + 1)) := hS.keep x1
            obtain ⟨σ1, e1, e2⟩ := k5 _ c s1 (by omega)
            have x2 : XO σ1 σ p1 c cd1 := XO.trans x1 e2
            obtain ⟨σ2, f1, f2⟩ := x_append (v := -33) (hS.keep x2) (by omega)
            refine ⟨σ2, ?_, x2.trans f2⟩
            show b_X3_readsUnit gR gU gN gI (nI o) σ = _
            rw [xU σ c hS, xN, e1, Option.bind_some, if_neg one_ne, f1, Option.bind_some, Option.bind_some, if_pos (Or.inr rfl)]
          · obtain ⟨σ1, e1, e2, e3⟩ := k6 _ base hb hS.open1
            have e4 := e3.trans (mk1 σ)
            refine ⟨mup σ1 93 9 (σ1 93 9 - 1), ?_, e2.shut, (mk9 σ1 _).trans e4⟩
            show b_X12_unit gE gB gC gS gP gQ σ = _
            rw [mU σ base hb hS]
            unfold c_X12_unit_17 c_X12_unit_67 c_X12_unit_88
            rw [if_neg (mo σ base hS), if_neg (by rw [z]; decide), e1, Option.bind_some, if_neg (by rw [z]; decide), if_neg (by rw [z]; decide)]
            rw [mup_o (by omega), mup_o (by omega), mup_o (by omega), mup_o (by omega), mup_o (by omega), mup_o (by omega), mup_o (by omega), mup_o (by omega)]
            by_cases y : V1 (σ 98 0) (σ 98 1) (σ 98 2) (σ 98 3) = 0
            · rw [if_pos y, if_pos y]
            · rw [if_neg y, if_neg y]
        · refine Or.inr ⟨pf, k1, fun σ c hS hc => ?_, fun σ base hb hS => ?_⟩
          · have x1 := XO.at1 hS
            have s1 : XS B n u (p + 1) c (mup σ 70 3 (σ 70 3 + 1)) := hS.keep x1
            obtain ⟨σ1, e1, e2, e3⟩ := k2 _ c s1 (by omega)
            refine ⟨σ1, ?_, e2, e3.trans x1.2.2.2.2⟩
            show b_X3_readsUnit gR gU gN gI (nI o) σ = _
            rw [xU σ c hS, xN, e1, Option.bind_some, if_pos rfl, Option.bind_some, if_pos (Or.inl rfl)]
          · obtain ⟨v', σ1, e1, e2, e3⟩ := k3 _ base hb hS.open1
            have e4 := e3.trans (mk1 σ)
            have key : b_X12_unit gE gB gC gS gP gQ σ = (if v' = 0 then some (1, mup σ1 93 9 (σ1 93 9 - 1)) else some (0, mup σ1 93 9 (σ1 93 9 - 1))) := by
              rw [mU σ base hb hS]
              unfold c_X12_unit_17 c_X12_unit_67 c_X12_unit_88
              rw [if_neg (mo σ base hS), if_neg (by rw [z]; decide), e1, Option.bind_some, if_neg (by rw [z]; decide), if_neg (by rw [z]; decide)]
            refine ⟨if v' = 0 then 1 else 0, mup σ1 93 9 (σ1 93 9 - 1), ?_, by rw [mup_o (by omega)]; exact e2, (mk9 σ1 _).trans e4⟩
            show b_X12_unit gE gB gC gS gP gQ σ = _
            rw [key]
            split <;> rfl
      · have xI : ∀ σ, c_X3_readsUnit_62 gR gU gN gI (nI o) (nb B n p) σ = ((rX (mup σ 70 3 (σ 70 3 + 1))).bind fun q1 => (if q1.1 = 0 then (some ((0 : Int32), q1.2)) else ((f_X3_next q1.2).bind fun q3 => (if q3 = (41 : Int32) then (some ((1 : Int32), (mup q1.2 70 3 ((q1.2 70 3) + (1 : Int32))))) else (some ((0 : Int32), q1.2)))))).bind fun q5 => (if q5.1 = 0 ∨ q5.1 = 1 then some (q5.1, q5.2) else none) := fun σ => by
          unfold c_X3_readsUnit_62
          rw [if_pos xo, if_neg (by rw [z]; decide), hI ho5]
        have mI : ∀ σ base, base ≤ 264 → MS B base n o p (slw u) σ → b_X12_unit gE gB gC gS gP gQ σ = (gE (mup (mup σ 93 9 (σ 93 9 + 1)) 93 6 (mup σ 93 9 (σ 93 9 + 1) 93 6 + 1))).bind fun q4 => ((f_X12_takes (41 : Int32) q4.2).bind fun q7 => (if q7.1 = 0 then ((f_X12_wrong q7.2).bind fun q9 => (some (q9.1, q9.2))) else some (q4.1, mup q7.2 93 9 (q7.2 93 9 - 1)))) := fun σ base hb hS => by
          rw [mU σ base hb hS]
          unfold c_X12_unit_17 c_X12_unit_67 c_X12_unit_88
          simp only [z, if_neg (mo σ base hS), if_true]
        rcases hR ho5 (p + 1) (by omega) with ⟨p1, cd1, V1, k1, k2, k3, k4, k5, k6⟩ | ⟨pf, k1, k2, k3⟩
        · by_cases y : nb B n p1 = 41
          · have hp1 : p1 < n := nb_in (by rw [y]; decide)
            refine Or.inl ⟨p1 + 1, cd1, V1, by omega, hp1, by omega, k4, fun σ c hS hc => ?_, fun σ base hb hS => ?_⟩
            · have x1 := XO.at1 hS
              have s1 : XS B n u (p + 1) c (mup σ 70 3 (σ 70 3 + 1)) := hS.keep x1
              obtain ⟨σ1, e1, e2⟩ := k5 _ c s1 (by omega)
              have x2 : XO σ1 σ p1 c cd1 := XO.trans x1 e2
              have s2 := hS.keep x2
              have x3 := XO.at1 s2
              refine ⟨mup σ1 70 3 (σ1 70 3 + 1), ?_, ?_⟩
              · show b_X3_readsUnit gR gU gN gI (nI o) σ = _
                rw [xU σ c hS, xI, e1, Option.bind_some, if_neg one_ne, x_next s2 k2 hn, Option.bind_some, if_pos y, Option.bind_some, if_pos (Or.inr rfl)]
              · have := x2.trans x3
                rw [List.append_nil] at this
                exact this
            · obtain ⟨σ1, e1, e2, e3⟩ := k6 _ base hb hS.open1
              have e4 := e3.trans (mk1 σ)
              have e5 := e2.at1
              refine ⟨mup (mup σ1 93 6 (σ1 93 6 + 1)) 93 9 (mup σ1 93 6 (σ1 93 6 + 1) 93 9 - 1), ?_, e5.shut, (mk9 _ _).trans ((MK.at σ1 _).trans e4)⟩
              show b_X12_unit gE gB gC gS gP gQ σ = _
              rw [mI σ base hb hS, e1, Option.bind_some]
              unfold f_X12_takes
              rw [m_here e2 k2 hn hb, Option.bind_some, if_pos y, Option.bind_some, if_neg one_ne, mup_o (by omega), mup_o (by omega), mup_o (by omega), mup_o (by omega), mup_o (by omega), mup_o (by omega), mup_o (by omega), mup_o (by omega)]
          · refine Or.inr ⟨p1, k2, fun σ c hS hc => ?_, fun σ base hb hS => ?_⟩
            · have x1 := XO.at1 hS
              have s1 : XS B n u (p + 1) c (mup σ 70 3 (σ 70 3 + 1)) := hS.keep x1
              obtain ⟨σ1, e1, e2⟩ := k5 _ c s1 (by omega)
              have x2 : XO σ1 σ p1 c cd1 := XO.trans x1 e2
              have s2 := hS.keep x2
              refine ⟨σ1, ?_, s2.2.1, x2.2.2.2.2⟩
              show b_X3_readsUnit gR gU gN gI (nI o) σ = _
              rw [xU σ c hS, xI, e1, Option.bind_some, if_neg one_ne, x_next s2 k2 hn, Option.bind_some, if_neg y, Option.bind_some, if_pos (Or.inl rfl)]
            · obtain ⟨σ1, e1, e2, e3⟩ := k6 _ base hb hS.open1
              have e4 := e3.trans (mk1 σ)
              refine ⟨0, mup σ1 93 8 (nI p1), ?_, by rw [mup_s], (mk8 σ1 _).trans e4⟩
              show b_X12_unit gE gB gC gS gP gQ σ = _
              rw [mI σ base hb hS, e1, Option.bind_some]
              unfold f_X12_takes
              rw [m_here e2 k2 hn hb, Option.bind_some, if_neg y, Option.bind_some, if_pos rfl, m_wrong e2, Option.bind_some]
        · refine Or.inr ⟨pf, k1, fun σ c hS hc => ?_, fun σ base hb hS => ?_⟩
          · have x1 := XO.at1 hS
            have s1 : XS B n u (p + 1) c (mup σ 70 3 (σ 70 3 + 1)) := hS.keep x1
            obtain ⟨σ1, e1, e2, e3⟩ := k2 _ c s1 (by omega)
            refine ⟨σ1, ?_, e2, e3.trans x1.2.2.2.2⟩
            show b_X3_readsUnit gR gU gN gI (nI o) σ = _
            rw [xU σ c hS, xI, e1, Option.bind_some, if_pos rfl, Option.bind_some, if_pos (Or.inl rfl)]
          · obtain ⟨v', σ1, e1, e2, e3⟩ := k3 _ base hb hS.open1
            have e4 := e3.trans (mk1 σ)
            have bad : 0 ≤ σ1 93 8 := by rw [e2]; exact nI_pos' (by omega)
            refine ⟨0, mup σ1 93 8 (σ1 93 8), ?_, by rw [mup_s]; exact e2, (mk8 σ1 _).trans e4⟩
            show b_X12_unit gE gB gC gS gP gQ σ = _
            rw [mI σ base hb hS, e1, Option.bind_some]
            unfold f_X12_takes
            rw [m_bad bad, Option.bind_some, if_neg (by decide), Option.bind_some, if_pos rfl, m_wrong2 bad, Option.bind_some]
    · have o5 : o = 5 := by omega
      refine Or.inr ⟨p, hp, fun σ c hS hc => ⟨σ, ?_, hS.2.1, fun _ _ _ _ _ => rfl⟩, fun σ base hb hS => ⟨0, mup σ 93 8 (nI p), ?_, by rw [mup_s], fun r k h => mup_o (by omega)⟩⟩
      · show b_X3_readsUnit gR gU gN gI (nI o) σ = _
        rw [xU σ c hS]
        unfold c_X3_readsUnit_62
        rw [o5, if_neg (by decide)]
      · show b_X12_unit gE gB gC gS gP gQ σ = _
        rw [mU σ base hb hS]
        unfold c_X12_unit_17
        rw [hS.2.2.2.2.1, o5, if_pos (show nI 5 = (5 : Int32) from rfl), m_wrong hS, Option.bind_some]
  · have n33 : ¬ nb B n p = 33 := fun z => h33 (Or.inl z)
    have n40 : ¬ nb B n p = 40 := fun z => h33 (Or.inr z)
    rcases rr with r1 | ⟨⟨q, hq, r1⟩, nd, -, -, nm⟩
    · obtain ⟨p', w, k', a1, a2, a3, a4, a5, a6, a7, a8, a9⟩ := num_go (B := B) (u := u) (o := o) (gE := gE) (gB := gB) (gC := gC) (gS := gS) (gP := gP) (gQ := gQ) hn 4 0 p 0 (by omega) (by omega) hp (by omega)
      have mD : ∀ σ base, base ≤ 264 → MS B base n o p (slw u) σ → b_X12_unit gE gB gC gS gP gQ σ = c_X12_unit_150 gE gB gC gS gP gQ 1000 (nI 0) (nI 0) σ := fun σ base hb hS => by
        unfold b_X12_unit
        rw [m_here hS hp hn hb, Option.bind_some, if_neg n33, if_neg n40, rm σ hS.2.2.2.2.2.1, Option.bind_some, r1, if_pos n1lt]
        rfl
      by_cases dg : 48 ≤ nb B n p ∧ nb B n p ≤ 57
      · have hk' := a6 dg (by omega)
        have hpn : p < n := nb_in (fun e => by rw [e] at dg; exact absurd dg.1 (by decide))
        refine Or.inl ⟨p', [nI w], _, by omega, a4, by show 1 ≤ _; omega, Wk_num (k := w) (by omega), fun σ c hS hc => ?_, fun σ base hb hS => ?_⟩
        · obtain ⟨σ', e1, e2⟩ := a8 σ c 1000 hS (by omega) (by omega)
          refine ⟨σ', ?_, e2⟩
          show b_X3_readsUnit gR gU gN gI (nI o) σ = _
          unfold b_X3_readsUnit f_X3_readNumber
          rw [x_next hS hp hn, Option.bind_some, isDigit_eq, Option.bind_some, bI_1 dg]
          refine Eq.trans (congrArg (fun o => Option.bind o _) e1) ?_
          rfl
        · obtain ⟨σ', e1, e2, e3, -⟩ := a9 σ base 1000 hb hS (by omega)
          refine ⟨σ', ?_, e2, e3⟩
          show b_X12_unit gE gB gC gS gP gQ σ = _
          rw [mD σ base hb hS]
          refine Eq.trans e1 ?_
          unfold c_X12_unit_202
          rw [if_neg (nIne0 (by omega) (by omega))]
      · have hk' := a7 dg
        refine Or.inr ⟨p, hp, fun σ c hS hc => ⟨σ, ?_, hS.2.1, fun _ _ _ _ _ => rfl⟩, fun σ base hb hS => ?_⟩
        · show b_X3_readsUnit gR gU gN gI (nI o) σ = _
          unfold b_X3_readsUnit
          rw [x_next hS hp hn, Option.bind_some, isDigit_eq, Option.bind_some, bI_0 dg, rx σ hS.1, Option.bind_some, r1, if_pos n1lt, if_neg n33, if_neg n40]
        · obtain ⟨σ', e1, e2, e3, e4⟩ := a9 σ base 1000 hb hS (by omega)
          have es := e4 hk'
          subst es
          refine ⟨0, mup σ' 93 8 (nI p), ?_, by rw [mup_s], fun r k h => mup_o (by omega)⟩
          show b_X12_unit gE gB gC gS gP gQ σ' = _
          rw [mD σ' base hb hS]
          refine Eq.trans e1 ?_
          unfold c_X12_unit_202
          rw [hk', if_pos (show nI 0 = (0 : Int32) from rfl), m_wrong hS, Option.bind_some]
    · have hpn : p < n := nb_in nm
      refine Or.inl ⟨p + 1, [(-1 : Int32) - nI q], nmd q, by omega, hpn, by show 1 ≤ _; omega, Wk_name hq, fun σ c hS hc => ?_, fun σ base hb hS => ?_⟩
      · have x1 := XO.at1 hS
        have s1 : XS B n u (p + 1) c (mup σ 70 3 (σ 70 3 + 1)) := hS.keep x1
        obtain ⟨σ', e1, e2⟩ := x_append (v := (-1 : Int32) - nI q) s1 (by omega)
        refine ⟨σ', ?_, XO.trans x1 e2⟩
        show b_X3_readsUnit gR gU gN gI (nI o) σ = _
        unfold b_X3_readsUnit
        rw [x_next hS hp hn, Option.bind_some, isDigit_eq, Option.bind_some, bI_0 nd, rx σ hS.1, Option.bind_some, r1, if_neg (nI_pos (by omega)), e1, Option.bind_some]
      · refine ⟨mup σ 93 6 (σ 93 6 + 1), ?_, hS.at1, MK.at σ _⟩
        show b_X12_unit gE gB gC gS gP gQ σ = _
        unfold b_X12_unit
        rw [m_here hS hp hn hb, Option.bind_some, if_neg n33, if_neg n40, rm σ hS.2.2.2.2.2.1, Option.bind_some, r1, if_neg (nI_pos (by omega)), gdI (by omega) (by omega), clI (by omega), mup_o (by omega)]
        obtain rfl | rfl | rfl | rfl : q = 0 ∨ q = 1 ∨ q = 2 ∨ q = 3 := by omega
        · rfl
        · rfl
        · rfl
        · rfl
