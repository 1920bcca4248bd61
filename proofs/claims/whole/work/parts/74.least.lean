/-- what the goings from s cost, k of them -/
def sw (n : Nat) (T : Nat → Int32) (w : Nat → Nat) (s : Nat) : Nat → Nat
  | 0 => 0
  | k + 1 => sw n T w s k + w (itr n T k s)
theorem sw_le {n s : Nat} {T : Nat → Int32} {w : Nat → Nat} : ∀ b a, sw n T w s a ≤ sw n T w s (a + b)
  | 0, a => Nat.le_refl _
  | b + 1, a => by
    have := sw_le (n := n) (T := T) (w := w) (s := s) b a
    show _ ≤ sw n T w s (a + b) + w (itr n T (a + b) s)
    omega
theorem sw_b {n s : Nat} {T : Nat → Int32} {w : Nat → Nat} (hw : ∀ u, u < n → w u ≤ 99) : ∀ k, (∀ i, i < k → itr n T i s < n) → sw n T w s k ≤ 99 * k
  | 0, _ => Nat.le_refl _
  | k + 1, h => by
    have a := sw_b (T := T) (s := s) hw k (fun i hi => h i (by omega))
    have b := hw _ (h k (by omega))
    show sw n T w s k + w (itr n T k s) ≤ _
    omega
/-- v is reached from s first by k goings -/
def Fst (n : Nat) (T : Nat → Int32) (s v k : Nat) : Prop := itr n T k s = v ∧ ∀ i, i < k → itr n T i s ≠ v
theorem Fst_in {n s v k : Nat} {T : Nat → Int32} {dd : Nat → Nat} (hg : GM n T dd) (hn : n ≤ 9) (hs : s < n) (hv : v < n) (h : Fst n T s v k) : ∀ i, i ≤ k → itr n T i s < n := fun i hi => by
  have := itr_le hg hn i s (by omega)
  rcases Nat.lt_or_ge (itr n T i s) n with z | z
  · exact z
  · exfalso
    have e := itr_add n T i (k - i) s
    rw [show k - i + i = k by omega, show itr n T i s = n by omega, itr_n, h.1] at e
    omega
theorem Fst_lt {n s v k : Nat} {T : Nat → Int32} {dd : Nat → Nat} (hg : GM n T dd) (hn : n ≤ 9) (hs : s < n) (hv : v < n) (h : Fst n T s v k) : k < n := by
  have hin := Fst_in hg hn hs hv h
  have key : ∀ i j, i < j → j ≤ k → itr n T i s ≠ itr n T j s := fun i j hij hj e => by
    have e1 := itr_add n T i (k - j) s
    have e2 := itr_add n T j (k - j) s
    rw [e, ← e2, show k - j + j = k by omega, h.1] at e1
    exact h.2 (k - j + i) (by omega) e1
  have := pigeon n (k + 1) (fun i => itr n T i s) (fun i hi => hin i (by omega)) (fun i j hi hj e => by
    rcases Nat.lt_trichotomy i j with z | z | z
    · exact absurd e (key i j z (by omega))
    · exact z
    · exact absurd e.symm (key j i z (by omega)))
  omega
theorem Fst_ex {n s v : Nat} {T : Nat → Int32} : (∃ k, Fst n T s v k) ∨ ∀ k, itr n T k s ≠ v := by
  by_cases z : ∃ k, itr n T k s = v
  · obtain ⟨k, k1, k2⟩ := least_of (P := fun k => itr n T k s = v) z
    exact Or.inl ⟨k, k1, k2⟩
  · exact Or.inr (fun k e => z ⟨k, e⟩)
/-- d is the least that it costs to come from s to v -/
def Dst (n : Nat) (T : Nat → Int32) (w : Nat → Nat) (c s v d : Nat) : Prop := (∃ k, Fst n T s v k ∧ d = if c < sw n T w s k then c else sw n T w s k) ∨ ((∀ k, itr n T k s ≠ v) ∧ d = c)
theorem Dst_le {n c s v d : Nat} {T : Nat → Int32} {w : Nat → Nat} (h : Dst n T w c s v d) : d ≤ c := by
  rcases h with ⟨k, -, h⟩ | ⟨-, h⟩
  · rw [h]; split <;> omega
  · omega
theorem Dst_0 {n c s d : Nat} {T : Nat → Int32} {w : Nat → Nat} (h : Dst n T w c s s d) : d = 0 := by
  rcases h with ⟨k, h1, h⟩ | ⟨h, -⟩
  · have : k = 0 := by
      rcases Nat.eq_zero_or_pos k with z | z
      · exact z
      · exact absurd rfl (h1.2 0 z)
    subst this
    have e : sw n T w s 0 = 0 := rfl
    rw [h, e, if_neg (by omega)]
  · exact absurd rfl (h 0)
theorem Dst_tri {n c s u v a b : Nat} {T : Nat → Int32} {dd w : Nat → Nat} (hg : GM n T dd) (hn : n ≤ 9) (hu : u < n) (hv : v < n) (h1 : Dst n T w c s u a) (h2 : Dst n T w c s v b) : b ≤ a + ew T w c u v := by
  have b1 := Dst_le h2
  unfold ew
  by_cases z : T u = nI v
  · rw [if_pos z]
    by_cases y : c ≤ w u
    · rw [if_pos y]; omega
    · rw [if_neg y]
      rcases h1 with ⟨k, k1, k2⟩ | ⟨-, k2⟩
      · have e : itr n T (k + 1) s = v := by
          show nxt n T (itr n T k s) = v
          rw [k1.1]
          have := pI_nxt hg hn hu
          rw [z] at this
          exact (pI_eq hn (nxt_le hg hn) hv).mp this
        have e2 : sw n T w s (k + 1) = sw n T w s k + w u := by
          show sw n T w s k + w (itr n T k s) = _
          rw [k1.1]
        rcases h2 with ⟨q, q1, q2⟩ | ⟨q1, -⟩
        · have hq : q ≤ k + 1 := by
            rcases Nat.lt_or_ge (k + 1) q with x | x
            · exact absurd e (q1.2 (k + 1) x)
            · exact x
          have := sw_le (n := n) (T := T) (w := w) (s := s) (k + 1 - q) q
          rw [show q + (k + 1 - q) = k + 1 by omega] at this
          rw [k2, q2]
          split <;> split <;> omega
        · exact absurd e (q1 (k + 1))
      · omega
  · rw [if_neg z]; omega
def DJ (n c s i : Nat) (T : Nat → Int32) (w : Nat → Nat) (C : Nat → Nat) (B : Nat → Bool) (pk : Nat → Nat) : Prop :=
  (∀ v, C v ≤ 100000000) ∧ C s = 0 ∧ (∀ v d, v < n → Dst n T w c s v d → d ≤ C v) ∧
  (∀ u v, u < n → v < n → B u = true → C v ≤ C u + ew T w c u v) ∧
  (∀ u v, u < n → v < n → B u = true → B v = false → C u ≤ C v) ∧
  (∀ k, k < i → pk k < n ∧ B (pk k) = true) ∧ (∀ k l, k < i → l < i → pk k = pk l → k = l) ∧ (∀ v, v < n → B v = true → ∃ k, k < i ∧ pk k = v)
theorem DJ_un {n c s i : Nat} {T : Nat → Int32} {w C : Nat → Nat} {B : Nat → Bool} {pk : Nat → Nat} (h : DJ n c s i T w C B pk) (hi : i < n) : ¬ ∀ v, v < n → B v = true := fun z => by
  have H : ∀ v, ∃ k, v < n → k < i ∧ pk k = v := fun v => by
    by_cases y : v < n
    · obtain ⟨k, k1, k2⟩ := h.2.2.2.2.2.2.2 v y (z v y)
      exact ⟨k, fun _ => ⟨k1, k2⟩⟩
    · exact ⟨0, fun x => absurd x y⟩
  obtain ⟨g, hg⟩ := Classical.skolem.mp H
  have := pigeon i n g (fun v hv => (hg v hv).1) (fun u v hu hv e => by
    rw [← (hg u hu).2, ← (hg v hv).2, e])
  omega
theorem DJ_all {n c s : Nat} {T : Nat → Int32} {w C : Nat → Nat} {B : Nat → Bool} {pk : Nat → Nat} (h : DJ n c s n T w C B pk) : ∀ v, v < n → B v = true := fun v hv => by
  obtain ⟨-, -, -, -, -, h6, h7, -⟩ := h
  by_cases z : B v = true
  · exact z
  · exfalso
    have := pigeon n (n + 1) (fun k => if k < n then pk k else v) (fun k hk => by
      show (if k < n then pk k else v) < n
      by_cases y : k < n
      · rw [if_pos y]; exact (h6 k y).1
      · rw [if_neg y]; exact hv) (fun k l hk hl e => by
      have e' : (if k < n then pk k else v) = (if l < n then pk l else v) := e
      by_cases y : k < n
      · by_cases x : l < n
        · rw [if_pos y, if_pos x] at e'
          exact h7 k l y x e'
        · rw [if_pos y, if_neg x] at e'
          exact absurd (e' ▸ (h6 k y).2) z
      · by_cases x : l < n
        · rw [if_neg y, if_pos x] at e'
          exact absurd (e' ▸ (h6 l x).2) z
        · omega)
    omega
/-- the end: what it costs -/
theorem DJ_end {n c s t d : Nat} {T : Nat → Int32} {dd w C : Nat → Nat} {B : Nat → Bool} {pk : Nat → Nat} (hg : GM n T dd) (hn : n ≤ 9) (hs : s < n) (ht : t < n) (h : DJ n c s n T w C B pk) (hd : Dst n T w c s t d) : C t = d := by
  have hall := DJ_all h
  obtain ⟨h1, h2, h3, h4, -⟩ := h
  have lo := h3 t d ht hd
  have hc : C t ≤ c := by
    have := h4 s t hs ht (hall s hs)
    have := ew_le (T := T) (w := w) (c := c) (u := s) (v := t)
    omega
  rcases hd with ⟨k, k1, k2⟩ | ⟨-, k2⟩
  · have hin := Fst_in hg hn hs ht k1
    have key : ∀ i, i ≤ k → C (itr n T i s) ≤ sw n T w s i := by
      intro i
      induction i with
      | zero => intro _; show C s ≤ 0; omega
      | succ i ih =>
        intro hi
        have a := ih (by omega)
        have b1 := hin i (by omega)
        have b2 := hin (i + 1) hi
        have b := h4 (itr n T i s) (itr n T (i + 1) s) b1 b2 (hall _ b1)
        have e : ew T w c (itr n T i s) (itr n T (i + 1) s) ≤ w (itr n T i s) := by
          unfold ew
          have : T (itr n T i s) = nI (itr n T (i + 1) s) := by
            rw [← pI_nxt hg hn b1]
            show pI n (itr n T (i + 1) s) = _
            unfold pI; rw [if_pos b2]
          rw [if_pos this]
          split <;> omega
        show C (itr n T (i + 1) s) ≤ sw n T w s i + w (itr n T i s)
        omega
    have := key k (Nat.le_refl _)
    rw [k1.1] at this
    rw [k2] at lo ⊢
    by_cases y : c < sw n T w s k
    · rw [if_pos y] at lo ⊢; omega
    · rw [if_neg y] at lo ⊢; omega
  · omega
theorem outer_go {n c s t d : Nat} {T : Nat → Int32} {dd w : Nat → Nat} {x4 : Int32} {F : Nat → Int32} (hg : GM n T dd) (hn : n ≤ 9) (hs : s < n) (ht : t < n) (hc : c ≤ 99) (hw : ∀ u, u < n → w u ≤ 99) (h1 : F 1 = nI n) (hT : ∀ u, u < n → F (10 + 4 * u) = T u) (hx : ∀ u v, u < n → v < n → T u = nI v → (x4 = 0 → F (10 + 4 * v + 2) = nI (w u)) ∧ (x4 ≠ 0 → F (10 + 4 * u + 1) = nI (w u))) (hd : Dst n T w c s t d) (hall : ∀ v, ∃ d, Dst n T w c s v d) : ∀ j i m (σ : Sg) C B pk, n - i = j → i ≤ n → j < m → σ 94 = F → (∀ v, v < 9 → σ 99 v = nI (C v)) → (∀ v, v < 9 → σ 100 v = if B v then 1 else 0) → DJ n c s i T w C B pk → ∃ σ', c_X12_least_46 m (nI t) (nI c) x4 (nI i) σ = some (nI d, σ') ∧ ∀ r, r ≠ 99 → r ≠ 100 → σ' r = σ r := by
  intro j
  induction j with
  | zero =>
    intro i m σ C B pk hj hi hm hF hC hB hD
    obtain ⟨m, rfl⟩ : ∃ k, m = k + 1 := ⟨m - 1, by omega⟩
    have e : i = n := by omega
    subst e
    refine ⟨σ, ?_, fun _ _ _ => rfl⟩
    rw [c_X12_least_46, hF, h1, if_pos (nI_le (by omega) (by omega)), gdI (by omega) (by omega), clI (by omega), hC t (by omega), DJ_end hg hn hs ht hD hd]
  | succ j ih =>
    intro i m σ C B pk hj hi hm hF hC hB hD
    obtain ⟨m, rfl⟩ : ∃ k, m = k + 1 := ⟨m - 1, by omega⟩
    have hun := DJ_un hD (by omega)
    obtain ⟨d1, d2, d3, d4, d5, d6, d7, d8⟩ := hD
    obtain ⟨u, u1, u2, u3, u4⟩ := choose_go (n := n) (C := C) (B := B) hn (by rw [hF]; exact h1) hC d1 hB hun (c_X12_least_46 m) (nI t) (nI c) x4 (nI i) n 0 1000 (-1) (by omega) (by omega) (by omega) (Or.inl ⟨rfl, fun v hv => by omega⟩)
    obtain ⟨σ2, C2, e1, e2, e3, e4⟩ := relax_go (n := n) (c := c) (u := u) (T := T) (w := w) (x4 := x4) (F := F) hn u1 hc (hw u u1) h1 (hT u u1) (fun v hv => hx u v u1 hv) n 0 1000 (mup σ 100 u 1) C (by omega) (by omega) (by omega) (by rw [mup_ne (by decide)]; exact hF) (fun v hv => by rw [mup_o (by omega)]; exact hC v hv) d1 (c_X12_least_46 m) (nI t) (nI i)
    have key : c_X12_least_46 (m + 1) (nI t) (nI c) x4 (nI i) σ = c_X12_least_46 m (nI t) (nI c) x4 (nI (i + 1)) σ2 := by
      rw [c_X12_least_46, hF, h1, if_neg (nI_ge (by omega) (by omega))]
      refine Eq.trans u4 ?_
      unfold c_X12_least_121
      rw [gdI (by omega) (by omega), clI (by omega)]
      refine Eq.trans e1 ?_
      unfold c_X12_least_249
      rw [nIp1]
    have cu : C2 u = C u := by rw [e4 u, if_neg (by omega)]
    have cb : ∀ v, v < n → B v = true → C2 v = C v := fun v hv hb => by
      have := d5 v u hv u1 hb u2
      rw [e4 v, if_neg (by omega)]
    have cle : ∀ v, C2 v ≤ C v := fun v => by rw [e4 v]; split <;> omega
    have cge : ∀ v, C u ≤ C v → C u ≤ C2 v := fun v z => by rw [e4 v]; split <;> omega
    have chi : ∀ v, v < n → C2 v ≤ C u + ew T w c u v := fun v hv => by rw [e4 v]; split <;> omega
    have hD2 : DJ n c s (i + 1) T w C2 (fun v => if v = u then true else B v) (fun k => if k = i then u else pk k) := by
      refine ⟨fun v => Nat.le_trans (cle v) (d1 v), ?_, ?_, ?_, ?_, ?_, ?_, ?_⟩
      · have := cle s; omega
      · intro v dv hv hdv
        rw [e4 v]
        have a := d3 v dv hv hdv
        obtain ⟨du, hdu⟩ := hall u
        have b := d3 u du u1 hdu
        have t3 := Dst_tri hg hn u1 hv hdu hdv
        split <;> omega
      · intro p v hp hv hb
        by_cases z : p = u
        · rw [z, cu]; exact chi v hv
        · have hb' : B p = true := by
            have : (if p = u then true else B p) = true := hb
            rw [if_neg z] at this; exact this
          rw [cb p hp hb']
          exact Nat.le_trans (cle v) (d4 p v hp hv hb')
      · intro p v hp hv hb hb2
        have hb2' : (if v = u then true else B v) = false := hb2
        by_cases y : v = u
        · rw [if_pos y] at hb2'; exact absurd hb2' (by decide)
        · rw [if_neg y] at hb2'
          have mn := u3 v hv hb2'
          have := cge v mn
          by_cases z : p = u
          · rw [z, cu]; exact this
          · have hb' : B p = true := by
              have : (if p = u then true else B p) = true := hb
              rw [if_neg z] at this; exact this
            rw [cb p hp hb']
            have := d5 p u hp u1 hb' u2
            omega
      · intro k hk
        show (if k = i then u else pk k) < n ∧ (if (if k = i then u else pk k) = u then true else B (if k = i then u else pk k)) = true
        by_cases z : k = i
        · rw [if_pos z, if_pos rfl]; exact ⟨u1, rfl⟩
        · rw [if_neg z]
          obtain ⟨q1, q2⟩ := d6 k (by omega)
          refine ⟨q1, ?_⟩
          by_cases y : pk k = u
          · rw [if_pos y]
          · rw [if_neg y]; exact q2
      · intro k l hk hl e
        have e' : (if k = i then u else pk k) = (if l = i then u else pk l) := e
        by_cases z : k = i
        · by_cases y : l = i
          · omega
          · rw [if_pos z, if_neg y] at e'
            have := (d6 l (by omega)).2
            rw [← e', u2] at this
            exact absurd this (by decide)
        · by_cases y : l = i
          · rw [if_neg z, if_pos y] at e'
            have := (d6 k (by omega)).2
            rw [e', u2] at this
            exact absurd this (by decide)
          · rw [if_neg z, if_neg y] at e'
            exact d7 k l (by omega) (by omega) e'
      · intro v hv hb
        by_cases z : v = u
        · exact ⟨i, by omega, by show (if i = i then u else pk i) = v; rw [if_pos rfl, z]⟩
        · have hb' : B v = true := by
            have : (if v = u then true else B v) = true := hb
            rw [if_neg z] at this; exact this
          obtain ⟨k, k1, k2⟩ := d8 v hv hb'
          exact ⟨k, by omega, by show (if k = i then u else pk k) = v; rw [if_neg (by omega), k2]⟩
    obtain ⟨σ', g1, g2⟩ := ih (i + 1) m σ2 C2 (fun v => if v = u then true else B v) (fun k => if k = i then u else pk k) (by omega) (by omega) (by omega) (by rw [e3 94 (by decide), mup_ne (by decide)]; exact hF) e2 (fun v hv => by
      rw [e3 100 (by decide)]
      by_cases z : v = u
      · rw [mup_t ⟨rfl, z⟩, if_pos (show (if v = u then true else B v) = true by rw [if_pos z])]
      · rw [mup_o (by omega), hB v hv]
        show _ = if (if v = u then true else B v) = true then _ else _
        rw [if_neg z]) hD2
    exact ⟨σ', key.trans g1, fun r a b => by rw [g2 r a b, e3 r a, mup_ne b]⟩
theorem least_m {n c s t d : Nat} {T : Nat → Int32} {dd w : Nat → Nat} {x4 : Int32} {σ : Sg} (hg : GM n T dd) (hn : n ≤ 9) (hs : s < n) (ht : t < n) (hc : c ≤ 99) (hw : ∀ u, u < n → w u ≤ 99) (h1 : σ 94 1 = nI n) (hT : ∀ u, u < n → σ 94 (10 + 4 * u) = T u) (hx : ∀ u v, u < n → v < n → T u = nI v → (x4 = 0 → σ 94 (10 + 4 * v + 2) = nI (w u)) ∧ (x4 ≠ 0 → σ 94 (10 + 4 * u + 1) = nI (w u))) (hd : Dst n T w c s t d) : ∃ σ', f_X12_least (nI s) (nI t) (nI c) x4 σ = some (nI d, σ') ∧ ∀ r, r ≠ 99 → r ≠ 100 → σ' r = σ r := by
  have hall : ∀ v, ∃ d, Dst n T w c s v d := fun v => by
    rcases Fst_ex (n := n) (T := T) (s := s) (v := v) with ⟨k, hk⟩ | hk
    · exact ⟨_, Or.inl ⟨k, hk, rfl⟩⟩
    · exact ⟨c, Or.inr ⟨hk, rfl⟩⟩
  obtain ⟨σ1, e1, e2, e3⟩ := lstart_go (s := s) (c := c) (x2 := nI t) (x4 := x4) (n := n) (by omega) 9 0 1000 σ (by omega) (by omega) (by omega) (fun v hv => by omega)
  have e94 := e3 94 (by decide) (by decide)
  obtain ⟨σ2, g1, g2⟩ := outer_go (F := σ 94) (x4 := x4) hg hn hs ht hc hw h1 hT hx hd hall n 0 1000 σ1 (fun v => if v = s then 0 else 100000000) (fun _ => false) (fun _ => 0) (by omega) (by omega) (by omega) e94 (fun v hv => (e2 v hv).1) (fun v hv => by rw [(e2 v hv).2]; rfl) ⟨fun v => by show (if v = s then 0 else 100000000) ≤ _; split <;> omega, by show (if s = s then 0 else 100000000) = 0; rw [if_pos rfl], fun v d hv hdv => by
    show d ≤ (if v = s then 0 else 100000000)
    by_cases z : v = s
    · rw [if_pos z]; rw [z] at hdv; rw [Dst_0 hdv]; exact Nat.le_refl _
    · rw [if_neg z]; have := Dst_le hdv; omega, fun u v _ _ z => absurd (show false = true from z) (by decide), fun u v _ _ z => absurd (show false = true from z) (by decide), fun k hk => by omega, fun k l hk => by omega, fun v _ z => absurd (show false = true from z) (by decide)⟩
  refine ⟨σ2, ?_, fun r a b => by rw [g2 r a b, e3 r a b]⟩
  unfold f_X12_least
  refine Eq.trans e1 ?_
  exact g1
