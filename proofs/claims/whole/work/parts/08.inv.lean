theorem mgI_inv {pl : mLoc} {i : Nat} {k : Int32 → Prop} (h : mgI pl i k) : ∃ x, mnth pl i = some (some (.int x)) ∧ k x := by
  unfold mgI at h
  split at h
  · exact ⟨_, by assumption, h⟩
  · exact h.elim
theorem mgR_inv {pl : mLoc} {i : Nat} {k : Nat → Prop} (h : mgR pl i k) : ∃ x, mnth pl i = some (some (.ref x)) ∧ k x := by
  unfold mgR at h
  split at h
  · exact ⟨_, by assumption, h⟩
  · exact h.elim
theorem mgL_inv {pl : mLoc} {i : Nat} {k : Int64 → Prop} (h : mgL pl i k) : ∃ x, mnth pl i = some (some (.long x)) ∧ k x := by
  unfold mgL at h
  split at h
  · exact ⟨_, by assumption, h⟩
  · exact h.elim
theorem msto_inv {pl : mLoc} {i : Nat} {v : Value} {k : mLoc → Prop} (h : msto pl i v k) : ∃ x, mnth pl i = some x ∧ mok1 pl i = true ∧ k (mset pl i v) := by
  unfold msto at h
  split at h
  · exact ⟨_, by assumption, by assumption, h⟩
  · exact h.elim
theorem ms1_inv {st : List Value} {k : Int32 → List Value → Prop} (h : ms1 st k) : ∃ x r, st = .int x :: r ∧ k x r := by
  unfold ms1 at h
  split at h
  · exact ⟨_, _, rfl, h⟩
  · exact h.elim
theorem ms2_inv {st : List Value} {k : Int32 → Int32 → List Value → Prop} (h : ms2 st k) : ∃ x y r, st = .int y :: .int x :: r ∧ k x y r := by
  unfold ms2 at h
  split at h
  · exact ⟨_, _, _, rfl, h⟩
  · exact h.elim
theorem ms1L_inv {st : List Value} {k : Int64 → List Value → Prop} (h : ms1L st k) : ∃ x r, st = .long x :: r ∧ k x r := by
  unfold ms1L at h
  split at h
  · exact ⟨_, _, rfl, h⟩
  · exact h.elim
theorem ms2L_inv {st : List Value} {k : Int64 → Int64 → List Value → Prop} (h : ms2L st k) : ∃ x y r, st = .long y :: .long x :: r ∧ k x y r := by
  unfold ms2L at h
  split at h
  · exact ⟨_, _, _, rfl, h⟩
  · exact h.elim
theorem msLI_inv {st : List Value} {k : Int64 → Int32 → List Value → Prop} (h : msLI st k) : ∃ x y r, st = .int y :: .long x :: r ∧ k x y r := by
  unfold msLI at h
  split at h
  · exact ⟨_, _, _, rfl, h⟩
  · exact h.elim
theorem ms1R_inv {st : List Value} {k : Nat → List Value → Prop} (h : ms1R st k) : ∃ x r, st = .ref x :: r ∧ k x r := by
  unfold ms1R at h
  split at h
  · exact ⟨_, _, rfl, h⟩
  · exact h.elim
theorem msRI_inv {st : List Value} {k : Nat → Int32 → List Value → Prop} (h : msRI st k) : ∃ a i r, st = .int i :: .ref a :: r ∧ k a i r := by
  unfold msRI at h
  split at h
  · exact ⟨_, _, _, rfl, h⟩
  · exact h.elim
theorem msRII_inv {st : List Value} {k : Nat → Int32 → Int32 → List Value → Prop} (h : msRII st k) : ∃ a i x r, st = .int x :: .int i :: .ref a :: r ∧ k a i x r := by
  unfold msRII at h
  split at h
  · exact ⟨_, _, _, _, rfl, h⟩
  · exact h.elim
theorem msRIR_inv {st : List Value} {k : Nat → Int32 → Nat → List Value → Prop} (h : msRIR st k) : ∃ a i v r, st = .ref v :: .int i :: .ref a :: r ∧ k a i v r := by
  unfold msRIR at h
  split at h
  · exact ⟨_, _, _, _, rfl, h⟩
  · exact h.elim
theorem msRp_inv {st : List Value} {k : Nat → Int32 → List Value → Prop} (h : msRp st k) : ∃ a x r, st = .int x :: .ref a :: r ∧ k a x r := by
  unfold msRp at h
  split at h
  · exact ⟨_, _, _, rfl, h⟩
  · exact h.elim
theorem msRR_inv {st : List Value} {k : Nat → Nat → List Value → Prop} (h : msRR st k) : ∃ a v r, st = .ref v :: .ref a :: r ∧ k a v r := by
  unfold msRR at h
  split at h
  · exact ⟨_, _, _, rfl, h⟩
  · exact h.elim
theorem msV_inv {st : List Value} {k : Value → List Value → Prop} (h : msV st k) : ∃ v r, st = v :: r ∧ k v r := by
  unfold msV at h
  split at h
  · exact ⟨_, _, rfl, h⟩
  · exact h.elim
theorem msVV_inv {st : List Value} {k : Value → Value → List Value → Prop} (h : msVV st k) : ∃ v w r, st = v :: w :: r ∧ k v w r := by
  unfold msVV at h
  split at h
  · exact ⟨_, _, _, rfl, h⟩
  · exact h.elim
theorem msCp_inv {st : List Value} {k : Nat → Int32 → Nat → Int32 → Int32 → List Value → Prop} (h : msCp st k) : ∃ a sp b dp n r, st = .int n :: .int dp :: .ref b :: .int sp :: .ref a :: r ∧ k a sp b dp n r := by
  unfold msCp at h
  split at h
  · exact ⟨_, _, _, _, _, _, rfl, h⟩
  · exact h.elim
theorem mob_inv {S : mS} {a ci : Nat} {k : List (Option Nat) → Prop} (h : mob S a ci k) : ∃ rs, mnth S.1 a = some (0, ci, rs) ∧ k rs := by
  unfold mob at h
  split at h
  · rename_i c rs h1
    split at h
    · rename_i h2
      have := Nat.eq_of_beq_eq_true h2
      subst this
      exact ⟨rs, h1, h⟩
    · exact h.elim
  · exact h.elim
theorem maz_inv {S : mS} {a : Nat} {k : Nat → Prop} (h : maz S a k) : ∃ n rs, mnth S.1 a = some (2, n, rs) ∧ k n := by
  unfold maz at h
  split at h
  · exact ⟨_, _, by assumption, h⟩
  · exact h.elim
theorem maq_inv {S : mS} {a : Nat} {k : Nat → List (Option Nat) → Prop} (h : maq S a k) : ∃ n rs, mnth S.1 a = some (3, n, rs) ∧ k n rs := by
  unfold maq at h
  split at h
  · exact ⟨_, _, by assumption, h⟩
  · exact h.elim
theorem mai_inv {S : mS} {a : Nat} {k : Nat → Prop} (h : mai S a k) : ∃ n, mal S a = some n ∧ k n := by
  unfold mai at h
  split at h
  · exact ⟨_, by assumption, h⟩
  · exact h.elim
theorem mal_inv {S : mS} {a n : Nat} (h : mal S a = some n) : (∃ rs, mnth S.1 a = some (1, n, rs)) ∨ (mnth S.1 a = none ∧ ((a = 1000000 ∧ n = S.2.1) ∨ (a = 1000001 ∧ n = 7) ∨ (a = 1000002 ∧ n = 28))) := by
  unfold mal at h
  split at h
  · rename_i h1
    cases h
    exact Or.inl ⟨_, h1⟩
  · cases h
  · rename_i h1
    refine Or.inr ⟨h1, ?_⟩
    split at h
    · cases h; exact Or.inl ⟨rfl, rfl⟩
    · cases h; exact Or.inr (Or.inl ⟨rfl, rfl⟩)
    · cases h; exact Or.inr (Or.inr ⟨rfl, rfl⟩)
    · cases h
theorem mcut_inv : ∀ {n : Nat} {st acc : List Value} {k : List Value → List Value → Prop}, mcut n st acc k → ∃ xs r, xs.length = n ∧ st = xs ++ r ∧ k (xs.reverse ++ acc) r
  | 0, st, acc, k, h => ⟨[], st, rfl, rfl, h⟩
  | n + 1, [], acc, k, h => h.elim
  | n + 1, v :: st, acc, k, h => by
    obtain ⟨xs, r, h1, h2, h3⟩ := mcut_inv (n := n) h
    exact ⟨v :: xs, r, by simp [h1], by simp [h2], by simpa using h3⟩
theorem mcats_eq (G : mG) (r : List Value) : ((r.map (mtr G)).map fun v => v.category).sum = mcats r := by
  induction r with
  | nil => rfl
  | cons v l ih => simp [mcats, mtr_cat, ih] at ih ⊢; exact ih
theorem mcap_inv {k cu su : Nat} (h : mcap k cu su = true) : cu ≤ (mMc k).1 ∧ su ≤ (mMc k).2 := by
  simp only [mcap, Bool.and_eq_true] at h
  exact ⟨Nat.le_of_ble_eq_true h.1, Nat.le_of_ble_eq_true h.2⟩
theorem mOk_inv {mid pc : Nat} {I : mI} (h : mOkB mid pc I = true) : decode (mCd mid) pc = .ok (I.1, mil I.1 I.2.1) ∧ mExB mid pc I = true := by
  simp only [mOkB, Bool.and_eq_true, decide_eq_true_eq] at h
  exact ⟨h.1.1, h.2⟩
theorem mnth_old {G : mG} {S : mS} {H : Heap} (hP : mP G S H) {a : Nat} {e : mE} (h : mnth S.1 a = some e) : mad G a = G.1 + a := mad_lt (by have := mnth_lt h; have := hP.1; omega)
theorem msw_in {J : Nat → Prop} {x : Int32} {df : Nat} : ∀ {ps : List (Int32 × Nat)}, msw J x df ps → (∃ q ∈ ps, x = q.1 ∧ J q.2 ∧ True) ∨ ((∀ q ∈ ps, ¬ x = q.1) ∧ J df)
  | [], h => Or.inr ⟨fun q hq => (by cases hq), h⟩
  | q :: ps, h => by
    by_cases e : x = q.1
    · exact Or.inl ⟨q, List.mem_cons_self, e, h.1 e, trivial⟩
    · rcases msw_in (h.2 e) with ⟨q', h1, h2⟩ | ⟨h1, h2⟩
      · exact Or.inl ⟨q', List.mem_cons_of_mem _ h1, h2⟩
      · refine Or.inr ⟨fun r hr => ?_, h2⟩
        rcases List.mem_cons.mp hr with z | z
        · subst z; exact e
        · exact h1 r z
theorem mswT_at {pc : Nat} {lo : Int} : ∀ {os : List Int} {k : Nat} {ps : List (Int32 × Nat)}, mswT pc lo os k ps = true → ps.length = os.length ∧ ∀ (q : Int32 × Nat), q ∈ ps → ∃ (j : Nat) (o : Int), os[j]? = some o ∧ q.1.toInt = lo + (k + j : Nat) ∧ (pc : Int) + o = q.2
  | [], k, [], _ => ⟨rfl, fun q hq => by cases hq⟩
  | [], k, q :: ps, h => by simp [mswT] at h
  | o :: os, k, [], h => by simp [mswT] at h
  | o :: os, k, q :: ps, h => by
    simp only [mswT, Bool.and_eq_true, decide_eq_true_eq] at h
    obtain ⟨⟨h1, h2⟩, h3⟩ := h
    obtain ⟨g1, g2⟩ := mswT_at h3
    refine ⟨by simp [g1], fun r hr => ?_⟩
    rcases List.mem_cons.mp hr with z | z
    · subst z; exact ⟨0, o, rfl, h1, h2⟩
    · obtain ⟨j, o', e1, e2, e3⟩ := g2 r z
      exact ⟨j + 1, o', by simpa using e1, by rw [e2]; congr 2; omega, e3⟩
theorem mswT_all {pc : Nat} {lo : Int} : ∀ {os : List Int} {k : Nat} {ps : List (Int32 × Nat)}, mswT pc lo os k ps = true → ∀ (j : Nat), j < os.length → ∃ q ∈ ps, q.1.toInt = lo + (k + j : Nat)
  | [], k, ps, _, j, hj => by simp at hj
  | o :: os, k, [], h, j, hj => by simp [mswT] at h
  | o :: os, k, q :: ps, h, j, hj => by
    simp only [mswT, Bool.and_eq_true, decide_eq_true_eq] at h
    obtain ⟨⟨h1, h2⟩, h3⟩ := h
    cases j with
    | zero => exact ⟨q, List.mem_cons_self, h1⟩
    | succ j =>
      obtain ⟨r, e1, e2⟩ := mswT_all h3 j (by simpa using hj)
      exact ⟨r, List.mem_cons_of_mem _ e1, by rw [e2]; congr 2; omega⟩
theorem mswL_off {pc : Nat} {df : Int} {x : Int32} : ∀ {os : List (Int × Int)} {ps : List (Int32 × Nat)}, mswL pc os ps = true → ∀ (J : Nat → Prop) (dt : Nat), (pc : Int) + df = dt → msw J x dt ps → ∃ t : Nat, (pc : Int) + Op.lookupswitch.offset os df x.toInt = t ∧ J t
  | [], [], h, J, dt, hd, hs => ⟨dt, by simpa [Op.lookupswitch.offset] using hd, hs⟩
  | [], q :: ps, h, J, dt, hd, hs => by simp [mswL] at h
  | o :: os, [], h, J, dt, hd, hs => by simp [mswL] at h
  | o :: os, q :: ps, h, J, dt, hd, hs => by
    simp only [mswL, Bool.and_eq_true, decide_eq_true_eq] at h
    obtain ⟨⟨h1, h2⟩, h3⟩ := h
    by_cases e : x = q.1
    · refine ⟨q.2, ?_, hs.1 e⟩
      subst e
      simp [Op.lookupswitch.offset, h1, h2]
    · obtain ⟨t, e1, e2⟩ := mswL_off h3 J dt hd (hs.2 e)
      refine ⟨t, ?_, e2⟩
      have hne : ¬ o.1 = x.toInt := fun z => e (by rw [← h1] at z; exact (Int32.toInt_inj.mp z).symm)
      have hne2 : ¬ x.toInt = o.1 := fun z => hne z.symm
      rw [← e1]
      simp [Op.lookupswitch.offset, List.find?, hne, hne2]
theorem mgA_inv {pl : mLoc} {i : Nat} {k : Value → Prop} (h : mgA pl i k) : (∃ x, mnth pl i = some (some (.ref x)) ∧ k (.ref x)) ∨ (mnth pl i = some (some .null) ∧ k .null) := by
  unfold mgA at h
  split at h
  · exact Or.inl ⟨_, by assumption, h⟩
  · exact Or.inr ⟨by assumption, h⟩
  · exact h.elim
theorem ms1A_inv {st : List Value} {k : Value → List Value → Prop} (h : ms1A st k) : (∃ x r, st = .ref x :: r ∧ k (.ref x) r) ∨ (∃ r, st = .null :: r ∧ k .null r) := by
  unfold ms1A at h
  split at h
  · exact Or.inl ⟨_, _, rfl, h⟩
  · exact Or.inr ⟨_, rfl, h⟩
  · exact h.elim
