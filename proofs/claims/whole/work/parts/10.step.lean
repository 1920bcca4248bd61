theorem mad_sp (G : mG) (i : Nat) : mad G (1000000 + i) = G.2.1 i := by
  unfold mad
  rw [if_neg (by omega), Nat.add_sub_cancel_left]
section MT
variable {d mid : Nat} {G : mG} {p : Program} {l : Launch} {e : Env} {R : Room} {s : State} {m : MethodId} {args : Array Value} {below : List Frame} {meth : Method} {c : Code} {Q : State → Prop} {res : Option Value × mS} {J K : mK6} {pc : Nat} {pl : mLoc} {st : List Value} {S : mS} {cu su : Nat} {H : Heap} {locs : List Loc} {ls : Array Slot}
set_option maxHeartbeats 4000000 in
theorem mst_sound (C : mCx d mid G p R s m args meth c) (hF : mFin mid G p l e R s m args below meth c Q res) (hJ : ∀ pc pl st S cu su, J pc pl st S cu su → mGo mid G p l e R s m args below meth c Q pc pl st S cu su) {I : mI} (hK : ∀ pl st S cu su, K (pc + mil I.1 I.2.1) pl st S cu su → mGo mid G p l e R s m args below meth c Q (pc + mil I.1 I.2.1) pl st S cu su) (ho : mOkB mid pc I = true) (h : mst d mid res J I pc pl st S cu su K) : mGo mid G p l e R s m args below meth c Q pc pl st S cu su := by
  intro H locs ls hP hS hl hcu
  have C0 := C
  obtain ⟨hx, hb, hml, hown, hts, hKs, hd1, hd2, hc1, hc2, hin, hlk, hnk⟩ := C
  obtain ⟨i, len, a, b, w, ps⟩ := I
  obtain ⟨hd, he⟩ := mOk_inv ho
  dsimp only at hd
  cases i with
  | iconst n =>
    cases ps with
    | nil => exact h.elim
    | cons q ps => exact lv_iconst hx hb hd (of_decide_eq_true he) (hK _ _ _ _ _ h H locs ls hP hS hl hcu)
  | bipush n =>
    cases ps with
    | nil => exact h.elim
    | cons q ps => exact lv_bipush hx hb hd (of_decide_eq_true he) (hK _ _ _ _ _ h H locs ls hP hS hl hcu)
  | sipush n =>
    cases ps with
    | nil => exact h.elim
    | cons q ps => exact lv_sipush hx hb hd (of_decide_eq_true he) (hK _ _ _ _ _ h H locs ls hP hS hl hcu)
  | lconst n =>
    cases ps with
    | nil => exact h.elim
    | cons q ps => exact lv_lconst hx hb hd (of_decide_eq_true he) (hK _ _ _ _ _ h H locs ls hP hS hl hcu)
  | aconst_null => exact lv_null hx hb hd (hK _ _ _ _ _ h H locs ls hP hS hl hcu)
  | ldc n =>
    cases ps with
    | nil => exact h.elim
    | cons q ps => exact lv_ldc hx hb hown (hts _ (mwd_in he)) hd (hK _ _ _ _ _ h H locs ls hP hS hl hcu)
  | ldc_w n =>
    cases ps with
    | nil => exact h.elim
    | cons q ps => exact lv_ldcw hx hb hown (hts _ (mwd_in he)) hd (hK _ _ _ _ _ h H locs ls hP hS hl hcu)
  | ldc2_w n =>
    cases ps with
    | nil => exact lv_ldc2 hx hb hown (hts _ (mwd_in he)) hd (hK _ _ _ _ _ h H locs ls hP hS hl hcu)
    | cons q ps => exact lv_ldc2 hx hb hown (hts _ (mwd_in he)) hd (hK _ _ _ _ _ h H locs ls hP hS hl hcu)
  | iload_n n =>
    obtain ⟨x, h1, h⟩ := mgI_inv h
    exact lv_iload_n hx hb hd rfl (hl.2.2.2 n _ h1) (hK _ _ _ _ _ h H locs ls hP hS hl hcu)
  | iload n =>
    obtain ⟨x, h1, h⟩ := mgI_inv h
    exact lv_iload hx hb hd (hl.2.2.2 n _ h1) (hK _ _ _ _ _ h H locs ls hP hS hl hcu)
  | aload_n n =>
    have h : mgA pl n (fun x => K (pc + 1) pl (x :: st) S cu su) := h
    rcases mgA_inv h with ⟨x, h1, h⟩ | ⟨h1, h⟩
    · exact lv_aload_n hx hb hd rfl (hl.2.2.2 n _ h1) (hK _ _ _ _ _ h H locs ls hP hS hl hcu)
    · exact lv_aload_nN hx hb hd rfl (hl.2.2.2 n _ h1) (hK _ _ _ _ _ h H locs ls hP hS hl hcu)
  | aload n =>
    have h : mgA pl n (fun x => K (pc + 2) pl (x :: st) S cu su) := h
    rcases mgA_inv h with ⟨x, h1, h⟩ | ⟨h1, h⟩
    · exact lv_aload hx hb hd (hl.2.2.2 n _ h1) (hK _ _ _ _ _ h H locs ls hP hS hl hcu)
    · exact lv_aloadN hx hb hd (hl.2.2.2 n _ h1) (hK _ _ _ _ _ h H locs ls hP hS hl hcu)
  | lload_n n =>
    obtain ⟨x, h1, h⟩ := mgL_inv h
    exact lv_lload_n hx hb hd rfl (hl.2.2.2 n _ h1) (hK _ _ _ _ _ h H locs ls hP hS hl hcu)
  | lload n =>
    obtain ⟨x, h1, h⟩ := mgL_inv h
    exact lv_lload hx hb hd (hl.2.2.2 n _ h1) (hK _ _ _ _ _ h H locs ls hP hS hl hcu)
  | istore_n n =>
    obtain ⟨x, r, est, g⟩ := ms1_inv h
    subst est
    have h := g
    obtain ⟨y, h1, h2, h⟩ := msto_inv h
    exact lv_istore_n hx hb hd rfl hl.has (by rw [← hl.1]; exact mnth_lt h1) rfl (fun ls' hl' => hK _ _ _ _ _ h H locs ls' hP hS (mlv.of (v := .int x) hl.1 h1 h2 hl') hcu)
  | istore n =>
    obtain ⟨x, r, est, g⟩ := ms1_inv h
    subst est
    have h := g
    obtain ⟨y, h1, h2, h⟩ := msto_inv h
    exact lv_istore hx hb hd hl.has (by rw [← hl.1]; exact mnth_lt h1) rfl (fun ls' hl' => hK _ _ _ _ _ h H locs ls' hP hS (mlv.of (v := .int x) hl.1 h1 h2 hl') hcu)
  | astore_n n =>
    have h : ms1A st (fun x r => msto pl n x fun pl => K (pc + 1) pl r S cu su) := h
    rcases ms1A_inv h with ⟨x, r, est, g⟩ | ⟨r, est, g⟩
    · subst est
      obtain ⟨y, h1, h2, g⟩ := msto_inv g
      exact lv_astore_n hx hb hd rfl hl.has (by rw [← hl.1]; exact mnth_lt h1) rfl (fun ls' hl' => hK _ _ _ _ _ g H locs ls' hP hS (mlv.of (v := .ref x) hl.1 h1 h2 hl') hcu)
    · subst est
      obtain ⟨y, h1, h2, g⟩ := msto_inv g
      exact lv_astore_nN hx hb hd rfl hl.has (by rw [← hl.1]; exact mnth_lt h1) rfl (fun ls' hl' => hK _ _ _ _ _ g H locs ls' hP hS (mlv.of (v := .null) hl.1 h1 h2 hl') hcu)
  | astore n =>
    have h : ms1A st (fun x r => msto pl n x fun pl => K (pc + 2) pl r S cu su) := h
    rcases ms1A_inv h with ⟨x, r, est, g⟩ | ⟨r, est, g⟩
    · subst est
      obtain ⟨y, h1, h2, g⟩ := msto_inv g
      exact lv_astore hx hb hd hl.has (by rw [← hl.1]; exact mnth_lt h1) rfl (fun ls' hl' => hK _ _ _ _ _ g H locs ls' hP hS (mlv.of (v := .ref x) hl.1 h1 h2 hl') hcu)
    · subst est
      obtain ⟨y, h1, h2, g⟩ := msto_inv g
      exact lv_astoreN hx hb hd hl.has (by rw [← hl.1]; exact mnth_lt h1) rfl (fun ls' hl' => hK _ _ _ _ _ g H locs ls' hP hS (mlv.of (v := .null) hl.1 h1 h2 hl') hcu)
  | iinc n v =>
    cases ps with
    | nil => exact h.elim
    | cons q ps =>
      obtain ⟨x, h0, h⟩ := mgI_inv h
      obtain ⟨y, h1, h2, h⟩ := msto_inv h
      obtain ⟨k, hk⟩ := List.getElem?_of_mem (mll_mem (G := G) (q := (n, .int x)) |>.mpr ⟨.int x, h0, rfl⟩)
      exact lv_iinc hx hb hd hl.has hk (by rw [of_decide_eq_true (show decide (Int32.ofInt v = q.1) = true from he)]) (by rw [← hl.1]; exact mnth_lt h1) rfl (fun ls' hl' => hK _ _ _ _ _ h H locs ls' hP hS (mlv.of (v := .int (x + q.1)) hl.1 h1 h2 hl') hcu)
  | iadd =>
    obtain ⟨x, y, r, est, g⟩ := ms2_inv h
    subst est
    have h := g
    exact lv_iadd hx hb hd (hK _ _ _ _ _ h H locs ls hP hS hl hcu)
  | isub =>
    obtain ⟨x, y, r, est, g⟩ := ms2_inv h
    subst est
    have h := g
    exact lv_isub hx hb hd (hK _ _ _ _ _ h H locs ls hP hS hl hcu)
  | imul =>
    obtain ⟨x, y, r, est, g⟩ := ms2_inv h
    subst est
    have h := g
    exact lv_imul hx hb hd (hK _ _ _ _ _ h H locs ls hP hS hl hcu)
  | iand =>
    obtain ⟨x, y, r, est, g⟩ := ms2_inv h
    subst est
    have h := g
    exact lv_iand hx hb hd (hK _ _ _ _ _ h H locs ls hP hS hl hcu)
  | ior =>
    obtain ⟨x, y, r, est, g⟩ := ms2_inv h
    subst est
    have h := g
    exact lv_ior hx hb hd (hK _ _ _ _ _ h H locs ls hP hS hl hcu)
  | ixor =>
    obtain ⟨x, y, r, est, g⟩ := ms2_inv h
    subst est
    have h := g
    exact lv_ixor hx hb hd (hK _ _ _ _ _ h H locs ls hP hS hl hcu)
  | ishl =>
    obtain ⟨x, y, r, est, g⟩ := ms2_inv h
    subst est
    have h := g
    exact lv_ishl hx hb hd (hK _ _ _ _ _ h H locs ls hP hS hl hcu)
  | ishr =>
    obtain ⟨x, y, r, est, g⟩ := ms2_inv h
    subst est
    have h := g
    exact lv_ishr hx hb hd (hK _ _ _ _ _ h H locs ls hP hS hl hcu)
  | iushr =>
    obtain ⟨x, y, r, est, g⟩ := ms2_inv h
    subst est
    have h := g
    exact lv_iushr hx hb hd rfl (hK _ _ _ _ _ h H locs ls hP hS hl hcu)
  | idiv =>
    obtain ⟨x, y, r, est, h1, g⟩ := ms2_inv h
    subst est
    have h := g
    exact lv_idiv hx hb hd h1 (hK _ _ _ _ _ h H locs ls hP hS hl hcu)
  | irem =>
    obtain ⟨x, y, r, est, h1, g⟩ := ms2_inv h
    subst est
    have h := g
    exact lv_irem hx hb hd h1 (hK _ _ _ _ _ h H locs ls hP hS hl hcu)
  | ineg =>
    obtain ⟨x, r, est, g⟩ := ms1_inv h
    subst est
    have h := g
    exact lv_ineg hx hb hd (hK _ _ _ _ _ h H locs ls hP hS hl hcu)
  | i2b =>
    obtain ⟨x, r, est, g⟩ := ms1_inv h
    subst est
    have h := g
    exact lv_i2b hx hb hd rfl (hK _ _ _ _ _ h H locs ls hP hS hl hcu)
  | i2s =>
    obtain ⟨x, r, est, g⟩ := ms1_inv h
    subst est
    have h := g
    exact lv_i2s hx hb hd rfl (hK _ _ _ _ _ h H locs ls hP hS hl hcu)
  | i2l =>
    obtain ⟨x, r, est, g⟩ := ms1_inv h
    subst est
    have h := g
    exact lv_i2l hx hb hd rfl (hK _ _ _ _ _ h H locs ls hP hS hl hcu)
  | l2i =>
    obtain ⟨x, r, est, g⟩ := ms1L_inv h
    subst est
    have h := g
    exact lv_l2i hx hb hd rfl (hK _ _ _ _ _ h H locs ls hP hS hl hcu)
  | land =>
    obtain ⟨x, y, r, est, g⟩ := ms2L_inv h
    subst est
    have h := g
    exact lv_land hx hb hd (hK _ _ _ _ _ h H locs ls hP hS hl hcu)
  | lor =>
    obtain ⟨x, y, r, est, g⟩ := ms2L_inv h
    subst est
    have h := g
    exact lv_lor hx hb hd (hK _ _ _ _ _ h H locs ls hP hS hl hcu)
  | lcmp =>
    obtain ⟨x, y, r, est, g⟩ := ms2L_inv h
    subst est
    have h := g
    exact W.lcmp hx hb hd (hK _ _ _ _ _ h H locs ls hP hS hl hcu)
  | lshl =>
    obtain ⟨x, y, r, est, g⟩ := msLI_inv h
    subst est
    have h := g
    exact lv_lshl hx hb hd rfl (hK _ _ _ _ _ h H locs ls hP hS hl hcu)
  | lshr =>
    obtain ⟨x, y, r, est, g⟩ := msLI_inv h
    subst est
    have h := g
    exact lv_lshr hx hb hd rfl (hK _ _ _ _ _ h H locs ls hP hS hl hcu)
  | lushr =>
    obtain ⟨x, y, r, est, g⟩ := msLI_inv h
    subst est
    have h := g
    exact lv_lushr hx hb hd rfl (hK _ _ _ _ _ h H locs ls hP hS hl hcu)
  | goto o => exact lv_goto hx hb hd (of_decide_eq_true he) (hJ _ _ _ _ _ _ h H locs ls hP hS hl hcu)
  | ifCond k o =>
    obtain ⟨x, r, est, h1, h2⟩ := ms1_inv h
    subst est
    have k1 := fun z => hJ _ _ _ _ _ _ (h1 z) H locs ls hP hS hl hcu
    have k2 := fun z => hK _ _ _ _ _ (h2 z) H locs ls hP hS hl hcu
    cases k with
    | eq => exact lv_if_eq hx hb hd (of_decide_eq_true he) k1 k2
    | ne => exact lv_if_ne hx hb hd (of_decide_eq_true he) k1 (fun z => k2 (fun n => n z))
    | lt => exact lv_if_lt hx hb hd (of_decide_eq_true he) k1 k2
    | ge => exact lv_if_ge hx hb hd (of_decide_eq_true he) k1 k2
    | gt => exact lv_if_gt hx hb hd (of_decide_eq_true he) k1 k2
    | le => exact lv_if_le hx hb hd (of_decide_eq_true he) k1 k2
  | if_icmp k o =>
    obtain ⟨x, y, r, est, h1, h2⟩ := ms2_inv h
    subst est
    have k1 := fun z => hJ _ _ _ _ _ _ (h1 z) H locs ls hP hS hl hcu
    have k2 := fun z => hK _ _ _ _ _ (h2 z) H locs ls hP hS hl hcu
    cases k with
    | eq => exact lv_icmp_eq hx hb hd (of_decide_eq_true he) k1 k2
    | ne => exact lv_icmp_ne hx hb hd (of_decide_eq_true he) k1 (fun z => k2 (fun n => n z))
    | lt => exact lv_icmp_lt hx hb hd (of_decide_eq_true he) k1 k2
    | ge => exact lv_icmp_ge hx hb hd (of_decide_eq_true he) k1 k2
    | gt => exact lv_icmp_gt hx hb hd (of_decide_eq_true he) k1 k2
    | le => exact lv_icmp_le hx hb hd (of_decide_eq_true he) k1 k2
  | ifnull o =>
    cases st with
    | nil => exact h.elim
    | cons v r =>
      cases v with
      | null => exact lv_ifnullN hx hb hd (of_decide_eq_true he) (hJ _ _ _ _ _ _ h H locs ls hP hS hl hcu)
      | ref a => exact lv_ifnull hx hb hd (hK _ _ _ _ _ h H locs ls hP hS hl hcu)
      | _ => exact h.elim
  | ifnonnull o =>
    cases st with
    | nil => exact h.elim
    | cons v r =>
      cases v with
      | null => exact lv_ifnonnullN hx hb hd (hK _ _ _ _ _ h H locs ls hP hS hl hcu)
      | ref a => exact lv_ifnonnull hx hb hd (of_decide_eq_true he) (hJ _ _ _ _ _ _ h H locs ls hP hS hl hcu)
      | _ => exact h.elim
  | tableswitch df lo hi os =>
    obtain ⟨x, r, est, g⟩ := ms1_inv h
    subst est
    have h := g
    simp only [mExB, Bool.and_eq_true, decide_eq_true_eq] at he
    obtain ⟨⟨e1, e2⟩, e3⟩ := he
    rcases msw_in h with ⟨q, q1, q2, q3, -⟩ | ⟨q1, q2⟩
    · obtain ⟨g1, g2⟩ := mswT_at e3
      obtain ⟨j, o, j1, j2, j3⟩ := g2 q q1
      have hj : j < os.size := by
        have := (List.getElem?_eq_some_iff.mp j1).1
        simpa using this
      rw [← q2] at j2
      refine lv_tableIn hx hb hd (by omega) (by omega) (off := o) ?_ j3 (hJ _ _ _ _ _ _ q3 H locs ls hP hS hl hcu)
      rw [show (x.toInt - lo).toNat = j by omega]
      rw [← Array.getElem?_toList]
      exact j1
    · refine lv_tableOut hx hb hd ?_ e1 (hJ _ _ _ _ _ _ q2 H locs ls hP hS hl hcu)
      rcases Classical.em (x.toInt < lo) with z | z
      · exact Or.inl z
      · refine Or.inr ?_
        rcases Classical.em (hi < x.toInt) with z2 | z2
        · exact z2
        · obtain ⟨q, g1, g2⟩ := mswT_all e3 (x.toInt - lo).toNat (by rw [Array.length_toList]; omega)
          exact absurd (Int32.toInt_inj.mp (by rw [g2]; omega)) (q1 q g1)
  | lookupswitch df prs =>
    obtain ⟨x, r, est, g⟩ := ms1_inv h
    subst est
    have h := g
    simp only [mExB, Bool.and_eq_true, decide_eq_true_eq] at he
    obtain ⟨⟨e1, e2⟩, e3⟩ := he
    obtain ⟨t, t1, t2⟩ := mswL_off (x := x) e3 _ _ e1 h
    exact lv_lookup hx hb hd e2 rfl t1 (hJ _ _ _ _ _ _ t2 H locs ls hP hS hl hcu)
  | dup =>
    obtain ⟨v, r, est, g⟩ := msV_inv h
    subst est
    have h := g
    try dsimp only at h
    split at h
    · rename_i hv
      exact lv_dup hx hb hd (by rw [mtr_cat]; exact hv) (hK _ _ _ _ _ h H locs ls hP hS hl hcu)
    · exact h.elim
  | dup2 =>
    obtain ⟨v, w, r, est, g⟩ := msVV_inv h
    subst est
    have h := g
    try dsimp only at h
    split at h
    · rename_i hv hw
      exact lv_dup2_11 hx hb hd (by rw [mtr_cat]; exact hv) (by rw [mtr_cat]; exact hw) (hK _ _ _ _ _ h H locs ls hP hS hl hcu)
    · exact h.elim
  | getfield x =>
    obtain ⟨a', r, est, g⟩ := ms1R_inv h
    subst est
    have h := g
    obtain ⟨rs, h1, h⟩ := mob_inv h
    simp only [mExB, Bool.and_eq_true] at he
    obtain ⟨⟨e1, e2⟩, e3⟩ := he
    have ha : a < 13 := by simpa [Nat.blt_eq] using e2
    have hbf : b < mNf a := by simpa [Nat.blt_eq] using e3
    obtain ⟨ty, f1, f2, f3, f4, f5, f6, f7, f8⟩ := mCf_all ha
    have hv := mFs_at (G := G) (σ := S.2.2) (k := a') (rs := rs) hbf
    show W p l e R s m args below meth c H locs cu su Q (F0 m pc ls (.ref (mad G a') :: r.map (mtr G)))
    rw [mnth_old hP h1]
    refine va_get (D := G.2.2.1) (ci := a) (C := (mCq a).1) (T := (mCq a).2.1) (N := (mCq a).2.2) hx hb hts f1 hown hKs.1 hP.2.1 a' (mWs_some h1) f8 b (by rw [← f6]; exact hbf) (hts _ (mwd_in e1)) (fun _ h9 => h9) hv hd ?_
    dsimp only at h
    by_cases hk2 : mkd a b = 2
    · rw [hk2] at h
      rw [if_pos hk2, ← mtr_pv]
      exact hK _ _ _ _ _ h H locs ls hP hS hl hcu
    · rw [if_neg hk2]
      have h' : K (pc + 3) pl (.int (S.2.2 a' b) :: r) S cu su := by
        split at h
        · rename_i z; exact absurd z hk2
        · exact h
      exact hK _ _ _ _ _ h' H locs ls hP hS hl hcu
  | putfield x =>
    simp only [mExB, Bool.and_eq_true] at he
    obtain ⟨⟨⟨e1, e2⟩, e3⟩, e4⟩ := he
    have ha : a < 13 := by simpa [Nat.blt_eq] using e2
    have hbf : b < mNf a := by simpa [Nat.blt_eq] using e3
    obtain ⟨ty, f1, f2, f3, f4, f5, f6, f7, f8⟩ := mCf_all ha
    have hbN : b < (mCq a).2.2 := by rw [← f6]; exact hbf
    have hfin : (mTT a b).2.2.2 = false ∨ ((mTT a b).2.2.2 = true ∧ (mY mid).name = "<init>" ∧ (mTT a b).1 = (mY mid).cls) := by
      cases hz : (mTT a b).2.2.2 with
      | false => exact Or.inl rfl
      | true =>
        rw [hz] at e4
        simp at e4
        exact Or.inr ⟨rfl, e4⟩
    have key : ∀ (v : Value) (a' : Nat) (rs : List (Option Nat)) (rest : List Value), mnth S.1 a' = some (0, a, rs) → narrow (ty b) v = v → fits (ty b) v = true →
        (∀ (H1 : Heap) (locs1 : List Loc), va_P G.2.2.1 mCl ((mWs G S).set a' (G.1 + a', .inr (a, (mFs G S.2.2 a' a rs).set b v))) H1 → va_S (mA G) s.heap H1 locs1 → W p l e R s m args below meth c H1 locs1 cu su Q (F0 m (pc + 3) ls rest)) →
        W p l e R s m args below meth c H locs cu su Q (F0 m pc ls (v :: .ref (mad G a') :: rest)) := by
      intro v a' rs rest h1 hn hf kk
      rw [mnth_old hP h1]
      rcases hfin with z | ⟨z1, z2, z3⟩
      · exact va_put (D := G.2.2.1) (ci := a) (C := (mCq a).1) (T := (mCq a).2.1) (N := (mCq a).2.2) hx hb hts f1 ty f2 f3 hown hKs.1 hP.2.1 (mWs_D G S) hS a' (mWs_some h1) f8 b hbN (hts _ (mwd_in e1)) (fun _ h9 => h9) z (f2 b hbN) hn hf (by rw [mFs_len]; exact hbf) hd (fun H1 locs1 g1 _ g3 => kk H1 locs1 g1 g3)
      · exact va_putF (D := G.2.2.1) (ci := a) (C := (mCq a).1) (T := (mCq a).2.1) (N := (mCq a).2.2) hx hb hts f1 ty f2 f3 hown hKs.1 hP.2.1 (mWs_D G S) hS a' (mWs_some h1) f8 b hbN (hts _ (mwd_in e1)) (fun _ h9 => h9) z1 (hin z2) z3 (f2 b hbN) hn hf (by rw [mFs_len]; exact hbf) hd (fun H1 locs1 g1 _ g3 => kk H1 locs1 g1 g3)
    have h : mputf a b pc pl st S cu su K := h
    unfold mputf at h
    rcases f7 b hbN with ⟨k1, k2⟩ | ⟨k1, k2⟩ | ⟨k1, k2⟩
    · rw [k1] at h
      obtain ⟨a', x', r, est, g⟩ := msRp_inv h
      subst est
      have h := g
      obtain ⟨rs, h1, h⟩ := mob_inv h
      refine key (.int x') a' rs (r.map (mtr G)) h1 (by rw [k2]; rfl) (by rw [k2]; rfl) (fun H1 locs1 g1 g3 => ?_)
      refine hK _ _ _ _ _ h H1 locs1 ls (mP_row hP h1 ?_) g3 hl hcu
      show va_P _ _ ((mWs G S).set a' (G.1 + a', .inr (a, mFs G (mup S.2.2 a' b x') a' a rs))) H1
      rw [mFs_int hbf (by rw [k1]; decide)]
      exact g1
    · rw [k1] at h
      obtain ⟨a', x', r, est, g⟩ := msRp_inv h
      subst est
      have h := g
      obtain ⟨rs, h1, hx01, h⟩ := mob_inv h
      refine key (.int x') a' rs (r.map (mtr G)) h1 (by rw [k2]; rcases hx01 with z | z <;> subst z <;> rfl) (by rw [k2]; rcases hx01 with z | z <;> subst z <;> rfl) (fun H1 locs1 g1 g3 => ?_)
      refine hK _ _ _ _ _ h H1 locs1 ls (mP_row hP h1 ?_) g3 hl hcu
      show va_P _ _ ((mWs G S).set a' (G.1 + a', .inr (a, mFs G (mup S.2.2 a' b x') a' a rs))) H1
      rw [mFs_int hbf (by rw [k1]; decide)]
      exact g1
    · rw [k1] at h
      obtain ⟨a', v, r, est, g⟩ := msRR_inv h
      subst est
      have h := g
      obtain ⟨rs, h1, h⟩ := mob_inv h
      split at h
      · rename_i hlen
        have hlen := Nat.eq_of_beq_eq_true hlen
        refine key (.ref (mad G v)) a' rs (r.map (mtr G)) h1 (by rcases k2 with ⟨n, k2⟩ | ⟨n, k2⟩ <;> rw [k2] <;> rfl) (by rcases k2 with ⟨n, k2⟩ | ⟨n, k2⟩ <;> rw [k2] <;> rfl) (fun H1 locs1 g1 g3 => ?_)
        refine hK _ _ _ _ _ h H1 locs1 ls (mP_set hP h1 ?_) g3 hl (by simpa using hcu)
        show va_P _ _ ((mWs G S).set a' (G.1 + a', .inr (a, mFs G S.2.2 a' a (rs.set b (some v))))) H1
        rw [mFs_ref hbf k1 hlen]
        exact g1
      · exact h.elim
  | getstatic x =>
    simp only [mExB] at he
    match a, he, h with
    | 1, he, h =>
      have k1 := hK _ _ _ _ _ h H locs ls hP hS hl hcu
      have k2 : W p l e R s m args below meth c H locs cu su Q (F0 m (pc + 3) ls (.ref (G.2.1 1) :: st.map (mtr G))) := by
        rw [← mad_sp G 1]
        exact k1
      simp only [Bool.or_eq_true] at he
      rcases he with he | he
      · exact va_gets hx hb hKs.2.2.2.2.1 hS hown (hts _ (mwd_in he)) (fun _ h9 => h9) hd k2
      · exact va_getsN hx hb hKs.2.2.2.2.1 hS hown (va_Nw.use rfl (hnk _ (mwn_in he))) (fun _ h9 => h9) hd k2
    | 2, he, h =>
      have k1 := hK _ _ _ _ _ h H locs ls hP hS hl hcu
      have k2 : W p l e R s m args below meth c H locs cu su Q (F0 m (pc + 3) ls (.ref (G.2.1 2) :: st.map (mtr G))) := by
        rw [← mad_sp G 2]
        exact k1
      exact va_gets hx hb hKs.2.2.2.2.2.1 hS hown (hts _ (mwd_in he)) (fun _ h9 => h9) hd k2
    | 0, he, h => simp at he
    | n + 3, he, h => simp at he
  | new x =>
    obtain ⟨⟨g1, g2⟩, h⟩ := h
    simp only [mExB, Bool.and_eq_true] at he
    obtain ⟨e1, e2⟩ := he
    have ha : a < 13 := by simpa [Nat.blt_eq] using e2
    obtain ⟨ty, f1, f2, f3, f4, f5, f6, f7, f8⟩ := mCf_all ha
    obtain ⟨p1, p2⟩ := mcap_inv g1
    have g2 := Nat.le_of_ble_eq_true g2
    refine mW_size (fun hz => ?_)
    have hz2 := mP_eq hP hKs hS hcu hz
    have hKn := hKs.1.1 a _ f8
    refine W.newcK hx hb hown (hts _ (mwd_in e1)) (hts _ f4) (hts _ f5) rfl hd (Nat.le_trans p1 hc1) (by rw [← f6]; exact Nat.le_trans p2 hc2) hKn.2.1 hz2 (fun H1 kC hkC e3 z1 o1 => ?_)
    rw [← f6]
    have hnew := hK _ _ _ _ _ h H1 locs ls (mP_push hP g2 (fun q hq => o1 q (by omega)) ?_) (hS.grow (by omega) (fun q hq => o1 q (by omega))) hl (by simp; omega)
    · have hm : mad G S.1.length = G.1 + S.1.length := mad_lt (by omega)
      have k2 : W p l e R s m args below meth c H1 locs (cu + 1) (su + mNf a) Q (F0 m (pc + 3) ls (.ref (mad G S.1.length) :: st.map (mtr G))) := hnew
      rw [hm] at k2
      exact k2
    · refine ⟨_, f8, (u_born ty hts f1 hKn hkC e3 f2).to (fun j hj => ?_)⟩
      show defaultValue (ty j) = vp_V (mFs G (mrow S.2.2 S.1.length (fun _ => 0)) S.1.length a (List.replicate (mNf a) none)) j
      have hv := mFs_at (G := G) (σ := mrow S.2.2 S.1.length (fun _ => 0)) (k := S.1.length) (ci := a) (rs := List.replicate (mNf a) none) (j := j) (by rw [f6]; exact hj)
      rw [vp_V, List.getD_eq_getElem?_getD, hv]
      rcases f7 j hj with ⟨k1, k2⟩ | ⟨k1, k2⟩ | ⟨k1, k2⟩
      · rw [if_neg (by rw [k1]; decide), k2]; simp [mrow, defaultValue]
      · rw [if_neg (by rw [k1]; decide), k2]; simp [mrow, defaultValue]
      · rw [if_pos k1]
        have e9 : (List.replicate (mNf a) (none : Option Nat)).getD j none = none := by
          simp [List.getD_eq_getElem?_getD, List.getElem?_replicate]
          split <;> rfl
        rw [e9]
        rcases k2 with ⟨n, k2⟩ | ⟨n, k2⟩ <;> rw [k2] <;> rfl
  | newarray t =>
    obtain ⟨n, r, est, g⟩ := ms1_inv h
    subst est
    obtain ⟨⟨g1, g2, g3, g4⟩, g⟩ := g
    obtain ⟨p1, p2⟩ := mcap_inv g3
    have g4 := Nat.le_of_ble_eq_true g4
    have g2 := Nat.le_of_ble_eq_true g2
    refine mW_size (fun hz => ?_)
    have hz2 := mP_eq hP hKs hS hcu hz
    have hm : mad G S.1.length = G.1 + S.1.length := mad_lt (by omega)
    cases t with
    | int =>
      refine va_newaK hx hb (atype := .int) (hts _ mTb_ai) rfl hd rfl g1 rfl (by show n.toNatClampNeg * 4 ≤ _; omega) (Nat.le_trans p1 hc1) (Nat.le_trans p2 hc2) hz2 (fun H1 cA e3 z1 o1 hAr hNm => ?_)
      have hcA : cA = G.2.2.2.1.1 := Option.some.inj (hNm.symm.trans (hKs.1.2 0 _ rfl).2)
      subst hcA
      have hnew := hK _ _ _ _ _ g H1 locs ls (mP_push hP g4 (fun q hq => o1 q (by omega)) ?_) (hS.grow (by omega) (fun q hq => o1 q (by omega))) hl (by simp; omega)
      · have k2 : W p l e R s m args below meth c H1 locs (cu + 1) (su + n.toNatClampNeg) Q (F0 m (pc + 2) ls (.ref (mad G S.1.length) :: r.map (mtr G))) := hnew
        rw [hm] at k2
        exact k2
      · show H1[G.1 + S.1.length]? = some (vp_cell _ _)
        rw [e3]
        simp [vp_cell, mrow]
        rfl
    | boolean =>
      refine va_newaK hx hb (atype := .boolean) (hts _ mTb_az) rfl hd rfl g1 rfl (by show n.toNatClampNeg * 1 ≤ _; omega) (Nat.le_trans p1 hc1) (Nat.le_trans p2 hc2) hz2 (fun H1 cA e3 z1 o1 hAr hNm => ?_)
      have hcA : cA = G.2.2.2.1.2.1 := Option.some.inj (hNm.symm.trans (hKs.1.2 1 _ rfl).2)
      subst hcA
      have hnew := hK _ _ _ _ _ g H1 locs ls (mP_push hP g4 (fun q hq => o1 q (by omega)) ?_) (hS.grow (by omega) (fun q hq => o1 q (by omega))) hl (by simp; omega)
      · have k2 : W p l e R s m args below meth c H1 locs (cu + 1) (su + n.toNatClampNeg) Q (F0 m (pc + 2) ls (.ref (mad G S.1.length) :: r.map (mtr G))) := hnew
        rw [hm] at k2
        exact k2
      · show H1[G.1 + S.1.length]? = some (vp_cell _ _)
        rw [e3]
        simp [vp_cell, mrow]
        rfl
    | _ => exact g.elim
  | anewarray x =>
    obtain ⟨n, r, est, g⟩ := ms1_inv h
    subst est
    obtain ⟨⟨g1, g2, g3, g4⟩, g⟩ := g
    obtain ⟨p1, p2⟩ := mcap_inv g3
    have g4 := Nat.le_of_ble_eq_true g4
    have g2 := Nat.le_of_ble_eq_true g2
    refine mW_size (fun hz => ?_)
    have hz2 := mP_eq hP hKs hS hcu hz
    have hm : mad G S.1.length = G.1 + S.1.length := mad_lt (by omega)
    refine W.anew hx hb hown (hts _ (mwd_in he)) (va_AO.use hKs.2.2.2.2.2.2.1) rfl hd rfl g1 (by omega) (Nat.le_trans p1 hc1) (Nat.le_trans p2 hc2) (fun cA kA comp f1 f2 f3 f4 => ?_)
    have hcA : cA = G.2.2.2.1.2.2 := by
      obtain ⟨kA', comp', q1, q2, q3, q4⟩ := (hKs.1.2 2 _ rfl).2
      exact Option.some.inj (f1.symm.trans q4)
    subst hcA
    generalize hH1 : H.push ({ cls := G.2.2.2.1.2.2, slots := Array.replicate n.toNatClampNeg .null, vm := .none } : Cell) = H1
    have z1 : H1.size = H.size + 1 := by rw [← hH1, Array.size_push]
    have e3 : H1[H.size]? = some (arrV G.2.2.2.1.2.2 n.toNatClampNeg (fun _ => .null)) := by rw [← hH1, Array.getElem?_push_size, ← arrV_new]
    have o1 : ∀ q : Nat, q < H.size → H1[q]? = H[q]? := fun q hq => by rw [← hH1, Array.getElem?_push, if_neg (Nat.ne_of_lt hq)]
    have hnew := hK _ _ _ _ _ g H1 locs ls (mP_push hP g4 o1 ?_) (hS.grow (by omega) o1) hl (by simp; omega)
    · have k2 : W p l e R s m args below meth c H1 locs (cu + 1) (su + n.toNatClampNeg) Q (F0 m (pc + 3) ls (.ref (mad G S.1.length) :: r.map (mtr G))) := hnew
      rw [hm, ← hz2] at k2
      exact k2
    · show H1[G.1 + S.1.length]? = some (vp_cell _ _)
      rw [← hz2, e3]
      simp only [vp_cell]
      congr 2
      funext j
      have e9 : (List.replicate n.toNatClampNeg (none : Option Nat)).getD j none = none := by
        simp [List.getD_eq_getElem?_getD, List.getElem?_replicate]
        split <;> rfl
      rw [e9]; rfl
  | arraylength =>
    obtain ⟨a', r, est, g⟩ := ms1R_inv h
    subst est
    show W p l e R s m args below meth c H locs cu su Q (F0 m pc ls (.ref (mad G a') :: r.map (mtr G)))
    try dsimp only at g
    split at g
    · rename_i n rs h1
      rw [mnth_old hP h1]
      exact va_alen hx hb hKs.1 hP.2.1 a' 2 (mWs_some h1) (ty := .object RX5) rfl rfl hd (hK _ _ _ _ _ g H locs ls hP hS hl hcu)
    · obtain ⟨n, h1, g⟩ := mai_inv g
      have k1 := hK _ _ _ _ _ g H locs ls hP hS hl hcu
      rcases mal_inv h1 with ⟨rs, h2⟩ | ⟨-, ⟨rfl, rfl⟩ | ⟨rfl, rfl⟩ | ⟨rfl, rfl⟩⟩
      · rw [mnth_old hP h2]
        exact va_alen hx hb hKs.1 hP.2.1 a' 0 (mWs_some h2) (ty := .int) rfl rfl hd k1
      · exact va_tlen (t := G.2.1 0) hx hb hKs.2.1 hS (by rw [← hP.2.2.1]) hd k1
      · exact va_tlen (t := G.2.1 1) hx hb hKs.2.2.1 hS rfl hd k1
      · exact va_tlen (t := G.2.1 2) hx hb hKs.2.2.2.1 hS rfl hd k1
  | iaload =>
    obtain ⟨a', i', r, est, g⟩ := msRI_inv h
    subst est
    show W p l e R s m args below meth c H locs cu su Q (F0 m pc ls (.int i' :: .ref (mad G a') :: r.map (mtr G)))
    obtain ⟨n, h1, g1, g⟩ := mai_inv g
    have k1 := hK _ _ _ _ _ g H locs ls hP hS hl hcu
    rcases mal_inv h1 with ⟨rs, h2⟩ | ⟨-, ⟨rfl, rfl⟩ | ⟨rfl, rfl⟩ | ⟨rfl, rfl⟩⟩
    · rw [mnth_old hP h2]
      exact va_iald hx hb hKs.1 hP.2.1 a' 0 (mWs_some h2) rfl g1 hd k1
    · exact va_ti (t := G.2.1 0) hx hb hKs.2.1 hS (by rw [← hP.2.2.1]; exact g1) (by rw [← hP.2.2.2.1]; rfl) hd k1
    · exact va_ti (t := G.2.1 1) hx hb hKs.2.2.1 hS g1 (by rw [← hP.2.2.2.2.1]; rfl) hd k1
    · exact va_ti (t := G.2.1 2) hx hb hKs.2.2.2.1 hS g1 (by rw [← hP.2.2.2.2.2]; rfl) hd k1
  | iastore =>
    obtain ⟨a', i', x', r, est, g⟩ := msRII_inv h
    subst est
    show W p l e R s m args below meth c H locs cu su Q (F0 m pc ls (.int x' :: .int i' :: .ref (mad G a') :: r.map (mtr G)))
    try dsimp only at g
    split at g
    · rename_i n rs h1
      obtain ⟨g1, g⟩ := g
      rw [mnth_old hP h1]
      refine va_iast hx hb hKs.1 hP.2.1 (mWs_D G S) hS a' 0 (mWs_some h1) rfl g1 hd (fun H1 locs1 q1 _ q3 => ?_)
      refine hK _ _ _ _ _ g H1 locs1 ls (mP_row hP h1 ?_) q3 hl hcu
      have e9 : mEn G (mup S.2.2 a' i'.toNatClampNeg x') a' (1, n, rs) = .inl (G.2.2.2.1.1, n, .inl (upd (S.2.2 a') i'.toNatClampNeg x')) := by
        simp only [mEn, mup, mrow, if_pos]
      show va_P _ _ ((mWs G S).set a' (G.1 + a', mEn G (mup S.2.2 a' i'.toNatClampNeg x') a' (1, n, rs))) H1
      rw [e9]
      exact q1
    · exact g.elim
  | baload =>
    obtain ⟨a', i', r, est, g⟩ := msRI_inv h
    subst est
    show W p l e R s m args below meth c H locs cu su Q (F0 m pc ls (.int i' :: .ref (mad G a') :: r.map (mtr G)))
    obtain ⟨n, rs, h1, g1, g⟩ := maz_inv g
    rw [mnth_old hP h1]
    exact va_zald hx hb hKs.1 hP.2.1 a' 1 (mWs_some h1) rfl g1 hd (hK _ _ _ _ _ g H locs ls hP hS hl hcu)
  | bastore =>
    obtain ⟨a', i', x', r, est, g⟩ := msRII_inv h
    subst est
    show W p l e R s m args below meth c H locs cu su Q (F0 m pc ls (.int x' :: .int i' :: .ref (mad G a') :: r.map (mtr G)))
    obtain ⟨n, rs, h1, g1, g⟩ := maz_inv g
    rw [mnth_old hP h1]
    refine va_zast hx hb hKs.1 hP.2.1 (mWs_D G S) hS a' 1 (mWs_some h1) rfl g1 hd (fun H1 locs1 q1 _ q3 => ?_)
    refine hK _ _ _ _ _ g H1 locs1 ls (mP_row hP h1 ?_) q3 hl hcu
    have e9 : mEn G (mup S.2.2 a' i'.toNatClampNeg (vp_nar .boolean x')) a' (2, n, rs) = .inl (G.2.2.2.1.2.1, n, .inl (upd (S.2.2 a') i'.toNatClampNeg (vp_nar .boolean x'))) := by
      simp only [mEn, mup, mrow, if_pos]
    show va_P _ _ ((mWs G S).set a' (G.1 + a', mEn G (mup S.2.2 a' i'.toNatClampNeg (vp_nar .boolean x')) a' (2, n, rs))) H1
    rw [e9]
    exact q1
  | aaload =>
    obtain ⟨a', i', r, est, g⟩ := msRI_inv h
    subst est
    show W p l e R s m args below meth c H locs cu su Q (F0 m pc ls (.int i' :: .ref (mad G a') :: r.map (mtr G)))
    obtain ⟨n, rs, h1, g1, g⟩ := maq_inv g
    rw [mnth_old hP h1]
    have k1 := hK _ _ _ _ _ g H locs ls hP hS hl hcu
    have k2 : W p l e R s m args below meth c H locs cu su Q (F0 m (pc + 1) ls (mtr G (mpv (rs.getD i'.toNatClampNeg none)) :: r.map (mtr G))) := k1
    refine va_aldq (C := RX5) hx hb hKs.1 hP.2.1 a' 2 (mWs_some h1) rfl g1 hd ?_
    rw [mtr_pv] at k2
    have e9 : va_rf ((rs.getD i'.toNatClampNeg none).map (mad G)) = mrv G (rs.getD i'.toNatClampNeg none) := by
      cases rs.getD i'.toNatClampNeg none <;> rfl
    rw [e9]
    exact k2
  | aastore =>
    obtain ⟨a', i', v', r, est, g⟩ := msRIR_inv h
    subst est
    show W p l e R s m args below meth c H locs cu su Q (F0 m pc ls (.ref (mad G v') :: .int i' :: .ref (mad G a') :: r.map (mtr G)))
    obtain ⟨n, rs, h1, g⟩ := maq_inv g
    obtain ⟨rs2, h2, g1, g⟩ := mob_inv g
    split at g
    · rename_i hlen
      have hlen := Nat.eq_of_beq_eq_true hlen
      rw [mnth_old hP h1, mnth_old hP h2]
      refine va_astq (r := mCq 5) hx hb hKs.1 hP.2.1 (mWs_D G S) hS a' 2 v' 5 (mWs_some h1) rfl (mWs_some h2) rfl g1 hd (fun H1 locs1 q1 _ q3 => ?_)
      refine hK _ _ _ _ _ g H1 locs1 ls (mP_set hP h1 ?_) q3 hl (by simpa using hcu)
      have hlt : i'.toNatClampNeg < n := Nat.not_le.mp fun q => g1 (Or.inr q)
      have e9 : (fun j => ((rs.set i'.toNatClampNeg (some v')).getD j none).map (mad G)) = va_up (fun j => (rs.getD j none).map (mad G)) i'.toNatClampNeg (some (G.1 + v')) := by
        funext j
        simp only [va_up]
        split
        · rename_i z
          subst z
          simp [hlen, hlt, mnth_old hP h2]
        · rename_i z
          have z2 : i'.toNatClampNeg ≠ j := fun y => z y.symm
          simp [List.getD_eq_getElem?_getD, List.getElem?_set_ne z2]
      show va_P _ _ ((mWs G S).set a' (G.1 + a', .inl (G.2.2.2.1.2.2, n, .inr (.inr (.inr (.inr (fun j => ((rs.set i'.toNatClampNeg (some v')).getD j none).map (mad G)))))))) H1
      rw [e9]
      exact q1
    · exact g.elim
  | invokevirtual x =>
    obtain ⟨xs, r, h1, h2, g⟩ := mcut_inv h
    simp only [mExB, Bool.and_eq_true] at he
    obtain ⟨⟨e1, e2⟩, e3⟩ := he
    have hk : a < 229 := by simpa [Nat.blt_eq] using e2
    have hkd := Nat.eq_of_beq_eq_true e3
    rw [List.append_nil] at g
    split at g
    · rename_i a' As hxs
      obtain ⟨rs, h3, ⟨g1, g2⟩, d', v, S', g3, g4, g5⟩ := mob_inv g
      refine mW_size (fun hz => ?_)
      have hz2 := mP_eq hP hKs hS hcu hz
      have hlen : As.length = mNa a := by
        have h5 := congrArg List.length hxs
        have h6 : xs.length = mNa a + 1 := h1
        simp only [List.length_reverse, List.length_cons] at h5
        omega
      have est : st = As.reverse ++ .ref a' :: r := by
        have h5 : xs = (Value.ref a' :: As).reverse := by rw [← hxs, List.reverse_reverse]
        rw [h2, h5]; simp
      rw [hxs] at g4
      subst est
      have k1 := m_virt (below := below) (Q := Q) (l := l) (e := e) C0 hP hS hl hz2 hd e1 hk hkd hlen h3 g1 g2 g3 g4 (fun H1 locs1 q1 q2 => by
        have k2 := hK _ _ _ _ _ g5 H1 locs1 ls q1 q2 hl (by have := g4.1; omega)
        rw [List.map_append] at k2
        have e9 : (v.map (mtr G)).toList = v.toList.map (mtr G) := by cases v <;> rfl
        rw [e9]
        exact k2)
      rw [List.map_append, List.map_reverse]
      exact k1
    · exact g.elim
  | invokestatic x =>
    have hgen : ∀ k, mln mid w x k = true → k < 229 → mKd k = 1 → (mcut (mNa k) st [] fun as r => (Nat.ble (mcats r) 8 = true ∧ mcap mid (cu + (mMc k).1) (su + (mMc k).2) = true) ∧ ∃ (d' : Nat) (v : Option Value) (S' : mS), d' + 1 ≤ d ∧ mEv d' k as S v S' ∧ K (pc + 3) pl (v.toList ++ r) S' (cu + (mMc k).1) (su + (mMc k).2)) → W p l e R s m args below meth c H locs cu su Q (F0 m pc ls (st.map (mtr G))) := by
      intro k e1 hk hkd h
      obtain ⟨xs, r, h1, h2, ⟨g1, g2⟩, d', v, S', g3, g4, g5⟩ := mcut_inv h
      rw [List.append_nil] at g4
      refine mW_size (fun hz => ?_)
      have hz2 := mP_eq hP hKs hS hcu hz
      subst h2
      have k1 := m_stat (below := below) (Q := Q) (l := l) (e := e) C0 hP hS hl hz2 hd e1 hk hkd (by simp [h1]) g1 g2 g3 g4 (fun H1 locs1 q1 q2 => by
        have k2 := hK _ _ _ _ _ g5 H1 locs1 ls q1 q2 hl (by have := g4.1; omega)
        rw [List.map_append] at k2
        have e9 : (v.map (mtr G)).toList = v.toList.map (mtr G) := by cases v <;> rfl
        rw [e9]
        exact k2)
      rw [List.map_append]
      rw [List.map_reverse, List.reverse_reverse] at k1
      exact k1
    have h : mistat d mid a pc pl st S cu su K := h
    unfold mistat at h
    simp only [mExB] at he
    split at h
    · obtain ⟨a', sp, b', dp, n, r, est, ⟨g1, g2⟩, g⟩ := msCp_inv h
      subst est
      split at g
      · rename_i n0 rs0 n1 rs1 h1 h2
        obtain ⟨⟨g3, g4, g5, g6, g7⟩, g⟩ := g
        show W p l e R s m args below meth c H locs cu su Q (F0 m pc ls (.int n :: .int dp :: .ref (mad G b') :: .int sp :: .ref (mad G a') :: r.map (mtr G)))
        rw [mnth_old hP h1, mnth_old hP h2]
        have g1 := Nat.le_of_ble_eq_true g1
        refine va_copyi hx hb (by rw [hml, hl.2.1]) hown (hts _ (mwd_in he)) (hts _ mTb_ac2) (hts _ mTb_ac1) (hts _ mTb_ac3) hKs.1 hP.2.1 (mWs_D G S) hS a' b' 0 0 (mWs_some h1) (mWs_some h2) rfl rfl rfl g3 g4 g5 g6 g7 (fun _ _ => rfl) (Nat.le_trans g2 hd1) ?_ hd (fun H1 locs1 q1 _ q3 => ?_)
        · rw [mcats_eq]
          have : nativeFrameWords "java/lang/System" "arraycopy" 5 = 7 := by decide
          omega
        · refine hK _ _ _ _ _ g H1 locs1 ls (mP_row hP h2 ?_) q3 hl hcu
          have e9 : mEn G (mrow S.2.2 b' (va_cpy (S.2.2 a') (S.2.2 b') sp.toNatClampNeg dp.toNatClampNeg n.toNatClampNeg)) b' (1, n1, rs1) = .inl (G.2.2.2.1.1, n1, .inl (va_cpy (S.2.2 a') (S.2.2 b') sp.toNatClampNeg dp.toNatClampNeg n.toNatClampNeg)) := by
            simp only [mEn, mrow, if_pos]
          rw [e9]
          exact q1
      · exact g.elim
    · obtain ⟨x', y', r, est, ⟨g1, g3, g2⟩, g⟩ := ms2_inv h
      subst est
      have g1 := Nat.le_of_ble_eq_true g1
      obtain ⟨p1, p2⟩ := mcap_inv g3
      exact va_mmin hx hb (by rw [hml, hl.2.1]) hown (hts _ (mwd_in he)) (hts _ mTb_mn1) (hts _ mTb_mi) (hts _ mTb_mn2) (Nat.le_trans g2 hd1) (by rw [mcats_eq]; omega) (Nat.le_trans p1 hc1) (Nat.le_trans p2 hc2) hd (hK _ _ _ _ _ g H locs ls hP hS hl hcu)
    · obtain ⟨x', y', r, est, ⟨g1, g3, g2⟩, g⟩ := ms2_inv h
      subst est
      have g1 := Nat.le_of_ble_eq_true g1
      obtain ⟨p1, p2⟩ := mcap_inv g3
      exact va_mmax hx hb (by rw [hml, hl.2.1]) hown (hts _ (mwd_in he)) (hts _ mTb_mx1) (hts _ mTb_mi) (hts _ mTb_mx2) (Nat.le_trans g2 hd1) (by rw [mcats_eq]; omega) (Nat.le_trans p1 hc1) (Nat.le_trans p2 hc2) hd (hK _ _ _ _ _ g H locs ls hP hS hl hcu)
    · have he : (mln mid w x a && Nat.blt a 229 && Nat.beq (mKd a) 1) = true := by
        split at he
        · exact absurd rfl (by assumption)
        · exact absurd rfl (by assumption)
        · exact absurd rfl (by assumption)
        · exact he
      simp only [Bool.and_eq_true] at he
      obtain ⟨⟨e1, e2⟩, e3⟩ := he
      exact hgen _ e1 (by simpa [Nat.blt_eq] using e2) (Nat.eq_of_beq_eq_true e3) h
  | invokespecial x =>
    have h : mispec d mid a pc pl st S cu su K := h
    unfold mispec at h
    simp only [mExB] at he
    split at h
    · obtain ⟨a', r, est, ⟨g1, g2⟩, g⟩ := ms1R_inv h
      subst est
      have g1 := Nat.le_of_ble_eq_true g1
      refine W.objInit hx hb hown (hts _ (mwd_in he)) (hts _ mTb_oi1) (hts _ mTb_oi2) rfl (by rw [hml]; exact hl.2.1) rfl hd (Nat.le_trans g2 hd1) (by show 2 * 0 + ((r.map (mtr G)).map fun v => v.category).sum + 12 ≤ R.locals; rw [mcats_eq]; omega) ?_
      exact hK _ _ _ _ _ g H locs ls hP hS hl hcu
    · have he : (mln mid w x a && Nat.blt a 229 && Nat.beq (mKd a) 2) = true := by
        split at he
        · exact absurd rfl (by assumption)
        · exact he
      simp only [Bool.and_eq_true] at he
      obtain ⟨⟨e1, e2⟩, e3⟩ := he
      obtain ⟨xs, r, h1, h2, g⟩ := mcut_inv h
      have hk : a < 229 := by simpa [Nat.blt_eq] using e2
      have hkd := Nat.eq_of_beq_eq_true e3
      rw [List.append_nil] at g
      split at g
      · rename_i a' As hxs
        obtain ⟨⟨g1, g2⟩, d', S', g3, g4, g5⟩ := g
        refine mW_size (fun hz => ?_)
        have hz2 := mP_eq hP hKs hS hcu hz
        have hlen : As.length = mNa a := by
          have h5 := congrArg List.length hxs
          have h6 : xs.length = mNa a + 1 := h1
          simp only [List.length_reverse, List.length_cons] at h5
          omega
        have est : st = As.reverse ++ .ref a' :: r := by
          have h5 : xs = (Value.ref a' :: As).reverse := by rw [← hxs, List.reverse_reverse]
          rw [h2, h5]; simp
        rw [hxs] at g4
        subst est
        have k1 := m_spec (below := below) (Q := Q) (l := l) (e := e) C0 hP hS hl hz2 hd e1 hk hkd hlen g1 g2 g3 g4 (fun H1 locs1 q1 q2 => hK _ _ _ _ _ g5 H1 locs1 ls q1 q2 hl (by have := g4.1; omega))
        rw [List.map_append, List.map_reverse]
        exact k1
      · exact g.elim
  | ireturn =>
    have h : (match (generalizing := false) st with
      | [.int v] => mcap mid cu su = true ∧ mrk (mRt mid) v ∧ res = (some (.int v), S)
      | _ => False) := h
    split at h
    · obtain ⟨g1, g2, g3⟩ := h
      subst g3
      refine mW_size (fun hz => ?_)
      exact hF H locs ls pc cu su hP hS (mP_eq hP hKs hS hcu hz) g1 (Or.inl ⟨_, rfl, g2, hd⟩)
    · exact h.elim
  | return_ =>
    have h : (match (generalizing := false) st with
      | [] => mcap mid cu su = true ∧ mRt mid = none ∧ res = (none, S)
      | _ => False) := h
    split at h
    · obtain ⟨g1, g2, g3⟩ := h
      subst g3
      refine mW_size (fun hz => ?_)
      exact hF H locs ls pc cu su hP hS (mP_eq hP hKs hS hcu hz) g1 (Or.inr (Or.inl ⟨rfl, g2, hd⟩))
    · exact h.elim
  | areturn =>
    have h : (match (generalizing := false) st with
      | [.null] => mcap mid cu su = true ∧ mrq (mRt mid) ∧ res = (some .null, S)
      | [.ref a] => mcap mid cu su = true ∧ mrq (mRt mid) ∧ res = (some (.ref a), S)
      | _ => False) := h
    split at h
    · obtain ⟨g1, g2, g3⟩ := h
      subst g3
      refine mW_size (fun hz => ?_)
      exact hF H locs ls pc cu su hP hS (mP_eq hP hKs hS hcu hz) g1 (Or.inr (Or.inr ⟨_, rfl, Or.inl rfl, g2, hd⟩))
    · obtain ⟨g1, g2, g3⟩ := h
      subst g3
      refine mW_size (fun hz => ?_)
      exact hF H locs ls pc cu su hP hS (mP_eq hP hKs hS hcu hz) g1 (Or.inr (Or.inr ⟨_, rfl, Or.inr ⟨_, rfl⟩, g2, hd⟩))
    · exact h.elim
  | _ => exact h.elim
end MT
