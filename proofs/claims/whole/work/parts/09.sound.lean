section MS
variable {d mid : Nat} {G : mG} {p : Program} {l : Launch} {e : Env} {R : Room} {s : State} {m : MethodId} {args : Array Value} {below : List Frame} {meth : Method} {c : Code} {Q : State → Prop} {res : Option Value × mS} {J K : mK6} {pc : Nat} {pl : mLoc} {st : List Value} {S : mS} {cu su : Nat} {H : Heap} {locs : List Loc} {ls : Array Slot}
/-- behind a call -/
theorem m_call {v : Option Value} {S' : mS} {a : Array Value} {st0 rest : List Value} {mc ms : Nat} (hr : va_Run p l e R s m args below meth c H locs cu su mc ms (F0 m pc ls st0) rest (mQc G v S' a) (mA G)) (hS : va_S (mA G) s.heap H locs)
    (kk : ∀ (H1 : Heap) (locs1 : List Loc), mP G S' H1 → va_S (mA G) s.heap H1 locs1 → W p l e R s m args below meth c H1 locs1 (cu + mc) (su + ms) Q (F0 m (pc + 3) ls ((v.map (mtr G)).toList ++ rest))) : W p l e R s m args below meth c H locs cu su Q (F0 m pc ls st0) := by
  intro T hT X
  obtain ⟨v', st₀, t, T', L, h0, X', hL, e1, e2, ⟨hv, hp, ⟨hz, hk⟩, -⟩, stp⟩ := hr T hT X
  cases hv
  rw [h0] at hz hk
  obtain ⟨t2, a1, b1⟩ := kk T'.heap (locs ++ L) (by rw [e1]; exact hp)
    ⟨Nat.le_trans hS.1 (by rw [e1]; exact hz), fun q h1 h2 => by rw [e1, hk q (Nat.lt_of_lt_of_le h1 hS.1) h2]; exact hS.2.1 q h1 h2, fun q hq => by
      rcases List.mem_append.mp hq with h | h
      · exact hS.2.2 q h
      · exact hL q h⟩ T' rfl X'
  exact ⟨t2, stp t2 a1, b1⟩
theorem m_blind {vs : List Value} : FrameBlind (mPc G vs S) := fun a U g mk q => by
  obtain ⟨q0, q1, q2, q3, q4⟩ := q
  exact ⟨q0, q1, mKs.moved (u := U) (U := U.calling g mk a) (Vm.Alike.refl U.vm) q2, q3, mNk.same (u := U) (U := U.calling g mk a) rfl q4⟩
theorem m_pre {vs : List Value} (hP : mP G S H) (hK : mKs G s s.heap) (hS : va_S (mA G) s.heap H locs) (hz : H.size = G.1 + S.1.length) (hnk : mNk s) : ∀ U : State, U.heap = H → s.WarmedH U.vm → mPc G vs S (vs.map (mtr G)).toArray U := by
  intro U hU hW
  subst hU
  exact ⟨rfl, hP, (hK.kept hS).moved hW.alike, hz, hnk.warm hW⟩
theorem m_room {d' k : Nat} (hk : k < 229) (h : d' + 1 ≤ d) (h1 : d ≤ R.frames) (h2 : 64 * d ≤ R.locals) : (mRm d' k).frames + 1 ≤ R.frames ∧ 8 + (mNl k + 11) + (mRm d' k).locals ≤ R.locals := by
  have := (mMr_say hk).2.2.1
  refine ⟨Nat.le_trans h h1, ?_⟩
  show 8 + (mNl k + 11) + 64 * d' ≤ R.locals
  omega
/-- a call of a method of an object -/
theorem m_virt {d' k x w a : Nat} {As r : List Value} {v : Option Value} {S' : mS} (C : mCx d mid G p R s m args meth c) (hP : mP G S H) (hS : va_S (mA G) s.heap H locs) (hl : mlv G ls (mNl mid) pl) (hz : H.size = G.1 + S.1.length) (hd : decode (mCd mid) pc = .ok (.invokevirtual x, 3)) (hln : mln mid w x k = true) (hk : k < 229) (hkd : mKd k = 0) (hlen : As.length = mNa k) {rs : List (Option Nat)} (ho : mnth S.1 a = some (0, mcN k, rs)) (hc : Nat.ble (mcats r) 8 = true) (hcap : mcap mid (cu + (mMc k).1) (su + (mMc k).2) = true) (hdd : d' + 1 ≤ d) (hE : mEv d' k (.ref a :: As) S v S')
    (kk : ∀ (H1 : Heap) (locs1 : List Loc), mP G S' H1 → va_S (mA G) s.heap H1 locs1 → W p l e R s m args below meth c H1 locs1 (cu + (mMc k).1) (su + (mMc k).2) Q (F0 m (pc + 3) ls ((v.map (mtr G)).toList ++ r.map (mtr G)))) : W p l e R s m args below meth c H locs cu su Q (F0 m pc ls ((As.map (mtr G)).reverse ++ .ref (mad G a) :: r.map (mtr G))) := by
  obtain ⟨hx, hb, hml, hown, hts, hKs, hd1, hd2, hc1, hc2, hin, hlk, hnk⟩ := C
  obtain ⟨s1, s2, s3, s4, s5, s6, s7⟩ := mMr_say hk
  obtain ⟨t1, t2, t3, t4⟩ := s5 hkd
  obtain ⟨p1, p2⟩ := mcap_inv hcap
  have hroom := m_room (R := R) hk hdd hd1 hd2
  have hM := hE.2 l G
  have hrecv : ∃ cellB : Cell, H[mad G a]? = some cellB ∧ cellB.vm.isStatics = false ∧ s.vm.findClass (mY k).cls = some cellB.cls := by
    have hcl := (mCf_all t4)
    obtain ⟨ty, -, -, -, -, -, -, -, hcl⟩ := hcl
    have := va_recv hKs.1 hP.2.1 hcl (q0 := a) (mWs_some ho)
    rw [t3] at this
    rw [mnth_old hP ho]
    exact this
  have hpre : PreV s H (mY k).cls (mad G a) (mPc G (.ref a :: As) S) (As.map (mtr G)) := ⟨m_blind, hrecv, m_pre hP hKs hS hz hnk⟩
  have hfit : cu + (mMc k).1 ≤ R.cells ∧ su + (mMc k).2 ≤ R.slots := ⟨Nat.le_trans p1 hc1, Nat.le_trans p2 hc2⟩
  have hcat : 2 * (F0 m pc ls ((As.map (mtr G)).reverse ++ .ref (mad G a) :: r.map (mtr G))).monitorRoom + ((r.map (mtr G)).map fun v => v.category).sum ≤ 8 := by
    rw [mcats_eq]
    show 2 * 0 + _ ≤ 8
    have := Nat.le_of_ble_eq_true hc
    omega
  simp only [mln, Bool.or_eq_true] at hln
  rcases hln with hln | hln
  · exact m_call (va_runV (As := As.map (mtr G)) (rest := r.map (mtr G)) ⟨hx, hb, hml, hown, hts⟩ hM ⟨callB_of (mNa k) hts (mWd_good (mMr_code hk)) rfl rfl rfl (hts _ s4) (hts _ (mwd_in hln)) s2 hroom, hts _ t1, hts _ t2⟩ hpre rfl (by simp [hlen]) hl.2.1 rfl hcat hd hfit) hS kk
  · exact m_call (va_runVN (As := As.map (mtr G)) (rest := r.map (mtr G)) ⟨hx, hb, hml, hown, hts⟩ hM ⟨va_cnB (mNa k) hts (mWd_good (mMr_code hk)) rfl rfl rfl (hnk _ (mwn_in hln)) (hts _ s4) s2 hroom, hts _ t1, hts _ t2⟩ hpre rfl (by simp [hlen]) hl.2.1 rfl hcat hd hfit) hS kk
/-- a call of a static method -/
theorem m_stat {d' k x w : Nat} {As r : List Value} {v : Option Value} {S' : mS} (C : mCx d mid G p R s m args meth c) (hP : mP G S H) (hS : va_S (mA G) s.heap H locs) (hl : mlv G ls (mNl mid) pl) (hz : H.size = G.1 + S.1.length) (hd : decode (mCd mid) pc = .ok (.invokestatic x, 3)) (hln : mln mid w x k = true) (hk : k < 229) (hkd : mKd k = 1) (hlen : As.length = mNa k) (hc : Nat.ble (mcats r) 8 = true) (hcap : mcap mid (cu + (mMc k).1) (su + (mMc k).2) = true) (hdd : d' + 1 ≤ d) (hE : mEv d' k As S v S')
    (kk : ∀ (H1 : Heap) (locs1 : List Loc), mP G S' H1 → va_S (mA G) s.heap H1 locs1 → W p l e R s m args below meth c H1 locs1 (cu + (mMc k).1) (su + (mMc k).2) Q (F0 m (pc + 3) ls ((v.map (mtr G)).toList ++ r.map (mtr G)))) : W p l e R s m args below meth c H locs cu su Q (F0 m pc ls ((As.map (mtr G)).reverse ++ r.map (mtr G))) := by
  obtain ⟨hx, hb, hml, hown, hts, hKs, hd1, hd2, hc1, hc2, hin, hlk, hnk⟩ := C
  obtain ⟨s1, s2, s3, s4, s5, s6, s7⟩ := mMr_say hk
  have t1 := s6 hkd
  obtain ⟨p1, p2⟩ := mcap_inv hcap
  have hroom := m_room (R := R) hk hdd hd1 hd2
  have hM := hE.2 l G
  have hpre : PreS s H (mPc G As S) (As.map (mtr G)) := ⟨m_blind, m_pre hP hKs hS hz hnk⟩
  have hfit : cu + (mMc k).1 ≤ R.cells ∧ su + (mMc k).2 ≤ R.slots := ⟨Nat.le_trans p1 hc1, Nat.le_trans p2 hc2⟩
  have hcat : 2 * (F0 m pc ls ((As.map (mtr G)).reverse ++ r.map (mtr G))).monitorRoom + ((r.map (mtr G)).map fun v => v.category).sum ≤ 8 := by
    rw [mcats_eq]
    show 2 * 0 + _ ≤ 8
    have := Nat.le_of_ble_eq_true hc
    omega
  simp only [mln, Bool.or_eq_true] at hln
  rcases hln with hln | hln
  · exact m_call (va_runS (As := As.map (mtr G)) (rest := r.map (mtr G)) ⟨hx, hb, hml, hown, hts⟩ hM ⟨callB_of (mNa k) hts (mWd_good (mMr_code hk)) rfl rfl rfl (hts _ s4) (hts _ (mwd_in hln)) s2 hroom, hts _ t1⟩ hpre rfl (by simp [hlen]) hl.2.1 rfl hcat hd hfit) hS kk
  · exact m_call (va_runSN (As := As.map (mtr G)) (rest := r.map (mtr G)) ⟨hx, hb, hml, hown, hts⟩ hM ⟨va_cnB (mNa k) hts (mWd_good (mMr_code hk)) rfl rfl rfl (hnk _ (mwn_in hln)) (hts _ s4) s2 hroom, hts _ t1, trivial⟩ hpre rfl (by simp [hlen]) hl.2.1 rfl hcat hd hfit) hS kk
/-- a call of a constructor -/
theorem m_spec {d' k x w a : Nat} {As r : List Value} {S' : mS} (C : mCx d mid G p R s m args meth c) (hP : mP G S H) (hS : va_S (mA G) s.heap H locs) (hl : mlv G ls (mNl mid) pl) (hz : H.size = G.1 + S.1.length) (hd : decode (mCd mid) pc = .ok (.invokespecial x, 3)) (hln : mln mid w x k = true) (hk : k < 229) (hkd : mKd k = 2) (hlen : As.length = mNa k) (hc : Nat.ble (mcats r) 8 = true) (hcap : mcap mid (cu + (mMc k).1) (su + (mMc k).2) = true) (hdd : d' + 1 ≤ d) (hE : mEv d' k (.ref a :: As) S none S')
    (kk : ∀ (H1 : Heap) (locs1 : List Loc), mP G S' H1 → va_S (mA G) s.heap H1 locs1 → W p l e R s m args below meth c H1 locs1 (cu + (mMc k).1) (su + (mMc k).2) Q (F0 m (pc + 3) ls (r.map (mtr G)))) : W p l e R s m args below meth c H locs cu su Q (F0 m pc ls ((As.map (mtr G)).reverse ++ .ref (mad G a) :: r.map (mtr G))) := by
  obtain ⟨hx, hb, hml, hown, hts, hKs, hd1, hd2, hc1, hc2, hin, hlk, hnk⟩ := C
  obtain ⟨s1, s2, s3, s4, s5, s6, s7⟩ := mMr_say hk
  obtain ⟨t1, t2, t3⟩ := s7 hkd
  obtain ⟨p1, p2⟩ := mcap_inv hcap
  have hroom := m_room (R := R) hk hdd hd1 hd2
  have hM := hE.2 l G
  have hw : mWd k = Cond.code (mY k) (mCd k) (mNl k) none :: mTb := by rw [← t3]; rfl
  have hpre : PreS s H (mPc G (.ref a :: As) S) (.ref (mad G a) :: As.map (mtr G)) := ⟨m_blind, m_pre hP hKs hS hz hnk⟩
  have hfit : cu + (mMc k).1 ≤ R.cells ∧ su + (mMc k).2 ≤ R.slots := ⟨Nat.le_trans p1 hc1, Nat.le_trans p2 hc2⟩
  have hcat : 2 * (F0 m pc ls ((As.map (mtr G)).reverse ++ .ref (mad G a) :: r.map (mtr G))).monitorRoom + ((r.map (mtr G)).map fun v => v.category).sum ≤ 8 := by
    rw [mcats_eq]
    show 2 * 0 + _ ≤ 8
    have := Nat.le_of_ble_eq_true hc
    omega
  simp only [mln, Bool.or_eq_true] at hln
  rcases hln with hln | hln
  · exact m_call (va_runI (As := As.map (mtr G)) (rest := r.map (mtr G)) ⟨hx, hb, hml, hown, hts⟩ hM ⟨callB_of (mNa k) hts (mWd_good (mMr_code hk)) hw rfl rfl (hts _ s4) (hts _ (mwd_in hln)) s2 hroom, t2, hts _ t1⟩ hpre rfl (by simp [hlen]) hl.2.1 rfl hcat hd hfit) hS kk
  · exact m_call (va_runIN (As := As.map (mtr G)) (rest := r.map (mtr G)) ⟨hx, hb, hml, hown, hts⟩ hM ⟨va_cnB (mNa k) hts (mWd_good (mMr_code hk)) hw rfl rfl (hnk _ (mwn_in hln)) (hts _ s4) s2 hroom, t2, hts _ t1⟩ hpre rfl (by simp [hlen]) hl.2.1 rfl hcat hd hfit) hS kk
end MS
