theorem mob_i {S : mS} {a ci : Nat} {rs : List (Option Nat)} {k : List (Option Nat) → Prop} (h : mnth S.1 a = some (0, ci, rs)) (hk : k rs) : mob S a ci k := by
  unfold mob
  rw [h]
  simp only [Nat.beq_refl]
  exact hk
theorem mai_i {S : mS} {a n : Nat} {k : Nat → Prop} (h : mal S a = some n) (hk : k n) : mai S a k := by
  unfold mai
  rw [h]
  exact hk
theorem mbind {α β : Type} {x : Option α} {f : α → Option β} {r : β} (h : x.bind f = some r) : ∃ q, x = some q ∧ f q = some r := Option.bind_eq_some_iff.mp h
theorem mnone {α : Type} {c : Prop} [Decidable c] {x : Option α} {r : α} (h : (if c then none else x) = some r) : ¬ c ∧ x = some r := by
  by_cases hc : c
  · rw [if_pos hc] at h; cases h
  · rw [if_neg hc] at h; exact ⟨hc, h⟩
theorem msome {α : Type} {c : Prop} [Decidable c] {x : Option α} {r : α} (h : (if c then x else none) = some r) : c ∧ x = some r := by
  by_cases hc : c
  · rw [if_pos hc] at h; exact ⟨hc, h⟩
  · rw [if_neg hc] at h; cases h
theorem mcap_0 {mid : Nat} : mcap mid 0 0 = true := by simp [mcap]
section QQ
variable {d mid : Nat} {res : Option Value × mS} {J : mK6} {is : List mI} {pc : Nat} {pl : mLoc} {st : List Value} {sh : List mE} {L : Nat} {σ : Nat → Nat → Int32} {cu su len a b w : Nat} {ps : List (Int32 × Nat)} {x y : Int32}
theorem q_iconst {n : Int} {v : Int32} {t : Nat} (k : mwp d mid res J is (pc + 1) pl (.int v :: st) (sh, L, σ) cu su) : mwp d mid res J ((.iconst n, len, a, b, w, (v, t) :: ps) :: is) pc pl (st) (sh, L, σ) cu su := k
theorem q_bipush {n : Int} {v : Int32} {t : Nat} (k : mwp d mid res J is (pc + 2) pl (.int v :: st) (sh, L, σ) cu su) : mwp d mid res J ((.bipush n, len, a, b, w, (v, t) :: ps) :: is) pc pl (st) (sh, L, σ) cu su := k
theorem q_sipush {n : Int} {v : Int32} {t : Nat} (k : mwp d mid res J is (pc + 3) pl (.int v :: st) (sh, L, σ) cu su) : mwp d mid res J ((.sipush n, len, a, b, w, (v, t) :: ps) :: is) pc pl (st) (sh, L, σ) cu su := k
theorem q_lconst {n : Fin 2} {v : Int32} {t : Nat} (k : mwp d mid res J is (pc + 1) pl (.long v.toInt64 :: st) (sh, L, σ) cu su) : mwp d mid res J ((.lconst n, len, a, b, w, (v, t) :: ps) :: is) pc pl (st) (sh, L, σ) cu su := k
theorem q_ldc {n : Nat} {v : Int32} {t : Nat} (k : mwp d mid res J is (pc + 2) pl (.int v :: st) (sh, L, σ) cu su) : mwp d mid res J ((.ldc n, len, a, b, w, (v, t) :: ps) :: is) pc pl (st) (sh, L, σ) cu su := k
theorem q_ldc_w {n : Nat} {v : Int32} {t : Nat} (k : mwp d mid res J is (pc + 3) pl (.int v :: st) (sh, L, σ) cu su) : mwp d mid res J ((.ldc_w n, len, a, b, w, (v, t) :: ps) :: is) pc pl (st) (sh, L, σ) cu su := k
theorem q_ldc2_w {n : Nat} {v : Int32} {t : Nat} (k : mwp d mid res J is (pc + 3) pl (.long v.toInt64 :: st) (sh, L, σ) cu su) : mwp d mid res J ((.ldc2_w n, len, a, b, w, (v, t) :: ps) :: is) pc pl (st) (sh, L, σ) cu su := k
theorem q_ldc2_wB {n : Nat} (k : mwp d mid res J is (pc + 3) pl (.long (Int64.ofNat a) :: st) (sh, L, σ) cu su) : mwp d mid res J ((.ldc2_w n, len, a, b, w, []) :: is) pc pl (st) (sh, L, σ) cu su := k
theorem q_aconst_null (k : mwp d mid res J is (pc + 1) pl (.null :: st) (sh, L, σ) cu su) : mwp d mid res J ((.aconst_null, len, a, b, w, ps) :: is) pc pl (st) (sh, L, σ) cu su := k
theorem q_iload_n {n : Fin 4} {z : Int32} (h : mnth pl n = some (some (.int z))) (k : mwp d mid res J is (pc + 1) pl (.int z :: st) (sh, L, σ) cu su) : mwp d mid res J ((.iload_n n, len, a, b, w, ps) :: is) pc pl (st) (sh, L, σ) cu su := by
  show mgI pl n (fun x => mwp d mid res J is (pc + 1) pl (.int x :: st) (sh, L, σ) cu su)
  unfold mgI
  rw [h]
  exact k
theorem q_iload {n : Nat} {z : Int32} (h : mnth pl n = some (some (.int z))) (k : mwp d mid res J is (pc + 2) pl (.int z :: st) (sh, L, σ) cu su) : mwp d mid res J ((.iload n, len, a, b, w, ps) :: is) pc pl (st) (sh, L, σ) cu su := by
  show mgI pl n (fun x => mwp d mid res J is (pc + 2) pl (.int x :: st) (sh, L, σ) cu su)
  unfold mgI
  rw [h]
  exact k
theorem q_aload_n {n : Fin 4} {z : Nat} (h : mnth pl n = some (some (.ref z))) (k : mwp d mid res J is (pc + 1) pl (.ref z :: st) (sh, L, σ) cu su) : mwp d mid res J ((.aload_n n, len, a, b, w, ps) :: is) pc pl (st) (sh, L, σ) cu su := by
  show mgA pl n (fun x => mwp d mid res J is (pc + 1) pl (x :: st) (sh, L, σ) cu su)
  unfold mgA
  rw [h]
  exact k
theorem q_aload {n : Nat} {z : Nat} (h : mnth pl n = some (some (.ref z))) (k : mwp d mid res J is (pc + 2) pl (.ref z :: st) (sh, L, σ) cu su) : mwp d mid res J ((.aload n, len, a, b, w, ps) :: is) pc pl (st) (sh, L, σ) cu su := by
  show mgA pl n (fun x => mwp d mid res J is (pc + 2) pl (x :: st) (sh, L, σ) cu su)
  unfold mgA
  rw [h]
  exact k
theorem q_lload_n {n : Fin 4} {z : Int64} (h : mnth pl n = some (some (.long z))) (k : mwp d mid res J is (pc + 1) pl (.long z :: st) (sh, L, σ) cu su) : mwp d mid res J ((.lload_n n, len, a, b, w, ps) :: is) pc pl (st) (sh, L, σ) cu su := by
  show mgL pl n (fun x => mwp d mid res J is (pc + 1) pl (.long x :: st) (sh, L, σ) cu su)
  unfold mgL
  rw [h]
  exact k
theorem q_lload {n : Nat} {z : Int64} (h : mnth pl n = some (some (.long z))) (k : mwp d mid res J is (pc + 2) pl (.long z :: st) (sh, L, σ) cu su) : mwp d mid res J ((.lload n, len, a, b, w, ps) :: is) pc pl (st) (sh, L, σ) cu su := by
  show mgL pl n (fun x => mwp d mid res J is (pc + 2) pl (.long x :: st) (sh, L, σ) cu su)
  unfold mgL
  rw [h]
  exact k
theorem q_istore_n {n : Fin 4} {z : Int32} {u : Option Value} (h : mnth pl n = some u) (h2 : mok1 pl n = true) (k : mwp d mid res J is (pc + 1) (mset pl n (.int z)) (st) (sh, L, σ) cu su) : mwp d mid res J ((.istore_n n, len, a, b, w, ps) :: is) pc pl (.int z :: st) (sh, L, σ) cu su := by
  show msto pl n (.int z) (fun pl => mwp d mid res J is (pc + 1) pl st (sh, L, σ) cu su)
  unfold msto
  rw [h, h2]
  exact k
theorem q_istore {n : Nat} {z : Int32} {u : Option Value} (h : mnth pl n = some u) (h2 : mok1 pl n = true) (k : mwp d mid res J is (pc + 2) (mset pl n (.int z)) (st) (sh, L, σ) cu su) : mwp d mid res J ((.istore n, len, a, b, w, ps) :: is) pc pl (.int z :: st) (sh, L, σ) cu su := by
  show msto pl n (.int z) (fun pl => mwp d mid res J is (pc + 2) pl st (sh, L, σ) cu su)
  unfold msto
  rw [h, h2]
  exact k
theorem q_astore_n {n : Fin 4} {z : Nat} {u : Option Value} (h : mnth pl n = some u) (h2 : mok1 pl n = true) (k : mwp d mid res J is (pc + 1) (mset pl n (.ref z)) (st) (sh, L, σ) cu su) : mwp d mid res J ((.astore_n n, len, a, b, w, ps) :: is) pc pl (.ref z :: st) (sh, L, σ) cu su := by
  show msto pl n (.ref z) (fun pl => mwp d mid res J is (pc + 1) pl st (sh, L, σ) cu su)
  unfold msto
  rw [h, h2]
  exact k
theorem q_astore {n : Nat} {z : Nat} {u : Option Value} (h : mnth pl n = some u) (h2 : mok1 pl n = true) (k : mwp d mid res J is (pc + 2) (mset pl n (.ref z)) (st) (sh, L, σ) cu su) : mwp d mid res J ((.astore n, len, a, b, w, ps) :: is) pc pl (.ref z :: st) (sh, L, σ) cu su := by
  show msto pl n (.ref z) (fun pl => mwp d mid res J is (pc + 2) pl st (sh, L, σ) cu su)
  unfold msto
  rw [h, h2]
  exact k
theorem q_aloadN_n {n : Fin 4} (h : mnth pl n = some (some .null)) (k : mwp d mid res J is (pc + 1) pl (.null :: st) (sh, L, σ) cu su) : mwp d mid res J ((.aload_n n, len, a, b, w, ps) :: is) pc pl (st) (sh, L, σ) cu su := by
  show mgA pl n (fun x => mwp d mid res J is (pc + 1) pl (x :: st) (sh, L, σ) cu su)
  unfold mgA
  rw [h]
  exact k
theorem q_aloadN {n : Nat} (h : mnth pl n = some (some .null)) (k : mwp d mid res J is (pc + 2) pl (.null :: st) (sh, L, σ) cu su) : mwp d mid res J ((.aload n, len, a, b, w, ps) :: is) pc pl (st) (sh, L, σ) cu su := by
  show mgA pl n (fun x => mwp d mid res J is (pc + 2) pl (x :: st) (sh, L, σ) cu su)
  unfold mgA
  rw [h]
  exact k
theorem q_astoreN_n {n : Fin 4} {u : Option Value} (h : mnth pl n = some u) (h2 : mok1 pl n = true) (k : mwp d mid res J is (pc + 1) (mset pl n .null) (st) (sh, L, σ) cu su) : mwp d mid res J ((.astore_n n, len, a, b, w, ps) :: is) pc pl (.null :: st) (sh, L, σ) cu su := by
  show msto pl n .null (fun pl => mwp d mid res J is (pc + 1) pl st (sh, L, σ) cu su)
  unfold msto
  rw [h, h2]
  exact k
theorem q_astoreN {n : Nat} {u : Option Value} (h : mnth pl n = some u) (h2 : mok1 pl n = true) (k : mwp d mid res J is (pc + 2) (mset pl n .null) (st) (sh, L, σ) cu su) : mwp d mid res J ((.astore n, len, a, b, w, ps) :: is) pc pl (.null :: st) (sh, L, σ) cu su := by
  show msto pl n .null (fun pl => mwp d mid res J is (pc + 2) pl st (sh, L, σ) cu su)
  unfold msto
  rw [h, h2]
  exact k
theorem q_iinc {n : Nat} {i : Int} {z : Int32} {v : Int32} {t : Nat} (h : mnth pl n = some (some (.int z))) (h2 : mok1 pl n = true) (k : mwp d mid res J is (pc + 3) (mset pl n (.int (z + v))) (st) (sh, L, σ) cu su) : mwp d mid res J ((.iinc n i, len, a, b, w, (v, t) :: ps) :: is) pc pl (st) (sh, L, σ) cu su := by
  show mgI pl n _
  unfold mgI
  rw [h]
  show msto pl n _ _
  unfold msto
  rw [h, h2]
  exact k
theorem q_iadd (k : mwp d mid res J is (pc + 1) pl (.int (x + y) :: st) (sh, L, σ) cu su) : mwp d mid res J ((.iadd, len, a, b, w, ps) :: is) pc pl ( .int y :: .int x :: st) (sh, L, σ) cu su := k
theorem q_isub (k : mwp d mid res J is (pc + 1) pl (.int (x - y) :: st) (sh, L, σ) cu su) : mwp d mid res J ((.isub, len, a, b, w, ps) :: is) pc pl ( .int y :: .int x :: st) (sh, L, σ) cu su := k
theorem q_imul (k : mwp d mid res J is (pc + 1) pl (.int (x * y) :: st) (sh, L, σ) cu su) : mwp d mid res J ((.imul, len, a, b, w, ps) :: is) pc pl ( .int y :: .int x :: st) (sh, L, σ) cu su := k
theorem q_iand (k : mwp d mid res J is (pc + 1) pl (.int (x &&& y) :: st) (sh, L, σ) cu su) : mwp d mid res J ((.iand, len, a, b, w, ps) :: is) pc pl ( .int y :: .int x :: st) (sh, L, σ) cu su := k
theorem q_ior (k : mwp d mid res J is (pc + 1) pl (.int (x ||| y) :: st) (sh, L, σ) cu su) : mwp d mid res J ((.ior, len, a, b, w, ps) :: is) pc pl ( .int y :: .int x :: st) (sh, L, σ) cu su := k
theorem q_ixor (k : mwp d mid res J is (pc + 1) pl (.int (x ^^^ y) :: st) (sh, L, σ) cu su) : mwp d mid res J ((.ixor, len, a, b, w, ps) :: is) pc pl ( .int y :: .int x :: st) (sh, L, σ) cu su := k
theorem q_ishl (k : mwp d mid res J is (pc + 1) pl (.int (x <<< (y &&& 31)) :: st) (sh, L, σ) cu su) : mwp d mid res J ((.ishl, len, a, b, w, ps) :: is) pc pl ( .int y :: .int x :: st) (sh, L, σ) cu su := k
theorem q_ishr (k : mwp d mid res J is (pc + 1) pl (.int (x >>> (y &&& 31)) :: st) (sh, L, σ) cu su) : mwp d mid res J ((.ishr, len, a, b, w, ps) :: is) pc pl ( .int y :: .int x :: st) (sh, L, σ) cu su := k
theorem q_iushr (k : mwp d mid res J is (pc + 1) pl (.int ((x.toUInt32 >>> (y.toUInt32 &&& Int32.toUInt32 31)).toInt32) :: st) (sh, L, σ) cu su) : mwp d mid res J ((.iushr, len, a, b, w, ps) :: is) pc pl ( .int y :: .int x :: st) (sh, L, σ) cu su := k
theorem q_idiv (h : ¬ y = 0) (k : mwp d mid res J is (pc + 1) pl (.int (x / y) :: st) (sh, L, σ) cu su) : mwp d mid res J ((.idiv, len, a, b, w, ps) :: is) pc pl (.int y :: .int x :: st) (sh, L, σ) cu su := ⟨h, k⟩
theorem q_irem (h : ¬ y = 0) (k : mwp d mid res J is (pc + 1) pl (.int (x - x / y * y) :: st) (sh, L, σ) cu su) : mwp d mid res J ((.irem, len, a, b, w, ps) :: is) pc pl (.int y :: .int x :: st) (sh, L, σ) cu su := ⟨h, k⟩
theorem q_ineg (k : mwp d mid res J is (pc + 1) pl (.int (-x) :: st) (sh, L, σ) cu su) : mwp d mid res J ((.ineg, len, a, b, w, ps) :: is) pc pl (.int x :: st) (sh, L, σ) cu su := k
theorem q_i2b (k : mwp d mid res J is (pc + 1) pl (.int (x.toInt8.toInt32) :: st) (sh, L, σ) cu su) : mwp d mid res J ((.i2b, len, a, b, w, ps) :: is) pc pl (.int x :: st) (sh, L, σ) cu su := k
theorem q_i2s (k : mwp d mid res J is (pc + 1) pl (.int (x.toInt16.toInt32) :: st) (sh, L, σ) cu su) : mwp d mid res J ((.i2s, len, a, b, w, ps) :: is) pc pl (.int x :: st) (sh, L, σ) cu su := k
theorem q_i2l (k : mwp d mid res J is (pc + 1) pl (.long x.toInt64 :: st) (sh, L, σ) cu su) : mwp d mid res J ((.i2l, len, a, b, w, ps) :: is) pc pl (.int x :: st) (sh, L, σ) cu su := k
theorem q_l2i {z : Int64} (k : mwp d mid res J is (pc + 1) pl (.int z.toInt32 :: st) (sh, L, σ) cu su) : mwp d mid res J ((.l2i, len, a, b, w, ps) :: is) pc pl (.long z :: st) (sh, L, σ) cu su := k
theorem q_land {z u : Int64} (k : mwp d mid res J is (pc + 1) pl (.long (z &&& u) :: st) (sh, L, σ) cu su) : mwp d mid res J ((.land, len, a, b, w, ps) :: is) pc pl (.long u :: .long z :: st) (sh, L, σ) cu su := k
theorem q_lor {z u : Int64} (k : mwp d mid res J is (pc + 1) pl (.long (z ||| u) :: st) (sh, L, σ) cu su) : mwp d mid res J ((.lor, len, a, b, w, ps) :: is) pc pl (.long u :: .long z :: st) (sh, L, σ) cu su := k
theorem q_lcmp {z u : Int64} (k : mwp d mid res J is (pc + 1) pl (.int (lg_cmp z u) :: st) (sh, L, σ) cu su) : mwp d mid res J ((.lcmp, len, a, b, w, ps) :: is) pc pl (.long u :: .long z :: st) (sh, L, σ) cu su := k
theorem q_lshl {z : Int64} (k : mwp d mid res J is (pc + 1) pl (.long (z <<< (y.toInt64 &&& 63)) :: st) (sh, L, σ) cu su) : mwp d mid res J ((.lshl, len, a, b, w, ps) :: is) pc pl (.int y :: .long z :: st) (sh, L, σ) cu su := k
theorem q_lshr {z : Int64} (k : mwp d mid res J is (pc + 1) pl (.long (z >>> (y.toInt64 &&& 63)) :: st) (sh, L, σ) cu su) : mwp d mid res J ((.lshr, len, a, b, w, ps) :: is) pc pl (.int y :: .long z :: st) (sh, L, σ) cu su := k
theorem q_lushr {z : Int64} (k : mwp d mid res J is (pc + 1) pl (.long ((z.toUInt64 >>> (y.toInt64.toUInt64 &&& Int64.toUInt64 63)).toInt64) :: st) (sh, L, σ) cu su) : mwp d mid res J ((.lushr, len, a, b, w, ps) :: is) pc pl (.int y :: .long z :: st) (sh, L, σ) cu su := k
theorem q_goto {o : Int} (k : J a pl st (sh, L, σ) cu su) : mwp d mid res J ((.goto o, len, a, b, w, ps) :: is) pc pl (st) (sh, L, σ) cu su := k
theorem q_if_eq {o : Int} (k : x = 0 → J a pl st (sh, L, σ) cu su) (k2 : ¬ x = 0 → mwp d mid res J is (pc + 3) pl (st) (sh, L, σ) cu su) : mwp d mid res J ((.ifCond .eq o, len, a, b, w, ps) :: is) pc pl (.int x :: st) (sh, L, σ) cu su := ⟨k, k2⟩
theorem q_if_lt {o : Int} (k : x < 0 → J a pl st (sh, L, σ) cu su) (k2 : ¬ x < 0 → mwp d mid res J is (pc + 3) pl (st) (sh, L, σ) cu su) : mwp d mid res J ((.ifCond .lt o, len, a, b, w, ps) :: is) pc pl (.int x :: st) (sh, L, σ) cu su := ⟨k, k2⟩
theorem q_if_ge {o : Int} (k : 0 ≤ x → J a pl st (sh, L, σ) cu su) (k2 : ¬ 0 ≤ x → mwp d mid res J is (pc + 3) pl (st) (sh, L, σ) cu su) : mwp d mid res J ((.ifCond .ge o, len, a, b, w, ps) :: is) pc pl (.int x :: st) (sh, L, σ) cu su := ⟨k, k2⟩
theorem q_if_gt {o : Int} (k : 0 < x → J a pl st (sh, L, σ) cu su) (k2 : ¬ 0 < x → mwp d mid res J is (pc + 3) pl (st) (sh, L, σ) cu su) : mwp d mid res J ((.ifCond .gt o, len, a, b, w, ps) :: is) pc pl (.int x :: st) (sh, L, σ) cu su := ⟨k, k2⟩
theorem q_if_le {o : Int} (k : x ≤ 0 → J a pl st (sh, L, σ) cu su) (k2 : ¬ x ≤ 0 → mwp d mid res J is (pc + 3) pl (st) (sh, L, σ) cu su) : mwp d mid res J ((.ifCond .le o, len, a, b, w, ps) :: is) pc pl (.int x :: st) (sh, L, σ) cu su := ⟨k, k2⟩
theorem q_if_ne {o : Int} (k : x = 0 → mwp d mid res J is (pc + 3) pl (st) (sh, L, σ) cu su) (k2 : ¬ x = 0 → J a pl st (sh, L, σ) cu su) : mwp d mid res J ((.ifCond .ne o, len, a, b, w, ps) :: is) pc pl (.int x :: st) (sh, L, σ) cu su := ⟨k2, fun z => k (Classical.byContradiction z)⟩
theorem q_ic_eq {o : Int} (k : x = y → J a pl st (sh, L, σ) cu su) (k2 : ¬ x = y → mwp d mid res J is (pc + 3) pl (st) (sh, L, σ) cu su) : mwp d mid res J ((.if_icmp .eq o, len, a, b, w, ps) :: is) pc pl (.int y :: .int x :: st) (sh, L, σ) cu su := ⟨k, k2⟩
theorem q_ic_lt {o : Int} (k : x < y → J a pl st (sh, L, σ) cu su) (k2 : ¬ x < y → mwp d mid res J is (pc + 3) pl (st) (sh, L, σ) cu su) : mwp d mid res J ((.if_icmp .lt o, len, a, b, w, ps) :: is) pc pl (.int y :: .int x :: st) (sh, L, σ) cu su := ⟨k, k2⟩
theorem q_ic_ge {o : Int} (k : y ≤ x → J a pl st (sh, L, σ) cu su) (k2 : ¬ y ≤ x → mwp d mid res J is (pc + 3) pl (st) (sh, L, σ) cu su) : mwp d mid res J ((.if_icmp .ge o, len, a, b, w, ps) :: is) pc pl (.int y :: .int x :: st) (sh, L, σ) cu su := ⟨k, k2⟩
theorem q_ic_gt {o : Int} (k : y < x → J a pl st (sh, L, σ) cu su) (k2 : ¬ y < x → mwp d mid res J is (pc + 3) pl (st) (sh, L, σ) cu su) : mwp d mid res J ((.if_icmp .gt o, len, a, b, w, ps) :: is) pc pl (.int y :: .int x :: st) (sh, L, σ) cu su := ⟨k, k2⟩
theorem q_ic_le {o : Int} (k : x ≤ y → J a pl st (sh, L, σ) cu su) (k2 : ¬ x ≤ y → mwp d mid res J is (pc + 3) pl (st) (sh, L, σ) cu su) : mwp d mid res J ((.if_icmp .le o, len, a, b, w, ps) :: is) pc pl (.int y :: .int x :: st) (sh, L, σ) cu su := ⟨k, k2⟩
theorem q_ic_ne {o : Int} (k : x = y → mwp d mid res J is (pc + 3) pl (st) (sh, L, σ) cu su) (k2 : ¬ x = y → J a pl st (sh, L, σ) cu su) : mwp d mid res J ((.if_icmp .ne o, len, a, b, w, ps) :: is) pc pl (.int y :: .int x :: st) (sh, L, σ) cu su := ⟨k2, fun z => k (Classical.byContradiction z)⟩
theorem q_ifnullN {o : Int} (k : J a pl st (sh, L, σ) cu su) : mwp d mid res J ((.ifnull o, len, a, b, w, ps) :: is) pc pl (.null :: st) (sh, L, σ) cu su := k
theorem q_ifnullR {o : Int} {z : Nat} (k : mwp d mid res J is (pc + 3) pl (st) (sh, L, σ) cu su) : mwp d mid res J ((.ifnull o, len, a, b, w, ps) :: is) pc pl (.ref z :: st) (sh, L, σ) cu su := k
theorem q_ifnonnullN {o : Int} (k : mwp d mid res J is (pc + 3) pl (st) (sh, L, σ) cu su) : mwp d mid res J ((.ifnonnull o, len, a, b, w, ps) :: is) pc pl (.null :: st) (sh, L, σ) cu su := k
theorem q_ifnonnullR {o : Int} {z : Nat} (k : J a pl st (sh, L, σ) cu su) : mwp d mid res J ((.ifnonnull o, len, a, b, w, ps) :: is) pc pl (.ref z :: st) (sh, L, σ) cu su := k
theorem q_tsw {df lo hi : Int} {os : Array Int} (k : msw (fun t => J t pl st (sh, L, σ) cu su) x a ps) : mwp d mid res J ((.tableswitch df lo hi os, len, a, b, w, ps) :: is) pc pl (.int x :: st) (sh, L, σ) cu su := k
theorem q_lsw {df : Int} {os : Array (Int × Int)} (k : msw (fun t => J t pl st (sh, L, σ) cu su) x a ps) : mwp d mid res J ((.lookupswitch df os, len, a, b, w, ps) :: is) pc pl (.int x :: st) (sh, L, σ) cu su := k
theorem q_dupI (k : mwp d mid res J is (pc + 1) pl (.int x :: .int x :: st) (sh, L, σ) cu su) : mwp d mid res J ((.dup, len, a, b, w, ps) :: is) pc pl (.int x :: st) (sh, L, σ) cu su := k
theorem q_dupR {z : Nat} (k : mwp d mid res J is (pc + 1) pl (.ref z :: .ref z :: st) (sh, L, σ) cu su) : mwp d mid res J ((.dup, len, a, b, w, ps) :: is) pc pl (.ref z :: st) (sh, L, σ) cu su := k
theorem q_dup2 {z : Nat} (k : mwp d mid res J is (pc + 1) pl (.int x :: .ref z :: .int x :: .ref z :: st) (sh, L, σ) cu su) : mwp d mid res J ((.dup2, len, a, b, w, ps) :: is) pc pl (.int x :: .ref z :: st) (sh, L, σ) cu su := k
theorem q_getI {n z : Nat} {rs : List (Option Nat)} (h : mnth sh z = some (0, a, rs)) (h2 : Nat.beq (mkd a b) 2 = false) (k : mwp d mid res J is (pc + 3) pl (.int (σ z b) :: st) (sh, L, σ) cu su) : mwp d mid res J ((.getfield n, len, a, b, w, ps) :: is) pc pl (.ref z :: st) (sh, L, σ) cu su := by
  refine mob_i (S := (sh, L, σ)) (a := z) (ci := a) h ?_
  show (match mkd a b with
    | 2 => mwp d mid res J is (pc + 3) pl (mpv (rs.getD b none) :: st) (sh, L, σ) cu su
    | _ => mwp d mid res J is (pc + 3) pl (.int (σ z b) :: st) (sh, L, σ) cu su)
  split
  · rename_i e
    rw [e] at h2
    cases h2
  · exact k
theorem q_getR {n z v : Nat} {rs : List (Option Nat)} (h : mnth sh z = some (0, a, rs)) (h2 : mkd a b = 2) (h3 : rs.getD b none = some v) (k : mwp d mid res J is (pc + 3) pl (.ref v :: st) (sh, L, σ) cu su) : mwp d mid res J ((.getfield n, len, a, b, w, ps) :: is) pc pl (.ref z :: st) (sh, L, σ) cu su := by
  refine mob_i (S := (sh, L, σ)) (a := z) (ci := a) h ?_
  show (match mkd a b with
    | 2 => mwp d mid res J is (pc + 3) pl (mpv (rs.getD b none) :: st) (sh, L, σ) cu su
    | _ => mwp d mid res J is (pc + 3) pl (.int (σ z b) :: st) (sh, L, σ) cu su)
  rw [h2, h3]
  exact k
theorem q_putI {n z : Nat} {rs : List (Option Nat)} (h : mnth sh z = some (0, a, rs)) (h2 : mkd a b = 0) (k : mwp d mid res J is (pc + 3) pl (st) (sh, L, mup σ z b x) cu su) : mwp d mid res J ((.putfield n, len, a, b, w, ps) :: is) pc pl (.int x :: .ref z :: st) (sh, L, σ) cu su := by
  show mputf a b pc pl _ (sh, L, σ) cu su _
  unfold mputf
  rw [h2]
  exact mob_i (S := (sh, L, σ)) (a := z) (ci := a) h k
theorem q_putZ {n z : Nat} {rs : List (Option Nat)} (h : mnth sh z = some (0, a, rs)) (h2 : mkd a b = 1) (h3 : x = 0 ∨ x = 1) (k : mwp d mid res J is (pc + 3) pl (st) (sh, L, mup σ z b x) cu su) : mwp d mid res J ((.putfield n, len, a, b, w, ps) :: is) pc pl (.int x :: .ref z :: st) (sh, L, σ) cu su := by
  show mputf a b pc pl _ (sh, L, σ) cu su _
  unfold mputf
  rw [h2]
  exact mob_i (S := (sh, L, σ)) (a := z) (ci := a) h ⟨h3, k⟩
theorem q_getstatic {n : Nat} (k : mwp d mid res J is (pc + 3) pl (.ref (1000000 + a) :: st) (sh, L, σ) cu su) : mwp d mid res J ((.getstatic n, len, a, b, w, ps) :: is) pc pl (st) (sh, L, σ) cu su := k
theorem q_alen {n z : Nat} {v : Int32} (hv : Int32.ofNat n = v) {rs : List (Option Nat)} (h : mnth sh z = some (1, n, rs)) (k : mwp d mid res J is (pc + 1) pl (.int v :: st) (sh, L, σ) cu su) : mwp d mid res J ((.arraylength, len, a, b, w, ps) :: is) pc pl (.ref z :: st) (sh, L, σ) cu su := by
  subst hv
  show (match mnth sh z with
    | some (3, n, _) => mwp d mid res J is (pc + 1) pl (.int (Int32.ofNat n) :: st) (sh, L, σ) cu su
    | _ => mai (sh, L, σ) z fun n => mwp d mid res J is (pc + 1) pl (.int (Int32.ofNat n) :: st) (sh, L, σ) cu su)
  rw [h]
  exact mai_i (by simp only [mal, h]) k
theorem q_alenD {n z : Nat} {v : Int32} (hv : Int32.ofNat n = v) (h : mal (sh, L, σ) z = some n) (k : mwp d mid res J is (pc + 1) pl (.int v :: st) (sh, L, σ) cu su) : mwp d mid res J ((.arraylength, len, a, b, w, ps) :: is) pc pl (.ref z :: st) (sh, L, σ) cu su := by
  subst hv
  show (match mnth sh z with
    | some (3, n, _) => mwp d mid res J is (pc + 1) pl (.int (Int32.ofNat n) :: st) (sh, L, σ) cu su
    | _ => mai (sh, L, σ) z fun n => mwp d mid res J is (pc + 1) pl (.int (Int32.ofNat n) :: st) (sh, L, σ) cu su)
  split
  · rename_i e
    unfold mal at h
    rw [e] at h
    cases h
  · exact mai_i h k
theorem q_alenQ {n z : Nat} {v : Int32} (hv : Int32.ofNat n = v) {rs : List (Option Nat)} (h : mnth sh z = some (3, n, rs)) (k : mwp d mid res J is (pc + 1) pl (.int v :: st) (sh, L, σ) cu su) : mwp d mid res J ((.arraylength, len, a, b, w, ps) :: is) pc pl (.ref z :: st) (sh, L, σ) cu su := by
  subst hv
  show (match mnth sh z with
    | some (3, n, _) => mwp d mid res J is (pc + 1) pl (.int (Int32.ofNat n) :: st) (sh, L, σ) cu su
    | _ => mai (sh, L, σ) z fun n => mwp d mid res J is (pc + 1) pl (.int (Int32.ofNat n) :: st) (sh, L, σ) cu su)
  rw [h]
  exact k
theorem q_iald {n z j : Nat} (h : mal (sh, L, σ) z = some n) (hj : x.toNatClampNeg = j) (h2 : ¬ (x < 0 ∨ n ≤ x.toNatClampNeg)) (k : mwp d mid res J is (pc + 1) pl (.int (σ z j) :: st) (sh, L, σ) cu su) : mwp d mid res J ((.iaload, len, a, b, w, ps) :: is) pc pl (.int x :: .ref z :: st) (sh, L, σ) cu su := by subst hj; exact mai_i (S := (sh, L, σ)) (a := z) h ⟨h2, k⟩
theorem q_iast {n z j : Nat} {rs : List (Option Nat)} (hj : x.toNatClampNeg = j) (h : mnth sh z = some (1, n, rs)) (h2 : ¬ (x < 0 ∨ n ≤ x.toNatClampNeg)) (k : mwp d mid res J is (pc + 1) pl (st) (sh, L, mup σ z j y) cu su) : mwp d mid res J ((.iastore, len, a, b, w, ps) :: is) pc pl (.int y :: .int x :: .ref z :: st) (sh, L, σ) cu su := by
  subst hj
  show (match mnth sh z with
    | some (1, n, _) => vp_in x n ∧ mwp d mid res J is (pc + 1) pl st (sh, L, mup σ z x.toNatClampNeg y) cu su
    | _ => False)
  rw [h]
  exact ⟨h2, k⟩
theorem q_bald {n z j : Nat} {rs : List (Option Nat)} (hj : x.toNatClampNeg = j) (h : mnth sh z = some (2, n, rs)) (h2 : ¬ (x < 0 ∨ n ≤ x.toNatClampNeg)) (k : mwp d mid res J is (pc + 1) pl (.int (σ z j) :: st) (sh, L, σ) cu su) : mwp d mid res J ((.baload, len, a, b, w, ps) :: is) pc pl (.int x :: .ref z :: st) (sh, L, σ) cu su := by
  subst hj
  show maz (sh, L, σ) z fun n => vp_in x n ∧ mwp d mid res J is (pc + 1) pl (.int (σ z x.toNatClampNeg) :: st) (sh, L, σ) cu su
  unfold maz
  rw [h]
  exact ⟨h2, k⟩
theorem q_bast {n z j : Nat} {rs : List (Option Nat)} (hj : x.toNatClampNeg = j) (h : mnth sh z = some (2, n, rs)) (h2 : ¬ (x < 0 ∨ n ≤ x.toNatClampNeg)) (k : mwp d mid res J is (pc + 1) pl (st) (sh, L, mup σ z j (vp_nar .boolean y)) cu su) : mwp d mid res J ((.bastore, len, a, b, w, ps) :: is) pc pl (.int y :: .int x :: .ref z :: st) (sh, L, σ) cu su := by
  subst hj
  show maz (sh, L, σ) z fun n => vp_in x n ∧ mwp d mid res J is (pc + 1) pl st (sh, L, mup σ z x.toNatClampNeg (vp_nar .boolean y)) cu su
  unfold maz
  rw [h]
  exact ⟨h2, k⟩
theorem q_aald {n z v : Nat} {rs : List (Option Nat)} (h : mnth sh z = some (3, n, rs)) (h2 : ¬ (x < 0 ∨ n ≤ x.toNatClampNeg)) (h3 : rs.getD x.toNatClampNeg none = some v) (k : mwp d mid res J is (pc + 1) pl (.ref v :: st) (sh, L, σ) cu su) : mwp d mid res J ((.aaload, len, a, b, w, ps) :: is) pc pl (.int x :: .ref z :: st) (sh, L, σ) cu su := by
  show maq (sh, L, σ) z fun n rs => vp_in x n ∧ mwp d mid res J is (pc + 1) pl (mpv (rs.getD x.toNatClampNeg none) :: st) (sh, L, σ) cu su
  unfold maq
  rw [h]
  refine ⟨h2, ?_⟩
  rw [h3]
  exact k
theorem q_min {n : Nat} (h : Nat.ble (mcats st) 8 = true) (h2 : 1 ≤ d) (h3 : mcap mid cu su = true) (k : mwp d mid res J is (pc + 3) pl (.int (if y < x then y else x) :: st) (sh, L, σ) cu su) : mwp d mid res J ((.invokestatic n, len, 997, b, w, ps) :: is) pc pl (.int y :: .int x :: st) (sh, L, σ) cu su := ⟨⟨h, h3, h2⟩, k⟩
theorem q_max {n : Nat} (h : Nat.ble (mcats st) 8 = true) (h2 : 1 ≤ d) (h3 : mcap mid cu su = true) (k : mwp d mid res J is (pc + 3) pl (.int (if x < y then y else x) :: st) (sh, L, σ) cu su) : mwp d mid res J ((.invokestatic n, len, 996, b, w, ps) :: is) pc pl (.int y :: .int x :: st) (sh, L, σ) cu su := ⟨⟨h, h3, h2⟩, k⟩
theorem q_copy {m z u n0 n1 : Nat} {r0 r1 : List (Option Nat)} {sp dp n : Int32} (h : Nat.ble (mcats st) 8 = true) (h2 : 1 ≤ d) (h3 : mnth sh z = some (1, n0, r0)) (h4 : mnth sh u = some (1, n1, r1)) (h5 : ¬ (sp < 0 ∨ dp < 0 ∨ n < 0 ∨ n0 < sp.toNatClampNeg + n.toNatClampNeg ∨ n1 < dp.toNatClampNeg + n.toNatClampNeg)) (k : mwp d mid res J is (pc + 3) pl (st) (sh, L, mrow σ u (va_cpy (σ z) (σ u) sp.toNatClampNeg dp.toNatClampNeg n.toNatClampNeg)) cu su) : mwp d mid res J ((.invokestatic m, len, 998, b, w, ps) :: is) pc pl (.int n :: .int dp :: .ref u :: .int sp :: .ref z :: st) (sh, L, σ) cu su := by
  refine ⟨⟨h, h2⟩, ?_⟩
  show (match mnth sh z, mnth sh u with
    | some (1, n0, _), some (1, n1, _) => (¬ sp < 0 ∧ ¬ dp < 0 ∧ ¬ n < 0 ∧ sp.toNatClampNeg + n.toNatClampNeg ≤ n0 ∧ dp.toNatClampNeg + n.toNatClampNeg ≤ n1) ∧ mwp d mid res J is (pc + 3) pl st (sh, L, mrow σ u (va_cpy (σ z) (σ u) sp.toNatClampNeg dp.toNatClampNeg n.toNatClampNeg)) cu su
    | _, _ => False)
  rw [h3, h4]
  refine ⟨⟨fun q => h5 (Or.inl q), fun q => h5 (Or.inr (Or.inl q)), fun q => h5 (Or.inr (Or.inr (Or.inl q))), ?_, ?_⟩, k⟩
  · exact Nat.not_lt.mp fun q => h5 (Or.inr (Or.inr (Or.inr (Or.inl q))))
  · exact Nat.not_lt.mp fun q => h5 (Or.inr (Or.inr (Or.inr (Or.inr q))))
theorem q_iretI {n : Int32} (hcp : mcap mid cu su = true) (h : mRt mid = some .int) (h2 : res = (some (.int n), (sh, L, σ))) : mwp d mid res J ((.ireturn, len, a, b, w, ps) :: is) pc pl [.int n] (sh, L, σ) cu su := ⟨hcp, by rw [h]; trivial, h2⟩
theorem q_iretZ {n : Int32} (hcp : mcap mid cu su = true) (h : mRt mid = some .boolean) (hv : n = 0 ∨ n = 1) (h2 : res = (some (.int n), (sh, L, σ))) : mwp d mid res J ((.ireturn, len, a, b, w, ps) :: is) pc pl [.int n] (sh, L, σ) cu su := ⟨hcp, by rw [h]; exact hv, h2⟩
theorem q_iret {n : Int32} (hcp : mcap mid cu su = true) (h : mrk (mRt mid) n) (h2 : res = (some (.int n), (sh, L, σ))) : mwp d mid res J ((.ireturn, len, a, b, w, ps) :: is) pc pl [.int n] (sh, L, σ) cu su := ⟨hcp, h, h2⟩
theorem q_vret (hcp : mcap mid cu su = true) (h : mRt mid = none) (h2 : res = (none, (sh, L, σ))) : mwp d mid res J ((.return_, len, a, b, w, ps) :: is) pc pl [] (sh, L, σ) cu su := ⟨hcp, h, h2⟩
theorem q_aretN (hcp : mcap mid cu su = true) (h : mrq (mRt mid)) (h2 : res = (some .null, (sh, L, σ))) : mwp d mid res J ((.areturn, len, a, b, w, ps) :: is) pc pl [.null] (sh, L, σ) cu su := ⟨hcp, h, h2⟩
theorem q_aretR {n : Nat} (hcp : mcap mid cu su = true) (h : mrq (mRt mid)) (h2 : res = (some (.ref n), (sh, L, σ))) : mwp d mid res J ((.areturn, len, a, b, w, ps) :: is) pc pl [.ref n] (sh, L, σ) cu su := ⟨hcp, h, h2⟩
theorem q_vI0 {m z d' : Nat} {rs : List (Option Nat)} {S' : mS} (hcp : mcap mid cu su = true) (hn : mNa a = 0) (hm : mMc a = (0, 0)) (ho : mnth sh z = some (0, mcN a, rs)) (hc : Nat.ble (mcats st) 8 = true) (hd : d' + 1 ≤ d) (hE : mEv d' a [.ref z] (sh, L, σ) (some (.int x)) S') (k : mwp d mid res J is (pc + 3) pl (.int x :: st) S' cu su) : mwp d mid res J ((.invokevirtual m, len, a, b, w, ps) :: is) pc pl (.ref z :: st) (sh, L, σ) cu su := by
  show mcut (mNa a + 1) _ [] _
  rw [hn]
  refine mob_i (S := (sh, L, σ)) (a := z) (ci := mcN a) ho ⟨⟨hc, by rw [hm]; exact hcp⟩, d', _, S', hd, hE, ?_⟩
  rw [show cu + (mMc a).1 = cu by simp [hm], show su + (mMc a).2 = su by simp [hm]]
  exact k
theorem q_sI0 {m d' : Nat} {S' : mS} (hcp : mcap mid cu su = true) (ha : Nat.blt a 229 = true) (hn : mNa a = 0) (hm : mMc a = (0, 0)) (hc : Nat.ble (mcats st) 8 = true) (hd : d' + 1 ≤ d) (hE : mEv d' a [] (sh, L, σ) (some (.int x)) S') (k : mwp d mid res J is (pc + 3) pl (.int x :: st) S' cu su) : mwp d mid res J ((.invokestatic m, len, a, b, w, ps) :: is) pc pl (st) (sh, L, σ) cu su := by
  have ha : a < 229 := by simpa [Nat.blt_eq] using ha
  show mistat d mid a pc pl _ (sh, L, σ) cu su _
  unfold mistat
  split
  · omega
  · omega
  · omega
  · rw [hn]
    refine ⟨⟨hc, by rw [hm]; exact hcp⟩, d', _, S', hd, hE, ?_⟩
    rw [show cu + (mMc a).1 = cu by simp [hm], show su + (mMc a).2 = su by simp [hm]]
    exact k
theorem q_vV0 {m z d' : Nat} {rs : List (Option Nat)} {S' : mS} (hcp : mcap mid cu su = true) (hn : mNa a = 0) (hm : mMc a = (0, 0)) (ho : mnth sh z = some (0, mcN a, rs)) (hc : Nat.ble (mcats st) 8 = true) (hd : d' + 1 ≤ d) (hE : mEv d' a [.ref z] (sh, L, σ) none S') (k : mwp d mid res J is (pc + 3) pl (st) S' cu su) : mwp d mid res J ((.invokevirtual m, len, a, b, w, ps) :: is) pc pl (.ref z :: st) (sh, L, σ) cu su := by
  show mcut (mNa a + 1) _ [] _
  rw [hn]
  refine mob_i (S := (sh, L, σ)) (a := z) (ci := mcN a) ho ⟨⟨hc, by rw [hm]; exact hcp⟩, d', _, S', hd, hE, ?_⟩
  rw [show cu + (mMc a).1 = cu by simp [hm], show su + (mMc a).2 = su by simp [hm]]
  exact k
theorem q_sV0 {m d' : Nat} {S' : mS} (hcp : mcap mid cu su = true) (ha : Nat.blt a 229 = true) (hn : mNa a = 0) (hm : mMc a = (0, 0)) (hc : Nat.ble (mcats st) 8 = true) (hd : d' + 1 ≤ d) (hE : mEv d' a [] (sh, L, σ) none S') (k : mwp d mid res J is (pc + 3) pl (st) S' cu su) : mwp d mid res J ((.invokestatic m, len, a, b, w, ps) :: is) pc pl (st) (sh, L, σ) cu su := by
  have ha : a < 229 := by simpa [Nat.blt_eq] using ha
  show mistat d mid a pc pl _ (sh, L, σ) cu su _
  unfold mistat
  split
  · omega
  · omega
  · omega
  · rw [hn]
    refine ⟨⟨hc, by rw [hm]; exact hcp⟩, d', _, S', hd, hE, ?_⟩
    rw [show cu + (mMc a).1 = cu by simp [hm], show su + (mMc a).2 = su by simp [hm]]
    exact k
theorem q_vN0 {m z d' : Nat} {rs : List (Option Nat)} {S' : mS} (hcp : mcap mid cu su = true) (hn : mNa a = 0) (hm : mMc a = (0, 0)) (ho : mnth sh z = some (0, mcN a, rs)) (hc : Nat.ble (mcats st) 8 = true) (hd : d' + 1 ≤ d) (hE : mEv d' a [.ref z] (sh, L, σ) (some .null) S') (k : mwp d mid res J is (pc + 3) pl (.null :: st) S' cu su) : mwp d mid res J ((.invokevirtual m, len, a, b, w, ps) :: is) pc pl (.ref z :: st) (sh, L, σ) cu su := by
  show mcut (mNa a + 1) _ [] _
  rw [hn]
  refine mob_i (S := (sh, L, σ)) (a := z) (ci := mcN a) ho ⟨⟨hc, by rw [hm]; exact hcp⟩, d', _, S', hd, hE, ?_⟩
  rw [show cu + (mMc a).1 = cu by simp [hm], show su + (mMc a).2 = su by simp [hm]]
  exact k
theorem q_sN0 {m d' : Nat} {S' : mS} (hcp : mcap mid cu su = true) (ha : Nat.blt a 229 = true) (hn : mNa a = 0) (hm : mMc a = (0, 0)) (hc : Nat.ble (mcats st) 8 = true) (hd : d' + 1 ≤ d) (hE : mEv d' a [] (sh, L, σ) (some .null) S') (k : mwp d mid res J is (pc + 3) pl (.null :: st) S' cu su) : mwp d mid res J ((.invokestatic m, len, a, b, w, ps) :: is) pc pl (st) (sh, L, σ) cu su := by
  have ha : a < 229 := by simpa [Nat.blt_eq] using ha
  show mistat d mid a pc pl _ (sh, L, σ) cu su _
  unfold mistat
  split
  · omega
  · omega
  · omega
  · rw [hn]
    refine ⟨⟨hc, by rw [hm]; exact hcp⟩, d', _, S', hd, hE, ?_⟩
    rw [show cu + (mMc a).1 = cu by simp [hm], show su + (mMc a).2 = su by simp [hm]]
    exact k
theorem q_vR0 {u : Nat} {m z d' : Nat} {rs : List (Option Nat)} {S' : mS} (hcp : mcap mid cu su = true) (hn : mNa a = 0) (hm : mMc a = (0, 0)) (ho : mnth sh z = some (0, mcN a, rs)) (hc : Nat.ble (mcats st) 8 = true) (hd : d' + 1 ≤ d) (hE : mEv d' a [.ref z] (sh, L, σ) (some (.ref u)) S') (k : mwp d mid res J is (pc + 3) pl (.ref u :: st) S' cu su) : mwp d mid res J ((.invokevirtual m, len, a, b, w, ps) :: is) pc pl (.ref z :: st) (sh, L, σ) cu su := by
  show mcut (mNa a + 1) _ [] _
  rw [hn]
  refine mob_i (S := (sh, L, σ)) (a := z) (ci := mcN a) ho ⟨⟨hc, by rw [hm]; exact hcp⟩, d', _, S', hd, hE, ?_⟩
  rw [show cu + (mMc a).1 = cu by simp [hm], show su + (mMc a).2 = su by simp [hm]]
  exact k
theorem q_sR0 {u : Nat} {m d' : Nat} {S' : mS} (hcp : mcap mid cu su = true) (ha : Nat.blt a 229 = true) (hn : mNa a = 0) (hm : mMc a = (0, 0)) (hc : Nat.ble (mcats st) 8 = true) (hd : d' + 1 ≤ d) (hE : mEv d' a [] (sh, L, σ) (some (.ref u)) S') (k : mwp d mid res J is (pc + 3) pl (.ref u :: st) S' cu su) : mwp d mid res J ((.invokestatic m, len, a, b, w, ps) :: is) pc pl (st) (sh, L, σ) cu su := by
  have ha : a < 229 := by simpa [Nat.blt_eq] using ha
  show mistat d mid a pc pl _ (sh, L, σ) cu su _
  unfold mistat
  split
  · omega
  · omega
  · omega
  · rw [hn]
    refine ⟨⟨hc, by rw [hm]; exact hcp⟩, d', _, S', hd, hE, ?_⟩
    rw [show cu + (mMc a).1 = cu by simp [hm], show su + (mMc a).2 = su by simp [hm]]
    exact k
theorem q_vI1 {v1 : Value} {m z d' : Nat} {rs : List (Option Nat)} {S' : mS} (hcp : mcap mid cu su = true) (hn : mNa a = 1) (hm : mMc a = (0, 0)) (ho : mnth sh z = some (0, mcN a, rs)) (hc : Nat.ble (mcats st) 8 = true) (hd : d' + 1 ≤ d) (hE : mEv d' a [.ref z, v1] (sh, L, σ) (some (.int x)) S') (k : mwp d mid res J is (pc + 3) pl (.int x :: st) S' cu su) : mwp d mid res J ((.invokevirtual m, len, a, b, w, ps) :: is) pc pl (v1 :: .ref z :: st) (sh, L, σ) cu su := by
  show mcut (mNa a + 1) _ [] _
  rw [hn]
  refine mob_i (S := (sh, L, σ)) (a := z) (ci := mcN a) ho ⟨⟨hc, by rw [hm]; exact hcp⟩, d', _, S', hd, hE, ?_⟩
  rw [show cu + (mMc a).1 = cu by simp [hm], show su + (mMc a).2 = su by simp [hm]]
  exact k
theorem q_sI1 {v1 : Value} {m d' : Nat} {S' : mS} (hcp : mcap mid cu su = true) (ha : Nat.blt a 229 = true) (hn : mNa a = 1) (hm : mMc a = (0, 0)) (hc : Nat.ble (mcats st) 8 = true) (hd : d' + 1 ≤ d) (hE : mEv d' a [v1] (sh, L, σ) (some (.int x)) S') (k : mwp d mid res J is (pc + 3) pl (.int x :: st) S' cu su) : mwp d mid res J ((.invokestatic m, len, a, b, w, ps) :: is) pc pl (v1 :: st) (sh, L, σ) cu su := by
  have ha : a < 229 := by simpa [Nat.blt_eq] using ha
  show mistat d mid a pc pl _ (sh, L, σ) cu su _
  unfold mistat
  split
  · omega
  · omega
  · omega
  · rw [hn]
    refine ⟨⟨hc, by rw [hm]; exact hcp⟩, d', _, S', hd, hE, ?_⟩
    rw [show cu + (mMc a).1 = cu by simp [hm], show su + (mMc a).2 = su by simp [hm]]
    exact k
theorem q_vV1 {v1 : Value} {m z d' : Nat} {rs : List (Option Nat)} {S' : mS} (hcp : mcap mid cu su = true) (hn : mNa a = 1) (hm : mMc a = (0, 0)) (ho : mnth sh z = some (0, mcN a, rs)) (hc : Nat.ble (mcats st) 8 = true) (hd : d' + 1 ≤ d) (hE : mEv d' a [.ref z, v1] (sh, L, σ) none S') (k : mwp d mid res J is (pc + 3) pl (st) S' cu su) : mwp d mid res J ((.invokevirtual m, len, a, b, w, ps) :: is) pc pl (v1 :: .ref z :: st) (sh, L, σ) cu su := by
  show mcut (mNa a + 1) _ [] _
  rw [hn]
  refine mob_i (S := (sh, L, σ)) (a := z) (ci := mcN a) ho ⟨⟨hc, by rw [hm]; exact hcp⟩, d', _, S', hd, hE, ?_⟩
  rw [show cu + (mMc a).1 = cu by simp [hm], show su + (mMc a).2 = su by simp [hm]]
  exact k
theorem q_sV1 {v1 : Value} {m d' : Nat} {S' : mS} (hcp : mcap mid cu su = true) (ha : Nat.blt a 229 = true) (hn : mNa a = 1) (hm : mMc a = (0, 0)) (hc : Nat.ble (mcats st) 8 = true) (hd : d' + 1 ≤ d) (hE : mEv d' a [v1] (sh, L, σ) none S') (k : mwp d mid res J is (pc + 3) pl (st) S' cu su) : mwp d mid res J ((.invokestatic m, len, a, b, w, ps) :: is) pc pl (v1 :: st) (sh, L, σ) cu su := by
  have ha : a < 229 := by simpa [Nat.blt_eq] using ha
  show mistat d mid a pc pl _ (sh, L, σ) cu su _
  unfold mistat
  split
  · omega
  · omega
  · omega
  · rw [hn]
    refine ⟨⟨hc, by rw [hm]; exact hcp⟩, d', _, S', hd, hE, ?_⟩
    rw [show cu + (mMc a).1 = cu by simp [hm], show su + (mMc a).2 = su by simp [hm]]
    exact k
theorem q_vN1 {v1 : Value} {m z d' : Nat} {rs : List (Option Nat)} {S' : mS} (hcp : mcap mid cu su = true) (hn : mNa a = 1) (hm : mMc a = (0, 0)) (ho : mnth sh z = some (0, mcN a, rs)) (hc : Nat.ble (mcats st) 8 = true) (hd : d' + 1 ≤ d) (hE : mEv d' a [.ref z, v1] (sh, L, σ) (some .null) S') (k : mwp d mid res J is (pc + 3) pl (.null :: st) S' cu su) : mwp d mid res J ((.invokevirtual m, len, a, b, w, ps) :: is) pc pl (v1 :: .ref z :: st) (sh, L, σ) cu su := by
  show mcut (mNa a + 1) _ [] _
  rw [hn]
  refine mob_i (S := (sh, L, σ)) (a := z) (ci := mcN a) ho ⟨⟨hc, by rw [hm]; exact hcp⟩, d', _, S', hd, hE, ?_⟩
  rw [show cu + (mMc a).1 = cu by simp [hm], show su + (mMc a).2 = su by simp [hm]]
  exact k
theorem q_sN1 {v1 : Value} {m d' : Nat} {S' : mS} (hcp : mcap mid cu su = true) (ha : Nat.blt a 229 = true) (hn : mNa a = 1) (hm : mMc a = (0, 0)) (hc : Nat.ble (mcats st) 8 = true) (hd : d' + 1 ≤ d) (hE : mEv d' a [v1] (sh, L, σ) (some .null) S') (k : mwp d mid res J is (pc + 3) pl (.null :: st) S' cu su) : mwp d mid res J ((.invokestatic m, len, a, b, w, ps) :: is) pc pl (v1 :: st) (sh, L, σ) cu su := by
  have ha : a < 229 := by simpa [Nat.blt_eq] using ha
  show mistat d mid a pc pl _ (sh, L, σ) cu su _
  unfold mistat
  split
  · omega
  · omega
  · omega
  · rw [hn]
    refine ⟨⟨hc, by rw [hm]; exact hcp⟩, d', _, S', hd, hE, ?_⟩
    rw [show cu + (mMc a).1 = cu by simp [hm], show su + (mMc a).2 = su by simp [hm]]
    exact k
theorem q_vR1 {v1 : Value} {u : Nat} {m z d' : Nat} {rs : List (Option Nat)} {S' : mS} (hcp : mcap mid cu su = true) (hn : mNa a = 1) (hm : mMc a = (0, 0)) (ho : mnth sh z = some (0, mcN a, rs)) (hc : Nat.ble (mcats st) 8 = true) (hd : d' + 1 ≤ d) (hE : mEv d' a [.ref z, v1] (sh, L, σ) (some (.ref u)) S') (k : mwp d mid res J is (pc + 3) pl (.ref u :: st) S' cu su) : mwp d mid res J ((.invokevirtual m, len, a, b, w, ps) :: is) pc pl (v1 :: .ref z :: st) (sh, L, σ) cu su := by
  show mcut (mNa a + 1) _ [] _
  rw [hn]
  refine mob_i (S := (sh, L, σ)) (a := z) (ci := mcN a) ho ⟨⟨hc, by rw [hm]; exact hcp⟩, d', _, S', hd, hE, ?_⟩
  rw [show cu + (mMc a).1 = cu by simp [hm], show su + (mMc a).2 = su by simp [hm]]
  exact k
theorem q_sR1 {v1 : Value} {u : Nat} {m d' : Nat} {S' : mS} (hcp : mcap mid cu su = true) (ha : Nat.blt a 229 = true) (hn : mNa a = 1) (hm : mMc a = (0, 0)) (hc : Nat.ble (mcats st) 8 = true) (hd : d' + 1 ≤ d) (hE : mEv d' a [v1] (sh, L, σ) (some (.ref u)) S') (k : mwp d mid res J is (pc + 3) pl (.ref u :: st) S' cu su) : mwp d mid res J ((.invokestatic m, len, a, b, w, ps) :: is) pc pl (v1 :: st) (sh, L, σ) cu su := by
  have ha : a < 229 := by simpa [Nat.blt_eq] using ha
  show mistat d mid a pc pl _ (sh, L, σ) cu su _
  unfold mistat
  split
  · omega
  · omega
  · omega
  · rw [hn]
    refine ⟨⟨hc, by rw [hm]; exact hcp⟩, d', _, S', hd, hE, ?_⟩
    rw [show cu + (mMc a).1 = cu by simp [hm], show su + (mMc a).2 = su by simp [hm]]
    exact k
theorem q_vI2 {v1 v2 : Value} {m z d' : Nat} {rs : List (Option Nat)} {S' : mS} (hcp : mcap mid cu su = true) (hn : mNa a = 2) (hm : mMc a = (0, 0)) (ho : mnth sh z = some (0, mcN a, rs)) (hc : Nat.ble (mcats st) 8 = true) (hd : d' + 1 ≤ d) (hE : mEv d' a [.ref z, v1, v2] (sh, L, σ) (some (.int x)) S') (k : mwp d mid res J is (pc + 3) pl (.int x :: st) S' cu su) : mwp d mid res J ((.invokevirtual m, len, a, b, w, ps) :: is) pc pl (v2 :: v1 :: .ref z :: st) (sh, L, σ) cu su := by
  show mcut (mNa a + 1) _ [] _
  rw [hn]
  refine mob_i (S := (sh, L, σ)) (a := z) (ci := mcN a) ho ⟨⟨hc, by rw [hm]; exact hcp⟩, d', _, S', hd, hE, ?_⟩
  rw [show cu + (mMc a).1 = cu by simp [hm], show su + (mMc a).2 = su by simp [hm]]
  exact k
theorem q_sI2 {v1 v2 : Value} {m d' : Nat} {S' : mS} (hcp : mcap mid cu su = true) (ha : Nat.blt a 229 = true) (hn : mNa a = 2) (hm : mMc a = (0, 0)) (hc : Nat.ble (mcats st) 8 = true) (hd : d' + 1 ≤ d) (hE : mEv d' a [v1, v2] (sh, L, σ) (some (.int x)) S') (k : mwp d mid res J is (pc + 3) pl (.int x :: st) S' cu su) : mwp d mid res J ((.invokestatic m, len, a, b, w, ps) :: is) pc pl (v2 :: v1 :: st) (sh, L, σ) cu su := by
  have ha : a < 229 := by simpa [Nat.blt_eq] using ha
  show mistat d mid a pc pl _ (sh, L, σ) cu su _
  unfold mistat
  split
  · omega
  · omega
  · omega
  · rw [hn]
    refine ⟨⟨hc, by rw [hm]; exact hcp⟩, d', _, S', hd, hE, ?_⟩
    rw [show cu + (mMc a).1 = cu by simp [hm], show su + (mMc a).2 = su by simp [hm]]
    exact k
theorem q_vV2 {v1 v2 : Value} {m z d' : Nat} {rs : List (Option Nat)} {S' : mS} (hcp : mcap mid cu su = true) (hn : mNa a = 2) (hm : mMc a = (0, 0)) (ho : mnth sh z = some (0, mcN a, rs)) (hc : Nat.ble (mcats st) 8 = true) (hd : d' + 1 ≤ d) (hE : mEv d' a [.ref z, v1, v2] (sh, L, σ) none S') (k : mwp d mid res J is (pc + 3) pl (st) S' cu su) : mwp d mid res J ((.invokevirtual m, len, a, b, w, ps) :: is) pc pl (v2 :: v1 :: .ref z :: st) (sh, L, σ) cu su := by
  show mcut (mNa a + 1) _ [] _
  rw [hn]
  refine mob_i (S := (sh, L, σ)) (a := z) (ci := mcN a) ho ⟨⟨hc, by rw [hm]; exact hcp⟩, d', _, S', hd, hE, ?_⟩
  rw [show cu + (mMc a).1 = cu by simp [hm], show su + (mMc a).2 = su by simp [hm]]
  exact k
theorem q_sV2 {v1 v2 : Value} {m d' : Nat} {S' : mS} (hcp : mcap mid cu su = true) (ha : Nat.blt a 229 = true) (hn : mNa a = 2) (hm : mMc a = (0, 0)) (hc : Nat.ble (mcats st) 8 = true) (hd : d' + 1 ≤ d) (hE : mEv d' a [v1, v2] (sh, L, σ) none S') (k : mwp d mid res J is (pc + 3) pl (st) S' cu su) : mwp d mid res J ((.invokestatic m, len, a, b, w, ps) :: is) pc pl (v2 :: v1 :: st) (sh, L, σ) cu su := by
  have ha : a < 229 := by simpa [Nat.blt_eq] using ha
  show mistat d mid a pc pl _ (sh, L, σ) cu su _
  unfold mistat
  split
  · omega
  · omega
  · omega
  · rw [hn]
    refine ⟨⟨hc, by rw [hm]; exact hcp⟩, d', _, S', hd, hE, ?_⟩
    rw [show cu + (mMc a).1 = cu by simp [hm], show su + (mMc a).2 = su by simp [hm]]
    exact k
theorem q_vN2 {v1 v2 : Value} {m z d' : Nat} {rs : List (Option Nat)} {S' : mS} (hcp : mcap mid cu su = true) (hn : mNa a = 2) (hm : mMc a = (0, 0)) (ho : mnth sh z = some (0, mcN a, rs)) (hc : Nat.ble (mcats st) 8 = true) (hd : d' + 1 ≤ d) (hE : mEv d' a [.ref z, v1, v2] (sh, L, σ) (some .null) S') (k : mwp d mid res J is (pc + 3) pl (.null :: st) S' cu su) : mwp d mid res J ((.invokevirtual m, len, a, b, w, ps) :: is) pc pl (v2 :: v1 :: .ref z :: st) (sh, L, σ) cu su := by
  show mcut (mNa a + 1) _ [] _
  rw [hn]
  refine mob_i (S := (sh, L, σ)) (a := z) (ci := mcN a) ho ⟨⟨hc, by rw [hm]; exact hcp⟩, d', _, S', hd, hE, ?_⟩
  rw [show cu + (mMc a).1 = cu by simp [hm], show su + (mMc a).2 = su by simp [hm]]
  exact k
theorem q_sN2 {v1 v2 : Value} {m d' : Nat} {S' : mS} (hcp : mcap mid cu su = true) (ha : Nat.blt a 229 = true) (hn : mNa a = 2) (hm : mMc a = (0, 0)) (hc : Nat.ble (mcats st) 8 = true) (hd : d' + 1 ≤ d) (hE : mEv d' a [v1, v2] (sh, L, σ) (some .null) S') (k : mwp d mid res J is (pc + 3) pl (.null :: st) S' cu su) : mwp d mid res J ((.invokestatic m, len, a, b, w, ps) :: is) pc pl (v2 :: v1 :: st) (sh, L, σ) cu su := by
  have ha : a < 229 := by simpa [Nat.blt_eq] using ha
  show mistat d mid a pc pl _ (sh, L, σ) cu su _
  unfold mistat
  split
  · omega
  · omega
  · omega
  · rw [hn]
    refine ⟨⟨hc, by rw [hm]; exact hcp⟩, d', _, S', hd, hE, ?_⟩
    rw [show cu + (mMc a).1 = cu by simp [hm], show su + (mMc a).2 = su by simp [hm]]
    exact k
theorem q_vR2 {v1 v2 : Value} {u : Nat} {m z d' : Nat} {rs : List (Option Nat)} {S' : mS} (hcp : mcap mid cu su = true) (hn : mNa a = 2) (hm : mMc a = (0, 0)) (ho : mnth sh z = some (0, mcN a, rs)) (hc : Nat.ble (mcats st) 8 = true) (hd : d' + 1 ≤ d) (hE : mEv d' a [.ref z, v1, v2] (sh, L, σ) (some (.ref u)) S') (k : mwp d mid res J is (pc + 3) pl (.ref u :: st) S' cu su) : mwp d mid res J ((.invokevirtual m, len, a, b, w, ps) :: is) pc pl (v2 :: v1 :: .ref z :: st) (sh, L, σ) cu su := by
  show mcut (mNa a + 1) _ [] _
  rw [hn]
  refine mob_i (S := (sh, L, σ)) (a := z) (ci := mcN a) ho ⟨⟨hc, by rw [hm]; exact hcp⟩, d', _, S', hd, hE, ?_⟩
  rw [show cu + (mMc a).1 = cu by simp [hm], show su + (mMc a).2 = su by simp [hm]]
  exact k
theorem q_sR2 {v1 v2 : Value} {u : Nat} {m d' : Nat} {S' : mS} (hcp : mcap mid cu su = true) (ha : Nat.blt a 229 = true) (hn : mNa a = 2) (hm : mMc a = (0, 0)) (hc : Nat.ble (mcats st) 8 = true) (hd : d' + 1 ≤ d) (hE : mEv d' a [v1, v2] (sh, L, σ) (some (.ref u)) S') (k : mwp d mid res J is (pc + 3) pl (.ref u :: st) S' cu su) : mwp d mid res J ((.invokestatic m, len, a, b, w, ps) :: is) pc pl (v2 :: v1 :: st) (sh, L, σ) cu su := by
  have ha : a < 229 := by simpa [Nat.blt_eq] using ha
  show mistat d mid a pc pl _ (sh, L, σ) cu su _
  unfold mistat
  split
  · omega
  · omega
  · omega
  · rw [hn]
    refine ⟨⟨hc, by rw [hm]; exact hcp⟩, d', _, S', hd, hE, ?_⟩
    rw [show cu + (mMc a).1 = cu by simp [hm], show su + (mMc a).2 = su by simp [hm]]
    exact k
theorem q_vI3 {v1 v2 v3 : Value} {m z d' : Nat} {rs : List (Option Nat)} {S' : mS} (hcp : mcap mid cu su = true) (hn : mNa a = 3) (hm : mMc a = (0, 0)) (ho : mnth sh z = some (0, mcN a, rs)) (hc : Nat.ble (mcats st) 8 = true) (hd : d' + 1 ≤ d) (hE : mEv d' a [.ref z, v1, v2, v3] (sh, L, σ) (some (.int x)) S') (k : mwp d mid res J is (pc + 3) pl (.int x :: st) S' cu su) : mwp d mid res J ((.invokevirtual m, len, a, b, w, ps) :: is) pc pl (v3 :: v2 :: v1 :: .ref z :: st) (sh, L, σ) cu su := by
  show mcut (mNa a + 1) _ [] _
  rw [hn]
  refine mob_i (S := (sh, L, σ)) (a := z) (ci := mcN a) ho ⟨⟨hc, by rw [hm]; exact hcp⟩, d', _, S', hd, hE, ?_⟩
  rw [show cu + (mMc a).1 = cu by simp [hm], show su + (mMc a).2 = su by simp [hm]]
  exact k
theorem q_sI3 {v1 v2 v3 : Value} {m d' : Nat} {S' : mS} (hcp : mcap mid cu su = true) (ha : Nat.blt a 229 = true) (hn : mNa a = 3) (hm : mMc a = (0, 0)) (hc : Nat.ble (mcats st) 8 = true) (hd : d' + 1 ≤ d) (hE : mEv d' a [v1, v2, v3] (sh, L, σ) (some (.int x)) S') (k : mwp d mid res J is (pc + 3) pl (.int x :: st) S' cu su) : mwp d mid res J ((.invokestatic m, len, a, b, w, ps) :: is) pc pl (v3 :: v2 :: v1 :: st) (sh, L, σ) cu su := by
  have ha : a < 229 := by simpa [Nat.blt_eq] using ha
  show mistat d mid a pc pl _ (sh, L, σ) cu su _
  unfold mistat
  split
  · omega
  · omega
  · omega
  · rw [hn]
    refine ⟨⟨hc, by rw [hm]; exact hcp⟩, d', _, S', hd, hE, ?_⟩
    rw [show cu + (mMc a).1 = cu by simp [hm], show su + (mMc a).2 = su by simp [hm]]
    exact k
theorem q_vV3 {v1 v2 v3 : Value} {m z d' : Nat} {rs : List (Option Nat)} {S' : mS} (hcp : mcap mid cu su = true) (hn : mNa a = 3) (hm : mMc a = (0, 0)) (ho : mnth sh z = some (0, mcN a, rs)) (hc : Nat.ble (mcats st) 8 = true) (hd : d' + 1 ≤ d) (hE : mEv d' a [.ref z, v1, v2, v3] (sh, L, σ) none S') (k : mwp d mid res J is (pc + 3) pl (st) S' cu su) : mwp d mid res J ((.invokevirtual m, len, a, b, w, ps) :: is) pc pl (v3 :: v2 :: v1 :: .ref z :: st) (sh, L, σ) cu su := by
  show mcut (mNa a + 1) _ [] _
  rw [hn]
  refine mob_i (S := (sh, L, σ)) (a := z) (ci := mcN a) ho ⟨⟨hc, by rw [hm]; exact hcp⟩, d', _, S', hd, hE, ?_⟩
  rw [show cu + (mMc a).1 = cu by simp [hm], show su + (mMc a).2 = su by simp [hm]]
  exact k
theorem q_sV3 {v1 v2 v3 : Value} {m d' : Nat} {S' : mS} (hcp : mcap mid cu su = true) (ha : Nat.blt a 229 = true) (hn : mNa a = 3) (hm : mMc a = (0, 0)) (hc : Nat.ble (mcats st) 8 = true) (hd : d' + 1 ≤ d) (hE : mEv d' a [v1, v2, v3] (sh, L, σ) none S') (k : mwp d mid res J is (pc + 3) pl (st) S' cu su) : mwp d mid res J ((.invokestatic m, len, a, b, w, ps) :: is) pc pl (v3 :: v2 :: v1 :: st) (sh, L, σ) cu su := by
  have ha : a < 229 := by simpa [Nat.blt_eq] using ha
  show mistat d mid a pc pl _ (sh, L, σ) cu su _
  unfold mistat
  split
  · omega
  · omega
  · omega
  · rw [hn]
    refine ⟨⟨hc, by rw [hm]; exact hcp⟩, d', _, S', hd, hE, ?_⟩
    rw [show cu + (mMc a).1 = cu by simp [hm], show su + (mMc a).2 = su by simp [hm]]
    exact k
theorem q_vN3 {v1 v2 v3 : Value} {m z d' : Nat} {rs : List (Option Nat)} {S' : mS} (hcp : mcap mid cu su = true) (hn : mNa a = 3) (hm : mMc a = (0, 0)) (ho : mnth sh z = some (0, mcN a, rs)) (hc : Nat.ble (mcats st) 8 = true) (hd : d' + 1 ≤ d) (hE : mEv d' a [.ref z, v1, v2, v3] (sh, L, σ) (some .null) S') (k : mwp d mid res J is (pc + 3) pl (.null :: st) S' cu su) : mwp d mid res J ((.invokevirtual m, len, a, b, w, ps) :: is) pc pl (v3 :: v2 :: v1 :: .ref z :: st) (sh, L, σ) cu su := by
  show mcut (mNa a + 1) _ [] _
  rw [hn]
  refine mob_i (S := (sh, L, σ)) (a := z) (ci := mcN a) ho ⟨⟨hc, by rw [hm]; exact hcp⟩, d', _, S', hd, hE, ?_⟩
  rw [show cu + (mMc a).1 = cu by simp [hm], show su + (mMc a).2 = su by simp [hm]]
  exact k
theorem q_sN3 {v1 v2 v3 : Value} {m d' : Nat} {S' : mS} (hcp : mcap mid cu su = true) (ha : Nat.blt a 229 = true) (hn : mNa a = 3) (hm : mMc a = (0, 0)) (hc : Nat.ble (mcats st) 8 = true) (hd : d' + 1 ≤ d) (hE : mEv d' a [v1, v2, v3] (sh, L, σ) (some .null) S') (k : mwp d mid res J is (pc + 3) pl (.null :: st) S' cu su) : mwp d mid res J ((.invokestatic m, len, a, b, w, ps) :: is) pc pl (v3 :: v2 :: v1 :: st) (sh, L, σ) cu su := by
  have ha : a < 229 := by simpa [Nat.blt_eq] using ha
  show mistat d mid a pc pl _ (sh, L, σ) cu su _
  unfold mistat
  split
  · omega
  · omega
  · omega
  · rw [hn]
    refine ⟨⟨hc, by rw [hm]; exact hcp⟩, d', _, S', hd, hE, ?_⟩
    rw [show cu + (mMc a).1 = cu by simp [hm], show su + (mMc a).2 = su by simp [hm]]
    exact k
theorem q_vR3 {v1 v2 v3 : Value} {u : Nat} {m z d' : Nat} {rs : List (Option Nat)} {S' : mS} (hcp : mcap mid cu su = true) (hn : mNa a = 3) (hm : mMc a = (0, 0)) (ho : mnth sh z = some (0, mcN a, rs)) (hc : Nat.ble (mcats st) 8 = true) (hd : d' + 1 ≤ d) (hE : mEv d' a [.ref z, v1, v2, v3] (sh, L, σ) (some (.ref u)) S') (k : mwp d mid res J is (pc + 3) pl (.ref u :: st) S' cu su) : mwp d mid res J ((.invokevirtual m, len, a, b, w, ps) :: is) pc pl (v3 :: v2 :: v1 :: .ref z :: st) (sh, L, σ) cu su := by
  show mcut (mNa a + 1) _ [] _
  rw [hn]
  refine mob_i (S := (sh, L, σ)) (a := z) (ci := mcN a) ho ⟨⟨hc, by rw [hm]; exact hcp⟩, d', _, S', hd, hE, ?_⟩
  rw [show cu + (mMc a).1 = cu by simp [hm], show su + (mMc a).2 = su by simp [hm]]
  exact k
theorem q_sR3 {v1 v2 v3 : Value} {u : Nat} {m d' : Nat} {S' : mS} (hcp : mcap mid cu su = true) (ha : Nat.blt a 229 = true) (hn : mNa a = 3) (hm : mMc a = (0, 0)) (hc : Nat.ble (mcats st) 8 = true) (hd : d' + 1 ≤ d) (hE : mEv d' a [v1, v2, v3] (sh, L, σ) (some (.ref u)) S') (k : mwp d mid res J is (pc + 3) pl (.ref u :: st) S' cu su) : mwp d mid res J ((.invokestatic m, len, a, b, w, ps) :: is) pc pl (v3 :: v2 :: v1 :: st) (sh, L, σ) cu su := by
  have ha : a < 229 := by simpa [Nat.blt_eq] using ha
  show mistat d mid a pc pl _ (sh, L, σ) cu su _
  unfold mistat
  split
  · omega
  · omega
  · omega
  · rw [hn]
    refine ⟨⟨hc, by rw [hm]; exact hcp⟩, d', _, S', hd, hE, ?_⟩
    rw [show cu + (mMc a).1 = cu by simp [hm], show su + (mMc a).2 = su by simp [hm]]
    exact k
theorem q_vI4 {v1 v2 v3 v4 : Value} {m z d' : Nat} {rs : List (Option Nat)} {S' : mS} (hcp : mcap mid cu su = true) (hn : mNa a = 4) (hm : mMc a = (0, 0)) (ho : mnth sh z = some (0, mcN a, rs)) (hc : Nat.ble (mcats st) 8 = true) (hd : d' + 1 ≤ d) (hE : mEv d' a [.ref z, v1, v2, v3, v4] (sh, L, σ) (some (.int x)) S') (k : mwp d mid res J is (pc + 3) pl (.int x :: st) S' cu su) : mwp d mid res J ((.invokevirtual m, len, a, b, w, ps) :: is) pc pl (v4 :: v3 :: v2 :: v1 :: .ref z :: st) (sh, L, σ) cu su := by
  show mcut (mNa a + 1) _ [] _
  rw [hn]
  refine mob_i (S := (sh, L, σ)) (a := z) (ci := mcN a) ho ⟨⟨hc, by rw [hm]; exact hcp⟩, d', _, S', hd, hE, ?_⟩
  rw [show cu + (mMc a).1 = cu by simp [hm], show su + (mMc a).2 = su by simp [hm]]
  exact k
theorem q_sI4 {v1 v2 v3 v4 : Value} {m d' : Nat} {S' : mS} (hcp : mcap mid cu su = true) (ha : Nat.blt a 229 = true) (hn : mNa a = 4) (hm : mMc a = (0, 0)) (hc : Nat.ble (mcats st) 8 = true) (hd : d' + 1 ≤ d) (hE : mEv d' a [v1, v2, v3, v4] (sh, L, σ) (some (.int x)) S') (k : mwp d mid res J is (pc + 3) pl (.int x :: st) S' cu su) : mwp d mid res J ((.invokestatic m, len, a, b, w, ps) :: is) pc pl (v4 :: v3 :: v2 :: v1 :: st) (sh, L, σ) cu su := by
  have ha : a < 229 := by simpa [Nat.blt_eq] using ha
  show mistat d mid a pc pl _ (sh, L, σ) cu su _
  unfold mistat
  split
  · omega
  · omega
  · omega
  · rw [hn]
    refine ⟨⟨hc, by rw [hm]; exact hcp⟩, d', _, S', hd, hE, ?_⟩
    rw [show cu + (mMc a).1 = cu by simp [hm], show su + (mMc a).2 = su by simp [hm]]
    exact k
theorem q_vV4 {v1 v2 v3 v4 : Value} {m z d' : Nat} {rs : List (Option Nat)} {S' : mS} (hcp : mcap mid cu su = true) (hn : mNa a = 4) (hm : mMc a = (0, 0)) (ho : mnth sh z = some (0, mcN a, rs)) (hc : Nat.ble (mcats st) 8 = true) (hd : d' + 1 ≤ d) (hE : mEv d' a [.ref z, v1, v2, v3, v4] (sh, L, σ) none S') (k : mwp d mid res J is (pc + 3) pl (st) S' cu su) : mwp d mid res J ((.invokevirtual m, len, a, b, w, ps) :: is) pc pl (v4 :: v3 :: v2 :: v1 :: .ref z :: st) (sh, L, σ) cu su := by
  show mcut (mNa a + 1) _ [] _
  rw [hn]
  refine mob_i (S := (sh, L, σ)) (a := z) (ci := mcN a) ho ⟨⟨hc, by rw [hm]; exact hcp⟩, d', _, S', hd, hE, ?_⟩
  rw [show cu + (mMc a).1 = cu by simp [hm], show su + (mMc a).2 = su by simp [hm]]
  exact k
theorem q_sV4 {v1 v2 v3 v4 : Value} {m d' : Nat} {S' : mS} (hcp : mcap mid cu su = true) (ha : Nat.blt a 229 = true) (hn : mNa a = 4) (hm : mMc a = (0, 0)) (hc : Nat.ble (mcats st) 8 = true) (hd : d' + 1 ≤ d) (hE : mEv d' a [v1, v2, v3, v4] (sh, L, σ) none S') (k : mwp d mid res J is (pc + 3) pl (st) S' cu su) : mwp d mid res J ((.invokestatic m, len, a, b, w, ps) :: is) pc pl (v4 :: v3 :: v2 :: v1 :: st) (sh, L, σ) cu su := by
  have ha : a < 229 := by simpa [Nat.blt_eq] using ha
  show mistat d mid a pc pl _ (sh, L, σ) cu su _
  unfold mistat
  split
  · omega
  · omega
  · omega
  · rw [hn]
    refine ⟨⟨hc, by rw [hm]; exact hcp⟩, d', _, S', hd, hE, ?_⟩
    rw [show cu + (mMc a).1 = cu by simp [hm], show su + (mMc a).2 = su by simp [hm]]
    exact k
theorem q_vN4 {v1 v2 v3 v4 : Value} {m z d' : Nat} {rs : List (Option Nat)} {S' : mS} (hcp : mcap mid cu su = true) (hn : mNa a = 4) (hm : mMc a = (0, 0)) (ho : mnth sh z = some (0, mcN a, rs)) (hc : Nat.ble (mcats st) 8 = true) (hd : d' + 1 ≤ d) (hE : mEv d' a [.ref z, v1, v2, v3, v4] (sh, L, σ) (some .null) S') (k : mwp d mid res J is (pc + 3) pl (.null :: st) S' cu su) : mwp d mid res J ((.invokevirtual m, len, a, b, w, ps) :: is) pc pl (v4 :: v3 :: v2 :: v1 :: .ref z :: st) (sh, L, σ) cu su := by
  show mcut (mNa a + 1) _ [] _
  rw [hn]
  refine mob_i (S := (sh, L, σ)) (a := z) (ci := mcN a) ho ⟨⟨hc, by rw [hm]; exact hcp⟩, d', _, S', hd, hE, ?_⟩
  rw [show cu + (mMc a).1 = cu by simp [hm], show su + (mMc a).2 = su by simp [hm]]
  exact k
theorem q_sN4 {v1 v2 v3 v4 : Value} {m d' : Nat} {S' : mS} (hcp : mcap mid cu su = true) (ha : Nat.blt a 229 = true) (hn : mNa a = 4) (hm : mMc a = (0, 0)) (hc : Nat.ble (mcats st) 8 = true) (hd : d' + 1 ≤ d) (hE : mEv d' a [v1, v2, v3, v4] (sh, L, σ) (some .null) S') (k : mwp d mid res J is (pc + 3) pl (.null :: st) S' cu su) : mwp d mid res J ((.invokestatic m, len, a, b, w, ps) :: is) pc pl (v4 :: v3 :: v2 :: v1 :: st) (sh, L, σ) cu su := by
  have ha : a < 229 := by simpa [Nat.blt_eq] using ha
  show mistat d mid a pc pl _ (sh, L, σ) cu su _
  unfold mistat
  split
  · omega
  · omega
  · omega
  · rw [hn]
    refine ⟨⟨hc, by rw [hm]; exact hcp⟩, d', _, S', hd, hE, ?_⟩
    rw [show cu + (mMc a).1 = cu by simp [hm], show su + (mMc a).2 = su by simp [hm]]
    exact k
theorem q_vR4 {v1 v2 v3 v4 : Value} {u : Nat} {m z d' : Nat} {rs : List (Option Nat)} {S' : mS} (hcp : mcap mid cu su = true) (hn : mNa a = 4) (hm : mMc a = (0, 0)) (ho : mnth sh z = some (0, mcN a, rs)) (hc : Nat.ble (mcats st) 8 = true) (hd : d' + 1 ≤ d) (hE : mEv d' a [.ref z, v1, v2, v3, v4] (sh, L, σ) (some (.ref u)) S') (k : mwp d mid res J is (pc + 3) pl (.ref u :: st) S' cu su) : mwp d mid res J ((.invokevirtual m, len, a, b, w, ps) :: is) pc pl (v4 :: v3 :: v2 :: v1 :: .ref z :: st) (sh, L, σ) cu su := by
  show mcut (mNa a + 1) _ [] _
  rw [hn]
  refine mob_i (S := (sh, L, σ)) (a := z) (ci := mcN a) ho ⟨⟨hc, by rw [hm]; exact hcp⟩, d', _, S', hd, hE, ?_⟩
  rw [show cu + (mMc a).1 = cu by simp [hm], show su + (mMc a).2 = su by simp [hm]]
  exact k
theorem q_sR4 {v1 v2 v3 v4 : Value} {u : Nat} {m d' : Nat} {S' : mS} (hcp : mcap mid cu su = true) (ha : Nat.blt a 229 = true) (hn : mNa a = 4) (hm : mMc a = (0, 0)) (hc : Nat.ble (mcats st) 8 = true) (hd : d' + 1 ≤ d) (hE : mEv d' a [v1, v2, v3, v4] (sh, L, σ) (some (.ref u)) S') (k : mwp d mid res J is (pc + 3) pl (.ref u :: st) S' cu su) : mwp d mid res J ((.invokestatic m, len, a, b, w, ps) :: is) pc pl (v4 :: v3 :: v2 :: v1 :: st) (sh, L, σ) cu su := by
  have ha : a < 229 := by simpa [Nat.blt_eq] using ha
  show mistat d mid a pc pl _ (sh, L, σ) cu su _
  unfold mistat
  split
  · omega
  · omega
  · omega
  · rw [hn]
    refine ⟨⟨hc, by rw [hm]; exact hcp⟩, d', _, S', hd, hE, ?_⟩
    rw [show cu + (mMc a).1 = cu by simp [hm], show su + (mMc a).2 = su by simp [hm]]
    exact k
theorem q_vI5 {v1 v2 v3 v4 v5 : Value} {m z d' : Nat} {rs : List (Option Nat)} {S' : mS} (hcp : mcap mid cu su = true) (hn : mNa a = 5) (hm : mMc a = (0, 0)) (ho : mnth sh z = some (0, mcN a, rs)) (hc : Nat.ble (mcats st) 8 = true) (hd : d' + 1 ≤ d) (hE : mEv d' a [.ref z, v1, v2, v3, v4, v5] (sh, L, σ) (some (.int x)) S') (k : mwp d mid res J is (pc + 3) pl (.int x :: st) S' cu su) : mwp d mid res J ((.invokevirtual m, len, a, b, w, ps) :: is) pc pl (v5 :: v4 :: v3 :: v2 :: v1 :: .ref z :: st) (sh, L, σ) cu su := by
  show mcut (mNa a + 1) _ [] _
  rw [hn]
  refine mob_i (S := (sh, L, σ)) (a := z) (ci := mcN a) ho ⟨⟨hc, by rw [hm]; exact hcp⟩, d', _, S', hd, hE, ?_⟩
  rw [show cu + (mMc a).1 = cu by simp [hm], show su + (mMc a).2 = su by simp [hm]]
  exact k
theorem q_sI5 {v1 v2 v3 v4 v5 : Value} {m d' : Nat} {S' : mS} (hcp : mcap mid cu su = true) (ha : Nat.blt a 229 = true) (hn : mNa a = 5) (hm : mMc a = (0, 0)) (hc : Nat.ble (mcats st) 8 = true) (hd : d' + 1 ≤ d) (hE : mEv d' a [v1, v2, v3, v4, v5] (sh, L, σ) (some (.int x)) S') (k : mwp d mid res J is (pc + 3) pl (.int x :: st) S' cu su) : mwp d mid res J ((.invokestatic m, len, a, b, w, ps) :: is) pc pl (v5 :: v4 :: v3 :: v2 :: v1 :: st) (sh, L, σ) cu su := by
  have ha : a < 229 := by simpa [Nat.blt_eq] using ha
  show mistat d mid a pc pl _ (sh, L, σ) cu su _
  unfold mistat
  split
  · omega
  · omega
  · omega
  · rw [hn]
    refine ⟨⟨hc, by rw [hm]; exact hcp⟩, d', _, S', hd, hE, ?_⟩
    rw [show cu + (mMc a).1 = cu by simp [hm], show su + (mMc a).2 = su by simp [hm]]
    exact k
theorem q_vV5 {v1 v2 v3 v4 v5 : Value} {m z d' : Nat} {rs : List (Option Nat)} {S' : mS} (hcp : mcap mid cu su = true) (hn : mNa a = 5) (hm : mMc a = (0, 0)) (ho : mnth sh z = some (0, mcN a, rs)) (hc : Nat.ble (mcats st) 8 = true) (hd : d' + 1 ≤ d) (hE : mEv d' a [.ref z, v1, v2, v3, v4, v5] (sh, L, σ) none S') (k : mwp d mid res J is (pc + 3) pl (st) S' cu su) : mwp d mid res J ((.invokevirtual m, len, a, b, w, ps) :: is) pc pl (v5 :: v4 :: v3 :: v2 :: v1 :: .ref z :: st) (sh, L, σ) cu su := by
  show mcut (mNa a + 1) _ [] _
  rw [hn]
  refine mob_i (S := (sh, L, σ)) (a := z) (ci := mcN a) ho ⟨⟨hc, by rw [hm]; exact hcp⟩, d', _, S', hd, hE, ?_⟩
  rw [show cu + (mMc a).1 = cu by simp [hm], show su + (mMc a).2 = su by simp [hm]]
  exact k
theorem q_sV5 {v1 v2 v3 v4 v5 : Value} {m d' : Nat} {S' : mS} (hcp : mcap mid cu su = true) (ha : Nat.blt a 229 = true) (hn : mNa a = 5) (hm : mMc a = (0, 0)) (hc : Nat.ble (mcats st) 8 = true) (hd : d' + 1 ≤ d) (hE : mEv d' a [v1, v2, v3, v4, v5] (sh, L, σ) none S') (k : mwp d mid res J is (pc + 3) pl (st) S' cu su) : mwp d mid res J ((.invokestatic m, len, a, b, w, ps) :: is) pc pl (v5 :: v4 :: v3 :: v2 :: v1 :: st) (sh, L, σ) cu su := by
  have ha : a < 229 := by simpa [Nat.blt_eq] using ha
  show mistat d mid a pc pl _ (sh, L, σ) cu su _
  unfold mistat
  split
  · omega
  · omega
  · omega
  · rw [hn]
    refine ⟨⟨hc, by rw [hm]; exact hcp⟩, d', _, S', hd, hE, ?_⟩
    rw [show cu + (mMc a).1 = cu by simp [hm], show su + (mMc a).2 = su by simp [hm]]
    exact k
theorem q_vN5 {v1 v2 v3 v4 v5 : Value} {m z d' : Nat} {rs : List (Option Nat)} {S' : mS} (hcp : mcap mid cu su = true) (hn : mNa a = 5) (hm : mMc a = (0, 0)) (ho : mnth sh z = some (0, mcN a, rs)) (hc : Nat.ble (mcats st) 8 = true) (hd : d' + 1 ≤ d) (hE : mEv d' a [.ref z, v1, v2, v3, v4, v5] (sh, L, σ) (some .null) S') (k : mwp d mid res J is (pc + 3) pl (.null :: st) S' cu su) : mwp d mid res J ((.invokevirtual m, len, a, b, w, ps) :: is) pc pl (v5 :: v4 :: v3 :: v2 :: v1 :: .ref z :: st) (sh, L, σ) cu su := by
  show mcut (mNa a + 1) _ [] _
  rw [hn]
  refine mob_i (S := (sh, L, σ)) (a := z) (ci := mcN a) ho ⟨⟨hc, by rw [hm]; exact hcp⟩, d', _, S', hd, hE, ?_⟩
  rw [show cu + (mMc a).1 = cu by simp [hm], show su + (mMc a).2 = su by simp [hm]]
  exact k
theorem q_sN5 {v1 v2 v3 v4 v5 : Value} {m d' : Nat} {S' : mS} (hcp : mcap mid cu su = true) (ha : Nat.blt a 229 = true) (hn : mNa a = 5) (hm : mMc a = (0, 0)) (hc : Nat.ble (mcats st) 8 = true) (hd : d' + 1 ≤ d) (hE : mEv d' a [v1, v2, v3, v4, v5] (sh, L, σ) (some .null) S') (k : mwp d mid res J is (pc + 3) pl (.null :: st) S' cu su) : mwp d mid res J ((.invokestatic m, len, a, b, w, ps) :: is) pc pl (v5 :: v4 :: v3 :: v2 :: v1 :: st) (sh, L, σ) cu su := by
  have ha : a < 229 := by simpa [Nat.blt_eq] using ha
  show mistat d mid a pc pl _ (sh, L, σ) cu su _
  unfold mistat
  split
  · omega
  · omega
  · omega
  · rw [hn]
    refine ⟨⟨hc, by rw [hm]; exact hcp⟩, d', _, S', hd, hE, ?_⟩
    rw [show cu + (mMc a).1 = cu by simp [hm], show su + (mMc a).2 = su by simp [hm]]
    exact k
theorem q_vR5 {v1 v2 v3 v4 v5 : Value} {u : Nat} {m z d' : Nat} {rs : List (Option Nat)} {S' : mS} (hcp : mcap mid cu su = true) (hn : mNa a = 5) (hm : mMc a = (0, 0)) (ho : mnth sh z = some (0, mcN a, rs)) (hc : Nat.ble (mcats st) 8 = true) (hd : d' + 1 ≤ d) (hE : mEv d' a [.ref z, v1, v2, v3, v4, v5] (sh, L, σ) (some (.ref u)) S') (k : mwp d mid res J is (pc + 3) pl (.ref u :: st) S' cu su) : mwp d mid res J ((.invokevirtual m, len, a, b, w, ps) :: is) pc pl (v5 :: v4 :: v3 :: v2 :: v1 :: .ref z :: st) (sh, L, σ) cu su := by
  show mcut (mNa a + 1) _ [] _
  rw [hn]
  refine mob_i (S := (sh, L, σ)) (a := z) (ci := mcN a) ho ⟨⟨hc, by rw [hm]; exact hcp⟩, d', _, S', hd, hE, ?_⟩
  rw [show cu + (mMc a).1 = cu by simp [hm], show su + (mMc a).2 = su by simp [hm]]
  exact k
theorem q_sR5 {v1 v2 v3 v4 v5 : Value} {u : Nat} {m d' : Nat} {S' : mS} (hcp : mcap mid cu su = true) (ha : Nat.blt a 229 = true) (hn : mNa a = 5) (hm : mMc a = (0, 0)) (hc : Nat.ble (mcats st) 8 = true) (hd : d' + 1 ≤ d) (hE : mEv d' a [v1, v2, v3, v4, v5] (sh, L, σ) (some (.ref u)) S') (k : mwp d mid res J is (pc + 3) pl (.ref u :: st) S' cu su) : mwp d mid res J ((.invokestatic m, len, a, b, w, ps) :: is) pc pl (v5 :: v4 :: v3 :: v2 :: v1 :: st) (sh, L, σ) cu su := by
  have ha : a < 229 := by simpa [Nat.blt_eq] using ha
  show mistat d mid a pc pl _ (sh, L, σ) cu su _
  unfold mistat
  split
  · omega
  · omega
  · omega
  · rw [hn]
    refine ⟨⟨hc, by rw [hm]; exact hcp⟩, d', _, S', hd, hE, ?_⟩
    rw [show cu + (mMc a).1 = cu by simp [hm], show su + (mMc a).2 = su by simp [hm]]
    exact k
theorem q_vI6 {v1 v2 v3 v4 v5 v6 : Value} {m z d' : Nat} {rs : List (Option Nat)} {S' : mS} (hcp : mcap mid cu su = true) (hn : mNa a = 6) (hm : mMc a = (0, 0)) (ho : mnth sh z = some (0, mcN a, rs)) (hc : Nat.ble (mcats st) 8 = true) (hd : d' + 1 ≤ d) (hE : mEv d' a [.ref z, v1, v2, v3, v4, v5, v6] (sh, L, σ) (some (.int x)) S') (k : mwp d mid res J is (pc + 3) pl (.int x :: st) S' cu su) : mwp d mid res J ((.invokevirtual m, len, a, b, w, ps) :: is) pc pl (v6 :: v5 :: v4 :: v3 :: v2 :: v1 :: .ref z :: st) (sh, L, σ) cu su := by
  show mcut (mNa a + 1) _ [] _
  rw [hn]
  refine mob_i (S := (sh, L, σ)) (a := z) (ci := mcN a) ho ⟨⟨hc, by rw [hm]; exact hcp⟩, d', _, S', hd, hE, ?_⟩
  rw [show cu + (mMc a).1 = cu by simp [hm], show su + (mMc a).2 = su by simp [hm]]
  exact k
theorem q_sI6 {v1 v2 v3 v4 v5 v6 : Value} {m d' : Nat} {S' : mS} (hcp : mcap mid cu su = true) (ha : Nat.blt a 229 = true) (hn : mNa a = 6) (hm : mMc a = (0, 0)) (hc : Nat.ble (mcats st) 8 = true) (hd : d' + 1 ≤ d) (hE : mEv d' a [v1, v2, v3, v4, v5, v6] (sh, L, σ) (some (.int x)) S') (k : mwp d mid res J is (pc + 3) pl (.int x :: st) S' cu su) : mwp d mid res J ((.invokestatic m, len, a, b, w, ps) :: is) pc pl (v6 :: v5 :: v4 :: v3 :: v2 :: v1 :: st) (sh, L, σ) cu su := by
  have ha : a < 229 := by simpa [Nat.blt_eq] using ha
  show mistat d mid a pc pl _ (sh, L, σ) cu su _
  unfold mistat
  split
  · omega
  · omega
  · omega
  · rw [hn]
    refine ⟨⟨hc, by rw [hm]; exact hcp⟩, d', _, S', hd, hE, ?_⟩
    rw [show cu + (mMc a).1 = cu by simp [hm], show su + (mMc a).2 = su by simp [hm]]
    exact k
theorem q_vV6 {v1 v2 v3 v4 v5 v6 : Value} {m z d' : Nat} {rs : List (Option Nat)} {S' : mS} (hcp : mcap mid cu su = true) (hn : mNa a = 6) (hm : mMc a = (0, 0)) (ho : mnth sh z = some (0, mcN a, rs)) (hc : Nat.ble (mcats st) 8 = true) (hd : d' + 1 ≤ d) (hE : mEv d' a [.ref z, v1, v2, v3, v4, v5, v6] (sh, L, σ) none S') (k : mwp d mid res J is (pc + 3) pl (st) S' cu su) : mwp d mid res J ((.invokevirtual m, len, a, b, w, ps) :: is) pc pl (v6 :: v5 :: v4 :: v3 :: v2 :: v1 :: .ref z :: st) (sh, L, σ) cu su := by
  show mcut (mNa a + 1) _ [] _
  rw [hn]
  refine mob_i (S := (sh, L, σ)) (a := z) (ci := mcN a) ho ⟨⟨hc, by rw [hm]; exact hcp⟩, d', _, S', hd, hE, ?_⟩
  rw [show cu + (mMc a).1 = cu by simp [hm], show su + (mMc a).2 = su by simp [hm]]
  exact k
theorem q_sV6 {v1 v2 v3 v4 v5 v6 : Value} {m d' : Nat} {S' : mS} (hcp : mcap mid cu su = true) (ha : Nat.blt a 229 = true) (hn : mNa a = 6) (hm : mMc a = (0, 0)) (hc : Nat.ble (mcats st) 8 = true) (hd : d' + 1 ≤ d) (hE : mEv d' a [v1, v2, v3, v4, v5, v6] (sh, L, σ) none S') (k : mwp d mid res J is (pc + 3) pl (st) S' cu su) : mwp d mid res J ((.invokestatic m, len, a, b, w, ps) :: is) pc pl (v6 :: v5 :: v4 :: v3 :: v2 :: v1 :: st) (sh, L, σ) cu su := by
  have ha : a < 229 := by simpa [Nat.blt_eq] using ha
  show mistat d mid a pc pl _ (sh, L, σ) cu su _
  unfold mistat
  split
  · omega
  · omega
  · omega
  · rw [hn]
    refine ⟨⟨hc, by rw [hm]; exact hcp⟩, d', _, S', hd, hE, ?_⟩
    rw [show cu + (mMc a).1 = cu by simp [hm], show su + (mMc a).2 = su by simp [hm]]
    exact k
theorem q_vN6 {v1 v2 v3 v4 v5 v6 : Value} {m z d' : Nat} {rs : List (Option Nat)} {S' : mS} (hcp : mcap mid cu su = true) (hn : mNa a = 6) (hm : mMc a = (0, 0)) (ho : mnth sh z = some (0, mcN a, rs)) (hc : Nat.ble (mcats st) 8 = true) (hd : d' + 1 ≤ d) (hE : mEv d' a [.ref z, v1, v2, v3, v4, v5, v6] (sh, L, σ) (some .null) S') (k : mwp d mid res J is (pc + 3) pl (.null :: st) S' cu su) : mwp d mid res J ((.invokevirtual m, len, a, b, w, ps) :: is) pc pl (v6 :: v5 :: v4 :: v3 :: v2 :: v1 :: .ref z :: st) (sh, L, σ) cu su := by
  show mcut (mNa a + 1) _ [] _
  rw [hn]
  refine mob_i (S := (sh, L, σ)) (a := z) (ci := mcN a) ho ⟨⟨hc, by rw [hm]; exact hcp⟩, d', _, S', hd, hE, ?_⟩
  rw [show cu + (mMc a).1 = cu by simp [hm], show su + (mMc a).2 = su by simp [hm]]
  exact k
theorem q_sN6 {v1 v2 v3 v4 v5 v6 : Value} {m d' : Nat} {S' : mS} (hcp : mcap mid cu su = true) (ha : Nat.blt a 229 = true) (hn : mNa a = 6) (hm : mMc a = (0, 0)) (hc : Nat.ble (mcats st) 8 = true) (hd : d' + 1 ≤ d) (hE : mEv d' a [v1, v2, v3, v4, v5, v6] (sh, L, σ) (some .null) S') (k : mwp d mid res J is (pc + 3) pl (.null :: st) S' cu su) : mwp d mid res J ((.invokestatic m, len, a, b, w, ps) :: is) pc pl (v6 :: v5 :: v4 :: v3 :: v2 :: v1 :: st) (sh, L, σ) cu su := by
  have ha : a < 229 := by simpa [Nat.blt_eq] using ha
  show mistat d mid a pc pl _ (sh, L, σ) cu su _
  unfold mistat
  split
  · omega
  · omega
  · omega
  · rw [hn]
    refine ⟨⟨hc, by rw [hm]; exact hcp⟩, d', _, S', hd, hE, ?_⟩
    rw [show cu + (mMc a).1 = cu by simp [hm], show su + (mMc a).2 = su by simp [hm]]
    exact k
theorem q_vR6 {v1 v2 v3 v4 v5 v6 : Value} {u : Nat} {m z d' : Nat} {rs : List (Option Nat)} {S' : mS} (hcp : mcap mid cu su = true) (hn : mNa a = 6) (hm : mMc a = (0, 0)) (ho : mnth sh z = some (0, mcN a, rs)) (hc : Nat.ble (mcats st) 8 = true) (hd : d' + 1 ≤ d) (hE : mEv d' a [.ref z, v1, v2, v3, v4, v5, v6] (sh, L, σ) (some (.ref u)) S') (k : mwp d mid res J is (pc + 3) pl (.ref u :: st) S' cu su) : mwp d mid res J ((.invokevirtual m, len, a, b, w, ps) :: is) pc pl (v6 :: v5 :: v4 :: v3 :: v2 :: v1 :: .ref z :: st) (sh, L, σ) cu su := by
  show mcut (mNa a + 1) _ [] _
  rw [hn]
  refine mob_i (S := (sh, L, σ)) (a := z) (ci := mcN a) ho ⟨⟨hc, by rw [hm]; exact hcp⟩, d', _, S', hd, hE, ?_⟩
  rw [show cu + (mMc a).1 = cu by simp [hm], show su + (mMc a).2 = su by simp [hm]]
  exact k
theorem q_sR6 {v1 v2 v3 v4 v5 v6 : Value} {u : Nat} {m d' : Nat} {S' : mS} (hcp : mcap mid cu su = true) (ha : Nat.blt a 229 = true) (hn : mNa a = 6) (hm : mMc a = (0, 0)) (hc : Nat.ble (mcats st) 8 = true) (hd : d' + 1 ≤ d) (hE : mEv d' a [v1, v2, v3, v4, v5, v6] (sh, L, σ) (some (.ref u)) S') (k : mwp d mid res J is (pc + 3) pl (.ref u :: st) S' cu su) : mwp d mid res J ((.invokestatic m, len, a, b, w, ps) :: is) pc pl (v6 :: v5 :: v4 :: v3 :: v2 :: v1 :: st) (sh, L, σ) cu su := by
  have ha : a < 229 := by simpa [Nat.blt_eq] using ha
  show mistat d mid a pc pl _ (sh, L, σ) cu su _
  unfold mistat
  split
  · omega
  · omega
  · omega
  · rw [hn]
    refine ⟨⟨hc, by rw [hm]; exact hcp⟩, d', _, S', hd, hE, ?_⟩
    rw [show cu + (mMc a).1 = cu by simp [hm], show su + (mMc a).2 = su by simp [hm]]
    exact k
theorem q_new {n : Nat} (hcp : mcap mid (cu + 1) (su + mNf a) = true) (hl : Nat.ble (sh.length + 1) 1000 = true) {z k0 : Nat} (hz : sh.length = z) (h0 : σ z = fun _ => 0) (hk : mNf a = k0) (k : mwp d mid res J is (pc + 3) pl (.ref z :: st) (sh ++ [(0, a, List.replicate k0 none)], L, σ) (cu + 1) (su + k0)) : mwp d mid res J ((.new n, len, a, b, w, ps) :: is) pc pl st (sh, L, σ) cu su := by
  subst hz
  subst hk
  refine ⟨⟨hcp, hl⟩, ?_⟩
  have e : mrow σ sh.length (fun _ => 0) = σ := by
    funext q
    unfold mrow
    split
    · rename_i e; rw [e, h0]
    · rfl
  show mwp d mid res J is (pc + 3) pl (.ref sh.length :: st) (sh ++ [(0, a, List.replicate (mNf a) none)], L, mrow σ sh.length (fun _ => 0)) (cu + 1) (su + mNf a)
  rw [e]
  exact k
theorem q_newa {N z : Nat} (hn : ¬ x < 0) (hN : x.toNatClampNeg = N) (hb : Nat.ble N 1000000 = true) (hcp : mcap mid (cu + 1) (su + N) = true) (hl : Nat.ble (sh.length + 1) 1000 = true) (hz : sh.length = z) (h0 : σ z = fun _ => 0) (k : mwp d mid res J is (pc + 2) pl (.ref z :: st) (sh ++ [(1, N, [])], L, σ) (cu + 1) (su + N)) : mwp d mid res J ((.newarray .int, len, a, b, w, ps) :: is) pc pl (.int x :: st) (sh, L, σ) cu su := by
  subst hz
  subst hN
  refine ⟨⟨hn, hb, hcp, hl⟩, ?_⟩
  have e : mrow σ sh.length (fun _ => 0) = σ := by
    funext q
    unfold mrow
    split
    · rename_i e; rw [e, h0]
    · rfl
  show mwp d mid res J is (pc + 2) pl (.ref sh.length :: st) (sh ++ [(1, x.toNatClampNeg, [])], L, mrow σ sh.length (fun _ => 0)) (cu + 1) (su + x.toNatClampNeg)
  rw [e]
  exact k
theorem q_newz {N z : Nat} (hn : ¬ x < 0) (hN : x.toNatClampNeg = N) (hb : Nat.ble N 1000000 = true) (hcp : mcap mid (cu + 1) (su + N) = true) (hl : Nat.ble (sh.length + 1) 1000 = true) (hz : sh.length = z) (h0 : σ z = fun _ => 0) (k : mwp d mid res J is (pc + 2) pl (.ref z :: st) (sh ++ [(2, N, [])], L, σ) (cu + 1) (su + N)) : mwp d mid res J ((.newarray .boolean, len, a, b, w, ps) :: is) pc pl (.int x :: st) (sh, L, σ) cu su := by
  subst hz
  subst hN
  refine ⟨⟨hn, hb, hcp, hl⟩, ?_⟩
  have e : mrow σ sh.length (fun _ => 0) = σ := by
    funext q
    unfold mrow
    split
    · rename_i e; rw [e, h0]
    · rfl
  show mwp d mid res J is (pc + 2) pl (.ref sh.length :: st) (sh ++ [(2, x.toNatClampNeg, [])], L, mrow σ sh.length (fun _ => 0)) (cu + 1) (su + x.toNatClampNeg)
  rw [e]
  exact k
theorem q_anew {n N z : Nat} (hn : ¬ x < 0) (hN : x.toNatClampNeg = N) (hb : Nat.ble N 1000000 = true) (hcp : mcap mid (cu + 1) (su + N) = true) (hl : Nat.ble (sh.length + 1) 1000 = true) (hz : sh.length = z) (h0 : σ z = fun _ => 0) (k : mwp d mid res J is (pc + 3) pl (.ref z :: st) (sh ++ [(3, N, List.replicate N none)], L, σ) (cu + 1) (su + N)) : mwp d mid res J ((.anewarray n, len, a, b, w, ps) :: is) pc pl (.int x :: st) (sh, L, σ) cu su := by
  subst hz
  subst hN
  refine ⟨⟨hn, hb, hcp, hl⟩, ?_⟩
  have e : mrow σ sh.length (fun _ => 0) = σ := by
    funext q
    unfold mrow
    split
    · rename_i e; rw [e, h0]
    · rfl
  show mwp d mid res J is (pc + 3) pl (.ref sh.length :: st) (sh ++ [(3, x.toNatClampNeg, List.replicate x.toNatClampNeg none)], L, mrow σ sh.length (fun _ => 0)) (cu + 1) (su + x.toNatClampNeg)
  rw [e]
  exact k
theorem q_putR {n z v : Nat} {rs : List (Option Nat)} (h : mnth sh z = some (0, a, rs)) (h2 : mkd a b = 2) (h3 : Nat.beq rs.length (mNf a) = true) (k : mwp d mid res J is (pc + 3) pl st (sh.set z (0, a, rs.set b (some v)), L, σ) cu su) : mwp d mid res J ((.putfield n, len, a, b, w, ps) :: is) pc pl (.ref v :: .ref z :: st) (sh, L, σ) cu su := by
  show mputf a b pc pl _ (sh, L, σ) cu su _
  unfold mputf
  rw [h2]
  refine mob_i (S := (sh, L, σ)) (a := z) (ci := a) h ?_
  show (match Nat.beq rs.length (mNf a) with
    | true => mwp d mid res J is (pc + 3) pl st (sh.set z (0, a, rs.set b (some v)), L, σ) cu su
    | false => False)
  rw [h3]
  exact k
theorem q_aast {n z v j : Nat} {rs rs2 : List (Option Nat)} (h : mnth sh z = some (3, n, rs)) (hv : mnth sh v = some (0, 5, rs2)) (hj : x.toNatClampNeg = j) (h2 : ¬ (x < 0 ∨ n ≤ x.toNatClampNeg)) (h3 : Nat.beq rs.length n = true) (k : mwp d mid res J is (pc + 1) pl st (sh.set z (3, n, rs.set j (some v)), L, σ) cu su) : mwp d mid res J ((.aastore, len, a, b, w, ps) :: is) pc pl (.ref v :: .int x :: .ref z :: st) (sh, L, σ) cu su := by
  subst hj
  show maq (sh, L, σ) z fun n rs => mob (sh, L, σ) v 5 fun _ => vp_in x n ∧ (match Nat.beq rs.length n with
      | true => mwp d mid res J is (pc + 1) pl st (sh.set z (3, n, rs.set x.toNatClampNeg (some v)), L, σ) cu su
      | false => False)
  unfold maq
  rw [h]
  refine mob_i (S := (sh, L, σ)) (a := v) (ci := 5) hv ⟨h2, ?_⟩
  rw [h3]
  exact k
theorem q_oinit {n z : Nat} (hc : Nat.ble (mcats st) 8 = true) (hd : 1 ≤ d) (k : mwp d mid res J is (pc + 3) pl st (sh, L, σ) cu su) : mwp d mid res J ((.invokespecial n, len, 999, b, w, ps) :: is) pc pl (.ref z :: st) (sh, L, σ) cu su := ⟨⟨hc, hd⟩, k⟩
theorem q_init0 {n z d' cu' su' : Nat} {S' : mS} (ha : Nat.blt a 229 = true) (hn : mNa a = 0) (hu : cu + (mMc a).1 = cu') (hs : su + (mMc a).2 = su') (hcp : mcap mid cu' su' = true) (hc : Nat.ble (mcats st) 8 = true) (hd : d' + 1 ≤ d) (hE : mEv d' a [.ref z] (sh, L, σ) none S') (k : mwp d mid res J is (pc + 3) pl st S' cu' su') : mwp d mid res J ((.invokespecial n, len, a, b, w, ps) :: is) pc pl (.ref z :: st) (sh, L, σ) cu su := by
  subst hu
  subst hs
  have ha : a < 229 := by simpa [Nat.blt_eq] using ha
  show mispec d mid a pc pl _ (sh, L, σ) cu su _
  unfold mispec
  split
  · omega
  · rw [hn]
    exact ⟨⟨hc, hcp⟩, d', S', hd, hE, k⟩
theorem q_init1 {n z d' cu' su' : Nat} {v1 : Value} {S' : mS} (ha : Nat.blt a 229 = true) (hn : mNa a = 1) (hu : cu + (mMc a).1 = cu') (hs : su + (mMc a).2 = su') (hcp : mcap mid cu' su' = true) (hc : Nat.ble (mcats st) 8 = true) (hd : d' + 1 ≤ d) (hE : mEv d' a [.ref z, v1] (sh, L, σ) none S') (k : mwp d mid res J is (pc + 3) pl st S' cu' su') : mwp d mid res J ((.invokespecial n, len, a, b, w, ps) :: is) pc pl (v1 :: .ref z :: st) (sh, L, σ) cu su := by
  subst hu
  subst hs
  have ha : a < 229 := by simpa [Nat.blt_eq] using ha
  show mispec d mid a pc pl _ (sh, L, σ) cu su _
  unfold mispec
  split
  · omega
  · rw [hn]
    exact ⟨⟨hc, hcp⟩, d', S', hd, hE, k⟩
theorem q_init2 {n z d' cu' su' : Nat} {v1 v2 : Value} {S' : mS} (ha : Nat.blt a 229 = true) (hn : mNa a = 2) (hu : cu + (mMc a).1 = cu') (hs : su + (mMc a).2 = su') (hcp : mcap mid cu' su' = true) (hc : Nat.ble (mcats st) 8 = true) (hd : d' + 1 ≤ d) (hE : mEv d' a [.ref z, v1, v2] (sh, L, σ) none S') (k : mwp d mid res J is (pc + 3) pl st S' cu' su') : mwp d mid res J ((.invokespecial n, len, a, b, w, ps) :: is) pc pl (v2 :: v1 :: .ref z :: st) (sh, L, σ) cu su := by
  subst hu
  subst hs
  have ha : a < 229 := by simpa [Nat.blt_eq] using ha
  show mispec d mid a pc pl _ (sh, L, σ) cu su _
  unfold mispec
  split
  · omega
  · rw [hn]
    exact ⟨⟨hc, hcp⟩, d', S', hd, hE, k⟩
end QQ
