def mgA (pl : mLoc) (i : Nat) (k : Value → Prop) : Prop := match mnth pl i with
  | some (some (.ref x)) => k (.ref x)
  | some (some .null) => k .null
  | _ => False
def ms1A (st : List Value) (k : Value → List Value → Prop) : Prop := match st with
  | .ref x :: r => k (.ref x) r
  | .null :: r => k .null r
  | _ => False
def mistat (d mid a : Nat) (pc : Nat) (pl : mLoc) (st : List Value) (S : mS) (cu su : Nat) (K : mK6) : Prop := match a with
  | 998 => msCp st fun a sp b dp n r => (Nat.ble (mcats r) 8 = true ∧ 1 ≤ d) ∧ (match mnth S.1 a, mnth S.1 b with
    | some (1, n0, _), some (1, n1, _) => (¬ sp < 0 ∧ ¬ dp < 0 ∧ ¬ n < 0 ∧ sp.toNatClampNeg + n.toNatClampNeg ≤ n0 ∧ dp.toNatClampNeg + n.toNatClampNeg ≤ n1) ∧ K (pc + 3) pl r (S.1, S.2.1, mrow S.2.2 b (va_cpy (S.2.2 a) (S.2.2 b) sp.toNatClampNeg dp.toNatClampNeg n.toNatClampNeg)) cu su
    | _, _ => False)
  | 997 => ms2 st fun x y r => (Nat.ble (mcats r) 8 = true ∧ mcap mid cu su = true ∧ 1 ≤ d) ∧ K (pc + 3) pl (.int (if y < x then y else x) :: r) S cu su
  | 996 => ms2 st fun x y r => (Nat.ble (mcats r) 8 = true ∧ mcap mid cu su = true ∧ 1 ≤ d) ∧ K (pc + 3) pl (.int (if x < y then y else x) :: r) S cu su
  | k => mcut (mNa k) st [] fun as r => (Nat.ble (mcats r) 8 = true ∧ mcap mid (cu + (mMc k).1) (su + (mMc k).2) = true) ∧ ∃ (d' : Nat) (v : Option Value) (S' : mS), d' + 1 ≤ d ∧ mEv d' k as S v S' ∧ K (pc + 3) pl (v.toList ++ r) S' (cu + (mMc k).1) (su + (mMc k).2)
def mispec (d mid a : Nat) (pc : Nat) (pl : mLoc) (st : List Value) (S : mS) (cu su : Nat) (K : mK6) : Prop := match a with
  | 999 => ms1R st fun _ r => (Nat.ble (mcats r) 8 = true ∧ 1 ≤ d) ∧ K (pc + 3) pl r S cu su
  | k => mcut (mNa k + 1) st [] fun as r => (match as with
    | .ref _ :: _ => (Nat.ble (mcats r) 8 = true ∧ mcap mid (cu + (mMc k).1) (su + (mMc k).2) = true) ∧ ∃ (d' : Nat) (S' : mS), d' + 1 ≤ d ∧ mEv d' k as S none S' ∧ K (pc + 3) pl r S' (cu + (mMc k).1) (su + (mMc k).2)
    | _ => False)
def mputf (ci j : Nat) (pc : Nat) (pl : mLoc) (st : List Value) (S : mS) (cu su : Nat) (K : mK6) : Prop := match mkd ci j with
  | 0 => msRp st fun a x r => mob S a ci fun _ => K (pc + 3) pl r (S.1, S.2.1, mup S.2.2 a j x) cu su
  | 1 => msRp st fun a x r => mob S a ci fun _ => (x = 0 ∨ x = 1) ∧ K (pc + 3) pl r (S.1, S.2.1, mup S.2.2 a j x) cu su
  | _ => msRR st fun a v r => mob S a ci fun rs => (match Nat.beq rs.length (mNf ci) with
    | true => K (pc + 3) pl r (S.1.set a (0, ci, rs.set j (some v)), S.2.1, S.2.2) cu su
    | false => False)
/-- one instruction of the pure machine: J where it jumps, K where it goes on, res what the method ends with -/
def mst (d mid : Nat) (res : Option Value × mS) (J : mK6) (I : mI) (pc : Nat) (pl : mLoc) (st : List Value) (S : mS) (cu su : Nat) (K : mK6) : Prop :=
  match I.1 with
  | .iconst _ => (match I.2.2.2.2.2 with
    | q :: _ => K (pc + 1) pl (.int q.1 :: st) S cu su
    | [] => False)
  | .bipush _ => (match I.2.2.2.2.2 with
    | q :: _ => K (pc + 2) pl (.int q.1 :: st) S cu su
    | [] => False)
  | .sipush _ => (match I.2.2.2.2.2 with
    | q :: _ => K (pc + 3) pl (.int q.1 :: st) S cu su
    | [] => False)
  | .lconst _ => (match I.2.2.2.2.2 with
    | q :: _ => K (pc + 1) pl (.long q.1.toInt64 :: st) S cu su
    | [] => False)
  | .aconst_null => K (pc + 1) pl (.null :: st) S cu su
  | .ldc _ => (match I.2.2.2.2.2 with
    | q :: _ => K (pc + 2) pl (.int q.1 :: st) S cu su
    | [] => False)
  | .ldc_w _ => (match I.2.2.2.2.2 with
    | q :: _ => K (pc + 3) pl (.int q.1 :: st) S cu su
    | [] => False)
  | .ldc2_w _ => (match I.2.2.2.2.2 with
    | q :: _ => K (pc + 3) pl (.long q.1.toInt64 :: st) S cu su
    | [] => K (pc + 3) pl (.long (Int64.ofNat I.2.2.1) :: st) S cu su)
  | .iload_n n => mgI pl n fun x => K (pc + 1) pl (.int x :: st) S cu su
  | .iload n => mgI pl n fun x => K (pc + 2) pl (.int x :: st) S cu su
  | .aload_n n => mgA pl n fun x => K (pc + 1) pl (x :: st) S cu su
  | .aload n => mgA pl n fun x => K (pc + 2) pl (x :: st) S cu su
  | .lload_n n => mgL pl n fun x => K (pc + 1) pl (.long x :: st) S cu su
  | .lload n => mgL pl n fun x => K (pc + 2) pl (.long x :: st) S cu su
  | .istore_n n => ms1 st fun x r => msto pl n (.int x) fun pl => K (pc + 1) pl r S cu su
  | .istore n => ms1 st fun x r => msto pl n (.int x) fun pl => K (pc + 2) pl r S cu su
  | .astore_n n => ms1A st fun x r => msto pl n x fun pl => K (pc + 1) pl r S cu su
  | .astore n => ms1A st fun x r => msto pl n x fun pl => K (pc + 2) pl r S cu su
  | .iinc n _ => (match I.2.2.2.2.2 with
    | q :: _ => mgI pl n fun x => msto pl n (.int (x + q.1)) fun pl => K (pc + 3) pl st S cu su
    | [] => False)
  | .iadd => ms2 st fun x y r => K (pc + 1) pl (.int (x + y) :: r) S cu su
  | .isub => ms2 st fun x y r => K (pc + 1) pl (.int (x - y) :: r) S cu su
  | .imul => ms2 st fun x y r => K (pc + 1) pl (.int (x * y) :: r) S cu su
  | .iand => ms2 st fun x y r => K (pc + 1) pl (.int (x &&& y) :: r) S cu su
  | .ior => ms2 st fun x y r => K (pc + 1) pl (.int (x ||| y) :: r) S cu su
  | .ixor => ms2 st fun x y r => K (pc + 1) pl (.int (x ^^^ y) :: r) S cu su
  | .ishl => ms2 st fun x y r => K (pc + 1) pl (.int (x <<< (y &&& 31)) :: r) S cu su
  | .ishr => ms2 st fun x y r => K (pc + 1) pl (.int (x >>> (y &&& 31)) :: r) S cu su
  | .iushr => ms2 st fun x y r => K (pc + 1) pl (.int ((x.toUInt32 >>> (y.toUInt32 &&& Int32.toUInt32 31)).toInt32) :: r) S cu su
  | .idiv => ms2 st fun x y r => ¬ y = 0 ∧ K (pc + 1) pl (.int (x / y) :: r) S cu su
  | .irem => ms2 st fun x y r => ¬ y = 0 ∧ K (pc + 1) pl (.int (x - x / y * y) :: r) S cu su
  | .ineg => ms1 st fun x r => K (pc + 1) pl (.int (-x) :: r) S cu su
  | .i2b => ms1 st fun x r => K (pc + 1) pl (.int (x.toInt8.toInt32) :: r) S cu su
  | .i2s => ms1 st fun x r => K (pc + 1) pl (.int (x.toInt16.toInt32) :: r) S cu su
  | .i2l => ms1 st fun x r => K (pc + 1) pl (.long x.toInt64 :: r) S cu su
  | .l2i => ms1L st fun x r => K (pc + 1) pl (.int x.toInt32 :: r) S cu su
  | .land => ms2L st fun x y r => K (pc + 1) pl (.long (x &&& y) :: r) S cu su
  | .lor => ms2L st fun x y r => K (pc + 1) pl (.long (x ||| y) :: r) S cu su
  | .lcmp => ms2L st fun x y r => K (pc + 1) pl (.int (lg_cmp x y) :: r) S cu su
  | .lshl => msLI st fun x y r => K (pc + 1) pl (.long (x <<< (y.toInt64 &&& 63)) :: r) S cu su
  | .lshr => msLI st fun x y r => K (pc + 1) pl (.long (x >>> (y.toInt64 &&& 63)) :: r) S cu su
  | .lushr => msLI st fun x y r => K (pc + 1) pl (.long ((x.toUInt64 >>> (y.toInt64.toUInt64 &&& Int64.toUInt64 63)).toInt64) :: r) S cu su
  | .goto _ => J I.2.2.1 pl st S cu su
  | .ifCond c _ => ms1 st fun x r => (mcz c x → J I.2.2.1 pl r S cu su) ∧ (¬ mcz c x → K (pc + 3) pl r S cu su)
  | .if_icmp c _ => ms2 st fun x y r => (mcc c x y → J I.2.2.1 pl r S cu su) ∧ (¬ mcc c x y → K (pc + 3) pl r S cu su)
  | .ifnull _ => (match st with
    | .null :: r => J I.2.2.1 pl r S cu su
    | .ref _ :: r => K (pc + 3) pl r S cu su
    | _ => False)
  | .ifnonnull _ => (match st with
    | .null :: r => K (pc + 3) pl r S cu su
    | .ref _ :: r => J I.2.2.1 pl r S cu su
    | _ => False)
  | .tableswitch _ _ _ _ => ms1 st fun x r => msw (fun t => J t pl r S cu su) x I.2.2.1 I.2.2.2.2.2
  | .lookupswitch _ _ => ms1 st fun x r => msw (fun t => J t pl r S cu su) x I.2.2.1 I.2.2.2.2.2
  | .dup => msV st fun v r => (match v.category with
    | 1 => K (pc + 1) pl (v :: v :: r) S cu su
    | _ => False)
  | .dup2 => msVV st fun v w r => (match v.category, w.category with
    | 1, 1 => K (pc + 1) pl (v :: w :: v :: w :: r) S cu su
    | _, _ => False)
  | .getfield _ => ms1R st fun a r => mob S a I.2.2.1 fun rs => (match mkd I.2.2.1 I.2.2.2.1 with
    | 2 => K (pc + 3) pl (mpv (rs.getD I.2.2.2.1 none) :: r) S cu su
    | _ => K (pc + 3) pl (.int (S.2.2 a I.2.2.2.1) :: r) S cu su)
  | .putfield _ => mputf I.2.2.1 I.2.2.2.1 pc pl st S cu su K
  | .getstatic _ => K (pc + 3) pl (.ref (1000000 + I.2.2.1) :: st) S cu su
  | .new _ => (mcap mid (cu + 1) (su + mNf I.2.2.1) = true ∧ Nat.ble (S.1.length + 1) 1000 = true) ∧ K (pc + 3) pl (.ref S.1.length :: st) (S.1 ++ [(0, I.2.2.1, List.replicate (mNf I.2.2.1) none)], S.2.1, mrow S.2.2 S.1.length (fun _ => 0)) (cu + 1) (su + mNf I.2.2.1)
  | .newarray t => ms1 st fun n r => (¬ n < 0 ∧ Nat.ble n.toNatClampNeg 1000000 = true ∧ mcap mid (cu + 1) (su + n.toNatClampNeg) = true ∧ Nat.ble (S.1.length + 1) 1000 = true) ∧ (match t with
    | .int => K (pc + 2) pl (.ref S.1.length :: r) (S.1 ++ [(1, n.toNatClampNeg, [])], S.2.1, mrow S.2.2 S.1.length (fun _ => 0)) (cu + 1) (su + n.toNatClampNeg)
    | .boolean => K (pc + 2) pl (.ref S.1.length :: r) (S.1 ++ [(2, n.toNatClampNeg, [])], S.2.1, mrow S.2.2 S.1.length (fun _ => 0)) (cu + 1) (su + n.toNatClampNeg)
    | _ => False)
  | .anewarray _ => ms1 st fun n r => (¬ n < 0 ∧ Nat.ble n.toNatClampNeg 1000000 = true ∧ mcap mid (cu + 1) (su + n.toNatClampNeg) = true ∧ Nat.ble (S.1.length + 1) 1000 = true) ∧ K (pc + 3) pl (.ref S.1.length :: r) (S.1 ++ [(3, n.toNatClampNeg, List.replicate n.toNatClampNeg none)], S.2.1, mrow S.2.2 S.1.length (fun _ => 0)) (cu + 1) (su + n.toNatClampNeg)
  | .arraylength => ms1R st fun a r => (match mnth S.1 a with
    | some (3, n, _) => K (pc + 1) pl (.int (Int32.ofNat n) :: r) S cu su
    | _ => mai S a fun n => K (pc + 1) pl (.int (Int32.ofNat n) :: r) S cu su)
  | .iaload => msRI st fun a i r => mai S a fun n => vp_in i n ∧ K (pc + 1) pl (.int (S.2.2 a i.toNatClampNeg) :: r) S cu su
  | .iastore => msRII st fun a i x r => (match mnth S.1 a with
    | some (1, n, _) => vp_in i n ∧ K (pc + 1) pl r (S.1, S.2.1, mup S.2.2 a i.toNatClampNeg x) cu su
    | _ => False)
  | .baload => msRI st fun a i r => maz S a fun n => vp_in i n ∧ K (pc + 1) pl (.int (S.2.2 a i.toNatClampNeg) :: r) S cu su
  | .bastore => msRII st fun a i x r => maz S a fun n => vp_in i n ∧ K (pc + 1) pl r (S.1, S.2.1, mup S.2.2 a i.toNatClampNeg (vp_nar .boolean x)) cu su
  | .aaload => msRI st fun a i r => maq S a fun n rs => vp_in i n ∧ K (pc + 1) pl (mpv (rs.getD i.toNatClampNeg none) :: r) S cu su
  | .aastore => msRIR st fun a i v r => maq S a fun n rs => mob S v 5 fun _ => vp_in i n ∧ (match Nat.beq rs.length n with
      | true => K (pc + 1) pl r (S.1.set a (3, n, rs.set i.toNatClampNeg (some v)), S.2.1, S.2.2) cu su
      | false => False)
  | .invokevirtual _ => mcut (mNa I.2.2.1 + 1) st [] fun as r => (match as with
    | .ref a :: _ => mob S a (mcN I.2.2.1) fun _ => (Nat.ble (mcats r) 8 = true ∧ mcap mid (cu + (mMc I.2.2.1).1) (su + (mMc I.2.2.1).2) = true) ∧ ∃ (d' : Nat) (v : Option Value) (S' : mS), d' + 1 ≤ d ∧ mEv d' I.2.2.1 as S v S' ∧ K (pc + 3) pl (v.toList ++ r) S' (cu + (mMc I.2.2.1).1) (su + (mMc I.2.2.1).2)
    | _ => False)
  | .invokestatic _ => mistat d mid I.2.2.1 pc pl st S cu su K
  | .invokespecial _ => mispec d mid I.2.2.1 pc pl st S cu su K
  | .ireturn => (match st with
    | [.int v] => mcap mid cu su = true ∧ mrk (mRt mid) v ∧ res = (some (.int v), S)
    | _ => False)
  | .return_ => (match st with
    | [] => mcap mid cu su = true ∧ mRt mid = none ∧ res = (none, S)
    | _ => False)
  | .areturn => (match st with
    | [.null] => mcap mid cu su = true ∧ mrq (mRt mid) ∧ res = (some .null, S)
    | [.ref a] => mcap mid cu su = true ∧ mrq (mRt mid) ∧ res = (some (.ref a), S)
    | _ => False)
  | _ => False
/-- a stretch of code -/
def mwp (d mid : Nat) (res : Option Value × mS) (J : mK6) : List mI → mK6
  | [] => J
  | I :: is => fun pc pl st S cu su => mst d mid res J I pc pl st S cu su (mwp d mid res J is)
