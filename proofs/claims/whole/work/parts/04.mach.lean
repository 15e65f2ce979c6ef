/-! THE ABSTRACT MACHINE: cells by numbers (1000 and on: what is there from the start), ints and references apart; a frame's step, a call, a run by fuel. -/
abbrev AI : Type := Nat → Nat → Int32
abbrev AP : Type := Nat → Nat → Option Nat
abbrev AS : Type := Nat → Nat × Nat
abbrev AH : Type := AI × AP × AS × Nat × Nat
abbrev ALS : Type := List (Option Value)
abbrev NX : Type := (Nat × ALS × List Value × AH) ⊕ Option Value
def lget : ALS → Nat → Option Value
  | [], _ => none
  | o :: _, 0 => o
  | _ :: t, i + 1 => lget t i
def lput : ALS → Nat → Value → ALS
  | [], _, _ => []
  | _ :: t, 0, v => some v :: t
  | o :: t, i + 1, v => o :: lput t i v
def am_lay : List Value → ALS
  | [] => []
  | .long x :: t => some (.long x) :: none :: am_lay t
  | v :: t => some v :: am_lay t
def am_pad : Nat → ALS → ALS
  | 0, _ => []
  | m + 1, [] => none :: am_pad m []
  | m + 1, o :: t => o :: am_pad m t
def irm (x y : Int32) : Int32 := x - x / y * y
def am_in (i : Int32) (n : Nat) : Bool := !(decide (i < 0)) && Nat.blt i.toNatClampNeg n
def am_alu (i : Instr) (x y : Int32) : Option Int32 := match i with
  | .iadd => some (x + y)
  | .isub => some (x - y)
  | .imul => some (x * y)
  | .iand => some (x &&& y)
  | .ior => some (x ||| y)
  | .ixor => some (x ^^^ y)
  | .ishl => some (x <<< (y &&& 31))
  | .ishr => some (x >>> (y &&& 31))
  | .iushr => some ((x.toUInt32 >>> (y.toUInt32 &&& Int32.toUInt32 31)).toInt32)
  | .idiv => bif decide (y = 0) then none else some (x / y)
  | .irem => bif decide (y = 0) then none else some (irm x y)
  | _ => none
def am_un (i : Instr) (x : Int32) : Option Int32 := match i with
  | .ineg => some (-x)
  | .i2b => some x.toInt8.toInt32
  | .i2s => some x.toInt16.toInt32
  | .i2c => some (x.toUInt32 % 65536).toInt32
  | _ => none
def am_ts (x : Int32) : Nat → List Nat → Nat → Nat
  | _, [], d => d
  | lo, t :: ts, d => if x = nI lo then t else am_ts x (lo + 1) ts d
def am_ls (x : Int32) : List Nat → Nat → Nat
  | k :: t :: r, d => if x = nI k then t else am_ls x r d
  | _, d => d
def am_cats : List Value → Nat
  | [] => 0
  | .long _ :: t => am_cats t + 2
  | .double _ :: t => am_cats t + 2
  | _ :: t => am_cats t + 1
def am_short : List Value → Bool
  | [] => true
  | .int _ :: t => am_short t
  | .ref _ :: t => am_short t
  | .null :: t => am_short t
  | _ => false
/-- the arguments are ints and references; but for feed's long -/
def am_args (y : Nat) (as : List Value) : Bool := match as with
  | [.ref _, .long _, .int _] => Nat.beq y y_X_feed || Nat.beq y y_M_feed
  | as => am_short as
def am_pop : Nat → List Value → List Value → Option (List Value × List Value)
  | 0, st, acc => some (acc, st)
  | n + 1, v :: st, acc => am_pop n st (v :: acc)
  | _ + 1, [], _ => none
def am_push (v : Option Value) (r : List Value) : List Value := match v with
  | none => r
  | some v => v :: r
def am_ec (kd : Nat) : Nat := match kd with
  | 1 => 10
  | 2 => 15
  | _ => 14
def am_step (e : CE) (rt : Nat) (ls : ALS) (st : List Value) (h : AH) : Option NX := match e, h with
  | (i, nx, v, ops), (I, P, S, n, sl) => match i with
    | .iconst _ => some (.inl (nx, ls, .int v :: st, h))
    | .bipush _ => some (.inl (nx, ls, .int v :: st, h))
    | .sipush _ => some (.inl (nx, ls, .int v :: st, h))
    | .ldc _ => (match ops with
      | 0 :: _ => some (.inl (nx, ls, .int v :: st, h))
      | [1, sid] => some (.inl (nx, ls, .ref (1010 + sid) :: st, h))
      | _ => none)
    | .ldc_w _ => (match ops with
      | [0, _] => some (.inl (nx, ls, .int v :: st, h))
      | _ => none)
    | .ldc2_w _ => (match ops with
      | c :: _ => some (.inl (nx, ls, .long (Int64.ofNat c) :: st, h))
      | _ => none)
    | .aconst_null => some (.inl (nx, ls, .null :: st, h))
    | .iload_n _ => (match ops with
      | [j] => (match lget ls j with
        | some (.int x) => some (.inl (nx, ls, .int x :: st, h))
        | _ => none)
      | _ => none)
    | .iload _ => (match ops with
      | [j] => (match lget ls j with
        | some (.int x) => some (.inl (nx, ls, .int x :: st, h))
        | _ => none)
      | _ => none)
    | .lload_n _ => (match ops with
      | [j] => (match lget ls j with
        | some (.long x) => some (.inl (nx, ls, .long x :: st, h))
        | _ => none)
      | _ => none)
    | .aload_n _ => (match ops with
      | [j] => (match lget ls j with
        | some (.ref x) => some (.inl (nx, ls, .ref x :: st, h))
        | some .null => some (.inl (nx, ls, .null :: st, h))
        | _ => none)
      | _ => none)
    | .aload _ => (match ops with
      | [j] => (match lget ls j with
        | some (.ref x) => some (.inl (nx, ls, .ref x :: st, h))
        | some .null => some (.inl (nx, ls, .null :: st, h))
        | _ => none)
      | _ => none)
    | .istore_n _ => (match ops, st with
      | [j], .int x :: r => some (.inl (nx, lput ls j (.int x), r, h))
      | _, _ => none)
    | .istore _ => (match ops, st with
      | [j], .int x :: r => some (.inl (nx, lput ls j (.int x), r, h))
      | _, _ => none)
    | .astore_n _ => (match ops, st with
      | [j], .ref x :: r => some (.inl (nx, lput ls j (.ref x), r, h))
      | [j], .null :: r => some (.inl (nx, lput ls j .null, r, h))
      | _, _ => none)
    | .astore _ => (match ops, st with
      | [j], .ref x :: r => some (.inl (nx, lput ls j (.ref x), r, h))
      | [j], .null :: r => some (.inl (nx, lput ls j .null, r, h))
      | _, _ => none)
    | .iinc _ _ => (match ops with
      | [j] => (match lget ls j with
        | some (.int x) => some (.inl (nx, lput ls j (.int (x + v)), st, h))
        | _ => none)
      | _ => none)
    | .iadd => (match st with
      | .int y :: .int x :: r => some (.inl (nx, ls, .int (x + y) :: r, h))
      | _ => none)
    | .isub => (match st with
      | .int y :: .int x :: r => some (.inl (nx, ls, .int (x - y) :: r, h))
      | _ => none)
    | .imul => (match st with
      | .int y :: .int x :: r => some (.inl (nx, ls, .int (x * y) :: r, h))
      | _ => none)
    | .iand => (match st with
      | .int y :: .int x :: r => some (.inl (nx, ls, .int (x &&& y) :: r, h))
      | _ => none)
    | .ior => (match st with
      | .int y :: .int x :: r => some (.inl (nx, ls, .int (x ||| y) :: r, h))
      | _ => none)
    | .ixor => (match st with
      | .int y :: .int x :: r => some (.inl (nx, ls, .int (x ^^^ y) :: r, h))
      | _ => none)
    | .ishl => (match st with
      | .int y :: .int x :: r => some (.inl (nx, ls, .int (x <<< (y &&& 31)) :: r, h))
      | _ => none)
    | .ishr => (match st with
      | .int y :: .int x :: r => some (.inl (nx, ls, .int (x >>> (y &&& 31)) :: r, h))
      | _ => none)
    | .iushr => (match st with
      | .int y :: .int x :: r => some (.inl (nx, ls, .int ((x.toUInt32 >>> (y.toUInt32 &&& Int32.toUInt32 31)).toInt32) :: r, h))
      | _ => none)
    | .idiv => (match st with
      | .int y :: .int x :: r => bif decide (y = 0) then none else some (.inl (nx, ls, .int (x / y) :: r, h))
      | _ => none)
    | .irem => (match st with
      | .int y :: .int x :: r => bif decide (y = 0) then none else some (.inl (nx, ls, .int (irm x y) :: r, h))
      | _ => none)
    | .ineg => (match st with
      | .int x :: r => some (.inl (nx, ls, .int (-x) :: r, h))
      | _ => none)
    | .i2b => (match st with
      | .int x :: r => some (.inl (nx, ls, .int x.toInt8.toInt32 :: r, h))
      | _ => none)
    | .i2s => (match st with
      | .int x :: r => some (.inl (nx, ls, .int x.toInt16.toInt32 :: r, h))
      | _ => none)
    | .i2c => (match st with
      | .int x :: r => some (.inl (nx, ls, .int (x.toUInt32 % 65536).toInt32 :: r, h))
      | _ => none)
    | .i2l => (match st with
      | .int x :: r => some (.inl (nx, ls, .long x.toInt64 :: r, h))
      | _ => none)
    | .l2i => (match st with
      | .long x :: r => some (.inl (nx, ls, .int x.toInt32 :: r, h))
      | _ => none)
    | .land => (match st with
      | .long y :: .long x :: r => some (.inl (nx, ls, .long (x &&& y) :: r, h))
      | _ => none)
    | .lor => (match st with
      | .long y :: .long x :: r => some (.inl (nx, ls, .long (x ||| y) :: r, h))
      | _ => none)
    | .lshl => (match st with
      | .int y :: .long x :: r => some (.inl (nx, ls, .long (x <<< (y.toInt64 &&& 63)) :: r, h))
      | _ => none)
    | .lshr => (match st with
      | .int y :: .long x :: r => some (.inl (nx, ls, .long (x >>> (y.toInt64 &&& 63)) :: r, h))
      | _ => none)
    | .lushr => (match st with
      | .int y :: .long x :: r => some (.inl (nx, ls, .long (x.toUInt64 >>> (y.toInt64.toUInt64 &&& Int64.toUInt64 63)).toInt64 :: r, h))
      | _ => none)
    | .dup => (match st with
      | .int x :: r => some (.inl (nx, ls, .int x :: .int x :: r, h))
      | .ref x :: r => some (.inl (nx, ls, .ref x :: .ref x :: r, h))
      | _ => none)
    | .dup2 => (match st with
      | .int x :: .ref a :: r => some (.inl (nx, ls, .int x :: .ref a :: .int x :: .ref a :: r, h))
      | _ => none)
    | .pop => (match st with
      | .int _ :: r => some (.inl (nx, ls, r, h))
      | .ref _ :: r => some (.inl (nx, ls, r, h))
      | _ => none)
    | .ifCond c _ => (match ops, st with
      | [t], .int x :: r => (match c with
        | .eq => some (.inl (if x = 0 then t else nx, ls, r, h))
        | .ne => some (.inl (if x = 0 then nx else t, ls, r, h))
        | .lt => some (.inl (if x < 0 then t else nx, ls, r, h))
        | .ge => some (.inl (if 0 ≤ x then t else nx, ls, r, h))
        | .gt => some (.inl (if 0 < x then t else nx, ls, r, h))
        | .le => some (.inl (if x ≤ 0 then t else nx, ls, r, h)))
      | _, _ => none)
    | .if_icmp c _ => (match ops, st with
      | [t], .int y :: .int x :: r => (match c with
        | .eq => some (.inl (if x = y then t else nx, ls, r, h))
        | .ne => some (.inl (if x = y then nx else t, ls, r, h))
        | .lt => some (.inl (if x < y then t else nx, ls, r, h))
        | .ge => some (.inl (if y ≤ x then t else nx, ls, r, h))
        | .gt => some (.inl (if y < x then t else nx, ls, r, h))
        | .le => some (.inl (if x ≤ y then t else nx, ls, r, h)))
      | _, _ => none)
    | .goto _ => (match ops with
      | [t] => some (.inl (t, ls, st, h))
      | _ => none)
    | .ifnull _ => (match ops, st with
      | [t], .null :: r => some (.inl (t, ls, r, h))
      | [_], .ref _ :: r => some (.inl (nx, ls, r, h))
      | _, _ => none)
    | .ifnonnull _ => (match ops, st with
      | [_], .null :: r => some (.inl (nx, ls, r, h))
      | [t], .ref _ :: r => some (.inl (t, ls, r, h))
      | _, _ => none)
    | .tableswitch _ _ _ _ => (match ops, st with
      | d :: lo :: ts, .int x :: r => some (.inl (am_ts x lo ts d, ls, r, h))
      | _, _ => none)
    | .lookupswitch _ _ => (match ops, st with
      | d :: ps, .int x :: r => some (.inl (am_ls x ps d, ls, r, h))
      | _, _ => none)
    | .getstatic _ => (match ops with
      | [9, _, _] => some (.inl (nx, ls, .int 1 :: st, h))
      | [c, _, _] => some (.inl (nx, ls, .ref (1000 + c) :: st, h))
      | _ => none)
    | .getfield _ => (match ops, st with
      | [ci, k, _, _], .ref a :: r => bif Nat.beq (S a).1 (10 + ci) then (match fTy ci k with
          | 1 => (match P a k with
            | some q => some (.inl (nx, ls, .ref q :: r, h))
            | none => some (.inl (nx, ls, .null :: r, h)))
          | 9 => none
          | _ => some (.inl (nx, ls, .int (I a k) :: r, h))) else none
      | _, _ => none)
    | .putfield _ => (match ops, st with
      | [ci, k, _, _], .int x :: .ref a :: r => bif Nat.beq (S a).1 (10 + ci) then (match fTy ci k with
          | 0 => some (.inl (nx, ls, r, (va_up I a (va_up (I a) k x), P, S, n, sl)))
          | 2 => bif decide (x = 0) || decide (x = 1) then some (.inl (nx, ls, r, (va_up I a (va_up (I a) k x), P, S, n, sl))) else none
          | _ => none) else none
      | [ci, k, _, _], .ref q :: .ref a :: r => bif Nat.beq (S a).1 (10 + ci) then (match fTy ci k with
          | 1 => some (.inl (nx, ls, r, (I, va_up P a (va_up (P a) k (some q)), S, n, sl)))
          | _ => none) else none
      | _, _ => none)
    | .arraylength => (match st with
      | .ref a :: r => (match S a with
        | (kd, len) => bif Nat.ble kd 3 || Nat.beq kd 50 || Nat.beq kd 51 then some (.inl (nx, ls, .int (nI len) :: r, h)) else none)
      | _ => none)
    | .iaload => (match st with
      | .int j :: .ref a :: r => (match S a with
        | (kd, len) => bif (Nat.beq kd 0 || Nat.beq kd 50) && am_in j len then some (.inl (nx, ls, .int (I a j.toNatClampNeg) :: r, h)) else none)
      | _ => none)
    | .baload => (match st with
      | .int j :: .ref a :: r => (match S a with
        | (kd, len) => bif Nat.beq kd 51 && am_in j len then some (.inl (nx, ls, .int (I a j.toNatClampNeg) :: r, h)) else none)
      | _ => none)
    | .aaload => (match st with
      | .int j :: .ref a :: r => (match S a with
        | (kd, len) => bif (Nat.ble 1 kd && Nat.ble kd 3) && am_in j len then (match P a j.toNatClampNeg with
            | some q => some (.inl (nx, ls, .ref q :: r, h))
            | none => some (.inl (nx, ls, .null :: r, h))) else none)
      | _ => none)
    | .iastore => (match st with
      | .int x :: .int j :: .ref a :: r => (match S a with
        | (kd, len) => bif Nat.beq kd 0 && am_in j len then some (.inl (nx, ls, r, (va_up I a (va_up (I a) j.toNatClampNeg x), P, S, n, sl))) else none)
      | _ => none)
    | .aastore => (match st with
      | .ref q :: .int j :: .ref a :: r => (match S a with
        | (kd, len) => bif (Nat.ble 1 kd && Nat.ble kd 3) && am_in j len && Nat.beq (S q).1 (am_ec kd) then
            some (.inl (nx, ls, r, (I, va_up P a (va_up (P a) j.toNatClampNeg (some q)), S, n, sl))) else none)
      | .null :: .int j :: .ref a :: r => (match S a with
        | (kd, len) => bif (Nat.ble 1 kd && Nat.ble kd 3) && am_in j len then
            some (.inl (nx, ls, r, (I, va_up P a (va_up (P a) j.toNatClampNeg none), S, n, sl))) else none)
      | _ => none)
    | .new _ => (match ops with
      | [ci, _] => bif Nat.blt n 1000 then some (.inl (nx, ls, .ref n :: st, (va_up I n (fun _ => 0), va_up P n (fun _ => none), va_up S n (10 + ci, fN ci), n + 1, sl + fN ci))) else none
      | _ => none)
    | .newarray _ => (match st with
      | .int x :: r => bif Nat.blt n 1000 && am_in x 1000000 then some (.inl (nx, ls, .ref n :: r, (va_up I n (fun _ => 0), P, va_up S n (0, x.toNatClampNeg), n + 1, sl + x.toNatClampNeg))) else none
      | _ => none)
    | .anewarray _ => (match ops, st with
      | [kd, _], .int x :: r => bif Nat.blt n 1000 && am_in x 1000000 then some (.inl (nx, ls, .ref n :: r, (I, va_up P n (fun _ => none), va_up S n (kd, x.toNatClampNeg), n + 1, sl + x.toNatClampNeg))) else none
      | _, _ => none)
    | .checkcast _ => (match st with
      | .ref a :: r => bif Nat.beq (S a).1 0 then some (.inl (nx, ls, .ref a :: r, h)) else none
      | _ => none)
    | .invokespecial _ => (match ops, st with
      | [5, _], .ref _ :: r => bif Nat.ble (am_cats r) 8 then some (.inl (nx, ls, r, h)) else none
      | _, _ => none)
    | .invokestatic _ => (match ops, st with
      | [6, _], .int c :: .int dp :: .ref b :: .int sp :: .ref a :: r => (match S a, S b with
        | (k0, n0), (k1, n1) => bif Nat.beq k0 0 && Nat.beq k1 0 && !(decide (sp < 0)) && !(decide (dp < 0)) && !(decide (c < 0)) && Nat.ble (sp.toNatClampNeg + c.toNatClampNeg) n0 && Nat.ble (dp.toNatClampNeg + c.toNatClampNeg) n1 && Nat.ble (am_cats r) 8 then
            some (.inl (nx, ls, r, (va_up I b (va_cpy (I a) (I b) sp.toNatClampNeg dp.toNatClampNeg c.toNatClampNeg), P, S, n, sl))) else none)
      | _, _ => none)
    | .invokevirtual _ => (match ops, st with
      | [7, _], .ref a :: r => (match S a with
        | (k0, n0) => bif Nat.beq k0 0 && Nat.blt n 1000 && Nat.ble (am_cats r) 8 then some (.inl (nx, ls, .ref n :: r, (va_up I n (I a), P, va_up S n (0, n0), n + 1, sl + n0))) else none)
      | _, _ => none)
    | .ireturn => (match st with
      | [.int x] => (match rt with
        | 0 => some (.inr (some (.int x)))
        | 1 => bif decide (x = 0) || decide (x = 1) then some (.inr (some (.int x))) else none
        | 2 => bif decide (x.toInt8.toInt32 = x) then some (.inr (some (.int x))) else none
        | _ => none)
      | _ => none)
    | .areturn => (match st with
      | [.ref a] => bif Nat.beq rt 3 then some (.inr (some (.ref a))) else none
      | [.null] => bif Nat.beq rt 3 then some (.inr (some .null)) else none
      | _ => none)
    | .return_ => (match st with
      | [] => bif Nat.beq rt 9 then some (.inr none) else none
      | _ => none)
    | _ => none
def am_call0 (e : CE) (st : List Value) (h : AH) : Option (Nat × List Value × List Value) := match e.2.2.2 with
  | kd :: y :: a :: _ :: more => (match kd with
    | 1 => (match am_pop a st [] with
      | some (as, r) => bif Nat.ble (am_cats r) 8 && am_args y as then some (y, as, r) else none
      | none => none)
    | 2 => (match am_pop a st [] with
      | some (as, r) => bif Nat.ble (am_cats r) 8 && am_args y as then some (y, as, r) else none
      | none => none)
    | 3 => (match am_pop (a + 1) st [] with
      | some (.ref b :: as, r) => bif Nat.ble (am_cats r) 8 && am_args y (.ref b :: as) then some (y, .ref b :: as, r) else none
      | _ => none)
    | 4 => (match am_pop (a + 1) st [] with
      | some (.ref b :: as, r) => bif Nat.ble (am_cats r) 8 && am_args y (.ref b :: as) then some (y, .ref b :: as, r) else none
      | _ => none)
    | 0 => (match am_pop (a + 1) st [], more with
      | some (.ref b :: as, r), ci :: _ => bif Nat.beq (h.2.2.1 b).1 (10 + ci) && Nat.ble (am_cats r) 8 && am_args y (.ref b :: as) then some (y, .ref b :: as, r) else none
      | _, _ => none)
    | 8 => (match am_pop (a + 1) st [], more with
      | some (.ref b :: as, r), ci :: _ => bif Nat.beq (h.2.2.1 b).1 (10 + ci) && Nat.ble (am_cats r) 8 && am_args y (.ref b :: as) then some (y, .ref b :: as, r) else none
      | _, _ => none)
    | _ => none)
  | _ => none
def am_call (e : CE) (st : List Value) (h : AH) : Option (Nat × List Value × List Value) := match e.1 with
  | .invokestatic _ => am_call0 e st h
  | .invokespecial _ => am_call0 e st h
  | .invokevirtual _ => am_call0 e st h
  | _ => none
/-- a frame's run by fuel k, in a depth d -/
def am_run : Nat → Nat → Nat → Nat → ALS → List Value → AH → Option (Option Value × AH)
  | 0, _, _, _, _, _, _ => none
  | k + 1, d, y, pc, ls, st, h => match cd y pc with
    | none => none
    | some e => match am_step e (mrt y) ls st h with
      | some (.inl (pc', ls', st', h')) => am_run k d y pc' ls' st' h'
      | some (.inr r) => some (r, h)
      | none => match am_call e st h, d with
        | some (y', as, r), d' + 1 => (match am_run k d' y' 0 (am_pad (mml y') (am_lay as)) [] h with
          | some (v, h') => am_run k (d' + 1) y e.2.1 ls (am_push v r) h'
          | none => none)
        | _, _ => none
/-- from here the frame comes to its end, with Q -/
def Go (d y pc : Nat) (ls : ALS) (st : List Value) (h : AH) (Q : Option Value → AH → Prop) : Prop := ∃ k r h', am_run k d y pc ls st h = some (r, h') ∧ Q r h'
abbrev Ct (d y : Nat) (as : List Value) (h : AH) (Q : Option Value → AH → Prop) : Prop := Go d y 0 (am_pad (mml y) (am_lay as)) [] h Q
theorem am_run_mono : ∀ (k d y pc : Nat) (ls : ALS) (st : List Value) (h : AH) (R : Option Value × AH), am_run k d y pc ls st h = some R → am_run (k + 1) d y pc ls st h = some R := by
  intro k
  induction k with
  | zero => intro d y pc ls st h R e; simp [am_run] at e
  | succ k ih =>
    intro d y pc ls st h R e
    rw [am_run] at e ⊢
    cases hc : cd y pc with
    | none => rw [hc] at e; simp at e
    | some ce =>
      rw [hc] at e
      simp only at e ⊢
      cases hs : am_step ce (mrt y) ls st h with
      | some nx =>
        rw [hs] at e
        cases nx with
        | inl q => obtain ⟨pc', ls', st', h'⟩ := q; exact ih _ _ _ _ _ _ _ e
        | inr r => exact e
      | none =>
        rw [hs] at e
        simp only at e ⊢
        cases hl : am_call ce st h with
        | none => rw [hl] at e; simp at e
        | some q =>
          obtain ⟨y', as, r⟩ := q
          rw [hl] at e
          cases d with
          | zero => simp at e
          | succ d' =>
            simp only at e ⊢
            cases hr : am_run k d' y' 0 (am_pad (mml y') (am_lay as)) [] h with
            | none => rw [hr] at e; simp at e
            | some q =>
              obtain ⟨v, h'⟩ := q
              rw [hr] at e
              rw [ih _ _ _ _ _ _ _ hr]
              exact ih _ _ _ _ _ _ _ e
theorem am_run_le {k k' : Nat} (hk : k ≤ k') {d y pc : Nat} {ls : ALS} {st : List Value} {h : AH} {R : Option Value × AH} (e : am_run k d y pc ls st h = some R) : am_run k' d y pc ls st h = some R := by
  induction hk with
  | refl => exact e
  | step _ ih => exact am_run_mono _ _ _ _ _ _ _ _ ih
theorem Go.step {d y pc : Nat} {ls : ALS} {st : List Value} {h : AH} {Q : Option Value → AH → Prop} {pc' : Nat} {ls' : ALS} {st' : List Value} {h' : AH} (e : (cd y pc).bind (fun e => am_step e (mrt y) ls st h) = some (.inl (pc', ls', st', h'))) (k : Go d y pc' ls' st' h' Q) : Go d y pc ls st h Q := by
  obtain ⟨k, r, h2, e2, hq⟩ := k
  refine ⟨k + 1, r, h2, ?_, hq⟩
  rw [am_run]
  cases hc : cd y pc with
  | none => rw [hc] at e; simp at e
  | some ce =>
    rw [hc] at e
    simp only [Option.bind_some] at e
    simp only [e]
    exact e2
theorem Go.ret {d y pc : Nat} {ls : ALS} {st : List Value} {h : AH} {Q : Option Value → AH → Prop} {r : Option Value} (e : (cd y pc).bind (fun e => am_step e (mrt y) ls st h) = some (.inr r)) (hq : Q r h) : Go d y pc ls st h Q := by
  refine ⟨1, r, h, ?_, hq⟩
  rw [am_run]
  cases hc : cd y pc with
  | none => rw [hc] at e; simp at e
  | some ce =>
    rw [hc] at e
    simp only [Option.bind_some] at e
    simp only [e]
theorem Go.call {d y pc : Nat} {ls : ALS} {st : List Value} {h : AH} {Q Q' : Option Value → AH → Prop} {y' nx : Nat} {as r : List Value} (e : (cd y pc).bind (fun e => (am_call e st h).map (fun q => (e.2.1, q, am_step e (mrt y) ls st h))) = some (nx, (y', as, r), none)) (hc : Ct d y' as h Q') (kk : ∀ v h', Q' v h' → Go (d + 1) y nx ls (am_push v r) h' Q) : Go (d + 1) y pc ls st h Q := by
  obtain ⟨k1, v, h1, e1, q1⟩ := hc
  obtain ⟨k2, r2, h2, e2, q2⟩ := kk v h1 q1
  refine ⟨max k1 k2 + 1, r2, h2, ?_, q2⟩
  rw [am_run]
  cases hcd : cd y pc with
  | none => rw [hcd] at e; simp at e
  | some ce =>
    rw [hcd] at e
    simp only [Option.bind_some] at e
    cases hl : am_call ce st h with
    | none => rw [hl] at e; simp at e
    | some q =>
      rw [hl] at e
      simp only [Option.map_some, Option.some.injEq, Prod.mk.injEq] at e
      obtain ⟨ea, eb, ec⟩ := e
      subst ea; subst eb
      simp only [ec, hl]
      rw [am_run_le (Nat.le_max_left k1 k2) e1]
      exact am_run_le (Nat.le_max_right k1 k2) e2
theorem Go.ite {d y a b : Nat} {c : Prop} {hc : Decidable c} {ls : ALS} {st : List Value} {h : AH} {Q : Option Value → AH → Prop} (ka : c → Go d y a ls st h Q) (kb : ¬ c → Go d y b ls st h Q) : Go d y (@ite Nat c hc a b) ls st h Q := by
  by_cases hh : c
  · rw [if_pos hh]; exact ka hh
  · rw [if_neg hh]; exact kb hh
theorem Go.mono {d y pc : Nat} {ls : ALS} {st : List Value} {h : AH} {Q Q' : Option Value → AH → Prop} (g : Go d y pc ls st h Q) (hq : ∀ v h', Q v h' → Q' v h') : Go d y pc ls st h Q' := by
  obtain ⟨k, r, h', e, q⟩ := g
  exact ⟨k, r, h', e, hq _ _ q⟩
