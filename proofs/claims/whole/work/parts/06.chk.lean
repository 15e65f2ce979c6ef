/-! THE TABLES ARE THE CODE'S: each entry against the decoded byte code and the Statement's words. -/
def mNm (y : Nat) : MethodName := match am_mt[y]? with | some q => q.1 | none => ⟨"", "", ""⟩
def mBy (y : Nat) : ByteArray := match am_mt[y]? with | some q => q.2.1 | none => ⟨#[]⟩
def mRe (y : Nat) : Option FieldType := match am_mt[y]? with | some q => q.2.2.2.1 | none => none
def mnp (y : Nat) : Nat := match am_mt[y]? with | some q => q.2.2.2.2.1 | none => 0
def mst (y : Nat) : Bool := match am_mt[y]? with | some q => q.2.2.2.2.2.1 | none => false
def am_w (p : Nat) (w : Jvm.Cond) : Bool := decide (lw_tbl[p]? = some w)
theorem am_w_in {p : Nat} {w : Jvm.Cond} (h : am_w p w = true) : w ∈ lw_tbl := List.mem_of_getElem? (of_decide_eq_true h)
def am_rt (r : Option FieldType) (c : Nat) : Bool := match r, c with
  | none, 9 => true
  | some .int, 0 => true
  | some .boolean, 1 => true
  | some .byte, 2 => true
  | some (.array .int), 3 => true
  | some (.object _), 3 => true
  | _, _ => false
def am_mchk (y : Nat) : Bool := match am_mt[y]? with
  | none => false
  | some (nm, _, ml, r, np, st, _, p2, p3) => am_w p2 (if st then .static nm else .instanceMethod nm) && am_w p3 (.initialized nm.cls) && Nat.beq ml (mml y) && am_rt r (mrt y)
      && decide (nm.cls ≠ "java/lang/invoke/MethodHandle") && decide (nm.cls ≠ "java/lang/invoke/VarHandle") && decide ((parseMethodDescriptor nm.desc).map (fun d => d.parameters.length) = some np) && plainFor nm
def am_feed (y : Nat) : Bool := Nat.beq y y_X_feed || Nat.beq y y_M_feed
def am_st (y j : Nat) : Bool := Nat.blt j (mml y) && !(am_feed y && Nat.ble j 2)
def am_prs : List Nat → List (Int × Int)
  | k :: t :: r => ((k : Int), (t : Int)) :: am_prs r
  | _ => []
def am_sorted (ps : Array (Int × Int)) : Bool := (ps.toList.zip (ps.toList.drop 1)).all (fun (a, next) => a.1 < next.1)
def am_ops (y pc nx : Nat) (i : Instr) (v : Int32) (ops : List Nat) : Bool := match i with
  | .iconst n => Nat.beq nx (pc + 1) && decide (Int32.ofInt n = v)
  | .bipush n => Nat.beq nx (pc + 2) && decide ((Int8.ofInt n).toInt32 = v)
  | .sipush n => Nat.beq nx (pc + 3) && decide ((Int16.ofInt n).toInt32 = v)
  | .ldc x => Nat.beq nx (pc + 2) && (match ops with
    | [0, p] => am_w p (.constant (mNm y).cls x v)
    | [1, sid] => decide ((mNm y).cls = RX2) && Nat.blt sid 8 && Nat.beq (sIdx sid) x
    | _ => false)
  | .ldc_w x => Nat.beq nx (pc + 3) && (match ops with
    | [0, p] => am_w p (.constant (mNm y).cls x v)
    | _ => false)
  | .ldc2_w x => Nat.beq nx (pc + 3) && (match ops with
    | [c, p] => am_w p (.constantLong (mNm y).cls x (Int64.ofNat c))
    | _ => false)
  | .iload_n k => Nat.beq nx (pc + 1) && decide (ops = [(k : Nat)])
  | .iload k => Nat.beq nx (pc + 2) && decide (ops = [k])
  | .lload_n k => Nat.beq nx (pc + 1) && decide (ops = [(k : Nat)])
  | .aload_n k => Nat.beq nx (pc + 1) && decide (ops = [(k : Nat)])
  | .aload k => Nat.beq nx (pc + 2) && decide (ops = [k])
  | .istore_n k => Nat.beq nx (pc + 1) && decide (ops = [(k : Nat)]) && am_st y k
  | .istore k => Nat.beq nx (pc + 2) && decide (ops = [k]) && am_st y k
  | .astore_n k => Nat.beq nx (pc + 1) && decide (ops = [(k : Nat)]) && am_st y k
  | .astore k => Nat.beq nx (pc + 2) && decide (ops = [k]) && am_st y k
  | .iinc k n => Nat.beq nx (pc + 3) && decide (ops = [k]) && am_st y k && decide (Int32.ofInt n = v)
  | .ifCond _ o => Nat.beq nx (pc + 3) && (match ops with | [t] => decide ((pc : Int) + o = (t : Int)) | _ => false)
  | .if_icmp _ o => Nat.beq nx (pc + 3) && (match ops with | [t] => decide ((pc : Int) + o = (t : Int)) | _ => false)
  | .goto o => Nat.beq nx (pc + 3) && (match ops with | [t] => decide ((pc : Int) + o = (t : Int)) | _ => false)
  | .ifnull o => Nat.beq nx (pc + 3) && (match ops with | [t] => decide ((pc : Int) + o = (t : Int)) | _ => false)
  | .ifnonnull o => Nat.beq nx (pc + 3) && (match ops with | [t] => decide ((pc : Int) + o = (t : Int)) | _ => false)
  | .tableswitch d lo hi offs => (match ops with
    | dd :: l :: ts => decide ((pc : Int) + d = (dd : Int)) && decide (lo = (l : Int)) && decide (hi = (l : Int) + (ts.length : Int) - 1) && decide (offs.toList.map (fun o => (pc : Int) + o) = ts.map Int.ofNat) && Nat.blt (l + ts.length) 1000000
    | _ => false)
  | .lookupswitch d ps => (match ops with
    | dd :: r => decide ((pc : Int) + d = (dd : Int)) && decide (ps.toList.map (fun q => (q.1, (pc : Int) + q.2)) = am_prs r) && am_sorted ps && r.all (fun k => Nat.blt k 1000000)
    | _ => false)
  | .getstatic x => Nat.beq nx (pc + 3) && (match ops with
    | [9, 0, p] => am_w p (.fieldLink (mNm y).cls x "java/lang/String" "COMPACT_STRINGS" "Z")
    | [c, 0, p] => Nat.blt c 3 && am_w p (.fieldLink (mNm y).cls x (sC c) (sNm c) "[I")
    | [c, 1, p] => Nat.blt c 3 && am_w p (.fieldLinkNest (mNm y).cls x (sC c) (sNm c) "[I" "WindPrice")
    | _ => false)
  | .getfield x => Nat.beq nx (pc + 3) && (match ops with
    | [20, 0, 0, p] => am_w p (.fieldLink (mNm y).cls x "java/lang/String" "value" "[B")
    | [20, 1, 0, p] => am_w p (.fieldLink (mNm y).cls x "java/lang/String" "coder" "B")
    | [ci, k, 0, p] => Nat.blt ci 10 && Nat.blt k (fN ci) && am_w p (.fieldLink (mNm y).cls x (RXs ci) (TXs ci k).2.1 (TXs ci k).2.2.1)
    | [ci, k, 1, p] => Nat.blt ci 10 && Nat.blt k (fN ci) && am_w p (.fieldLinkNest (mNm y).cls x (RXs ci) (TXs ci k).2.1 (TXs ci k).2.2.1 "WindPrice")
    | _ => false)
  | .putfield x => Nat.beq nx (pc + 3) && (match ops with
    | [ci, k, 0, p] => Nat.blt ci 10 && Nat.blt k (fN ci) && !(TXs ci k).2.2.2 && am_w p (.fieldLink (mNm y).cls x (RXs ci) (TXs ci k).2.1 (TXs ci k).2.2.1)
    | [ci, k, 1, p] => Nat.blt ci 10 && Nat.blt k (fN ci) && !(TXs ci k).2.2.2 && am_w p (.fieldLinkNest (mNm y).cls x (RXs ci) (TXs ci k).2.1 (TXs ci k).2.2.1 "WindPrice")
    | [ci, k, 2, p] => Nat.blt ci 10 && Nat.blt k (fN ci) && (TXs ci k).2.2.2 && decide ((mNm y).name = "<init>") && decide ((mNm y).cls = RXs ci) && am_w p (.fieldLink (mNm y).cls x (RXs ci) (TXs ci k).2.1 (TXs ci k).2.2.1)
    | _ => false)
  | .new x => Nat.beq nx (pc + 3) && (match ops with
    | [ci, p] => Nat.blt ci 10 && am_w p (.classLink (mNm y).cls x (RXs ci))
    | _ => false)
  | .newarray t => Nat.beq nx (pc + 2) && decide (t = .int)
  | .anewarray x => Nat.beq nx (pc + 3) && (match ops with
    | [kd, p] => Nat.ble 1 kd && Nat.ble kd 3 && am_w p (.classLink (mNm y).cls x (am_comp kd))
    | _ => false)
  | .checkcast x => Nat.beq nx (pc + 3) && (match ops with
    | [p] => am_w p (.classLink (mNm y).cls x "[I")
    | _ => false)
  | .invokespecial x => Nat.beq nx (pc + 3) && (match ops with
    | [5, p] => am_w p (.methodLink (mNm y).cls x Lib.objectInit)
    | [3, z, a, p] => Nat.blt z 222 && Nat.beq a (mnp z) && !(mst z) && decide ((mNm z).name = "<init>") && am_w p (.methodLink (mNm y).cls x (mNm z)) && Nat.beq (mrt z) 9
    | [4, z, a, p] => Nat.blt z 222 && Nat.beq a (mnp z) && !(mst z) && decide ((mNm z).name = "<init>") && am_w p (.methodLinkNest (mNm y).cls x (mNm z) "WindPrice") && Nat.beq (mrt z) 9
    | _ => false)
  | .invokestatic x => Nat.beq nx (pc + 3) && (match ops with
    | [6, p] => am_w p (.methodLink (mNm y).cls x arraycopyName)
    | [1, z, a, p] => Nat.blt z 222 && Nat.beq a (mnp z) && mst z && am_w p (.methodLink (mNm y).cls x (mNm z))
    | [2, z, a, p] => Nat.blt z 222 && Nat.beq a (mnp z) && mst z && am_w p (.methodLinkNest (mNm y).cls x (mNm z) "WindPrice")
    | _ => false)
  | .invokevirtual x => Nat.beq nx (pc + 3) && (match ops with
    | [7, p] => am_w p (.methodLink (mNm y).cls x ⟨"[I", "clone", "()Ljava/lang/Object;"⟩)
    | [0, z, a, p, ci, q] => Nat.blt z 222 && Nat.beq a (mnp z) && !(mst z) && Nat.blt ci 10 && decide ((mNm z).cls = RXs ci) && am_w p (.methodLink (mNm y).cls x (mNm z)) && am_w q (.selects (RXs ci) (mNm z) (mNm z))
    | [8, z, a, p, 20, q] => Nat.blt z 222 && Nat.beq a (mnp z) && !(mst z) && decide ((mNm z).cls = "java/lang/String") && am_w p (.methodLink (mNm y).cls x (mNm z)) && am_w q (.selects "java/lang/String" (mNm z) (mNm z))
    | _ => false)
  | _ => Nat.beq nx (pc + 1)
def am_chk (y pc : Nat) : Bool := match cd y pc with
  | none => true
  | some (i, nx, v, ops) => decide (decode (mBy y) pc = .ok (i, nx - pc)) && Nat.blt pc nx && am_ops y pc nx i v ops
def am_cws : List Jvm.Cond := am_mt.map (fun q => Jvm.Cond.code q.1 q.2.1 q.2.2.1 q.2.2.2.1)
set_option maxRecDepth 100000 in
theorem am_cws_ok : am_cws.take 222 = (am_mt.take 222).filterMap (fun q => lw_tbl[q.2.2.2.2.2.2.1]?) := rfl
