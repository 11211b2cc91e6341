def qm_sx (i : Nat) : Nat := match qm_nt qm_sL i with
  | some n => n
  | none => 0
def qm_nxt (K : List (List qm_En)) (nx pc ln : Nat) : Bool := Nat.beq (qm_pc K nx) (pc + ln)
def qm_tgt (K : List (List qm_En)) (t pc : Nat) (off : Int) : Bool := decide ((pc : Int) + off = (qm_pc K t : Int))
def qm_swc (K : List (List qm_En)) (pc : Nat) : Int → List Int → List (Int32 × Nat) → Bool
  | _, [], [] => true
  | lo, o :: os, (v, t) :: l => decide (v.toInt = lo) && qm_tgt K t pc o && qm_swc K pc (lo + 1) os l
  | _, _, _ => false
def qm_lsc (K : List (List qm_En)) (pc : Nat) : List (Int × Int) → List (Int32 × Nat) → Bool
  | [], [] => true
  | (a, o) :: os, (v, t) :: l => decide (v.toInt = a) && qm_tgt K t pc o && qm_lsc K pc os l
  | _, _ => false
def qm_fl? (own idx ci k : Nat) : Bool := qm_FL.any (fun r => Nat.beq r.1 own && Nat.beq r.2.1 idx && Nat.beq r.2.2.1 ci && Nat.beq r.2.2.2.1 k)
def qm_fs? (own idx k : Nat) : Bool := qm_FS.any (fun r => Nat.beq r.1 own && Nat.beq r.2.1 idx && Nat.beq r.2.2.1 k)
def qm_cv? (own idx ci id n : Nat) : Bool := qm_CV.any (fun r => Nat.beq r.1 own && Nat.beq r.2.1 idx && Nat.beq r.2.2.1 ci && Nat.beq r.2.2.2.1 id && Nat.beq (r.2.2.2.2.1 + 1) n)
def qm_cu? (own idx ci id n : Nat) : Bool := qm_CU.any (fun r => Nat.beq r.1 own && Nat.beq r.2.1 idx && Nat.beq r.2.2.1 ci && Nat.beq r.2.2.2.1 id && Nat.beq (r.2.2.2.2.1 + 1) n)
def qm_cp? (own idx ci id n : Nat) : Bool := qm_CP.any (fun r => Nat.beq r.1 own && Nat.beq r.2.1 idx && Nat.beq r.2.2.1 ci && Nat.beq r.2.2.2.1 id && Nat.beq (r.2.2.2.2.1 + 1) n)
def qm_cs? (own idx id n : Nat) : Bool := qm_CS.any (fun r => Nat.beq r.1 own && Nat.beq r.2.1 idx && Nat.beq r.2.2.1 id && Nat.beq r.2.2.2.1 n)
def qm_pf? (ci k f : Nat) : Bool := match vwCl[ci]? with
  | some (_, T, _) => Nat.ble f 1 && !(T k).2.2.2 && decide ((T k).2.2.1 = (bif Nat.beq f 0 then "I" else "Z"))
  | none => false
def qm_in? (C : String) (q : Nat × Nat) : Bool := Nat.ble q.1 12 && (bif Nat.beq q.2 1 then (decide (qm_oS q.1 = C) || qm_CT.any (fun r => Nat.beq r.1 q.1 && decide (qm_oS r.2.1 = C))) else qm_NC.any (fun r => Nat.beq r.1 q.1 && decide (qm_oS r.2 = C)))
def qm_l1 (K : List (List qm_En)) (ln pc nx : Nat) : Bool := Nat.beq ln 1 && qm_nxt K nx pc 1
def qm_l2 (K : List (List qm_En)) (ln pc nx : Nat) : Bool := Nat.beq ln 2 && qm_nxt K nx pc 2
def qm_l3 (K : List (List qm_En)) (ln pc nx : Nat) : Bool := Nat.beq ln 3 && qm_nxt K nx pc 3
def qm_chk (own : Nat) (ret : Option FieldType) (K : List (List qm_En)) (ins : Instr) (ln pc nx ax : Nat) (kc : Int32) (sw : List (Int32 × Nat)) (dp : List (Nat × Nat)) : Bool :=
  match ins with
  | .iconst k => qm_l1 K ln pc nx && decide (Int32.ofInt k = kc)
  | .bipush k => qm_l2 K ln pc nx && decide ((Int8.ofInt k).toInt32 = kc)
  | .sipush k => qm_l3 K ln pc nx && decide ((Int16.ofInt k).toInt32 = kc)
  | .ldc_w idx => qm_l3 K ln pc nx && decide (qm_tb ax = some (.constant (qm_oS own) idx kc))
  | .lconst k => qm_l1 K ln pc nx && decide (Int64.ofNat k.val = qm_lc ax)
  | .ldc2_w idx => qm_l3 K ln pc nx && (match dp with
    | (p, _) :: _ => decide (qm_tb p = some (.constantLong (qm_oS own) idx (qm_lc ax)))
    | [] => false)
  | .ldc idx => qm_l2 K ln pc nx && Nat.beq own 8 && Nat.blt ax 8 && Nat.beq idx (qm_sx ax)
  | .iload_n k => qm_l1 K ln pc nx && Nat.beq k.val ax
  | .lload_n k => qm_l1 K ln pc nx && Nat.beq k.val ax
  | .aload_n k => qm_l1 K ln pc nx && Nat.beq k.val ax
  | .istore_n k => qm_l1 K ln pc nx && Nat.beq k.val ax
  | .astore_n k => qm_l1 K ln pc nx && Nat.beq k.val ax
  | .iload i => qm_l2 K ln pc nx && Nat.beq i ax
  | .aload i => qm_l2 K ln pc nx && Nat.beq i ax
  | .istore i => qm_l2 K ln pc nx && Nat.beq i ax
  | .astore i => qm_l2 K ln pc nx && Nat.beq i ax
  | .iinc i k => qm_l3 K ln pc nx && Nat.beq i ax && decide (Int32.ofInt k = kc)
  | .iadd => qm_l1 K ln pc nx
  | .isub => qm_l1 K ln pc nx
  | .imul => qm_l1 K ln pc nx
  | .iand => qm_l1 K ln pc nx
  | .ior => qm_l1 K ln pc nx
  | .ixor => qm_l1 K ln pc nx
  | .idiv => qm_l1 K ln pc nx
  | .irem => qm_l1 K ln pc nx
  | .ineg => qm_l1 K ln pc nx
  | .ishl => qm_l1 K ln pc nx
  | .ishr => qm_l1 K ln pc nx
  | .iushr => qm_l1 K ln pc nx
  | .land => qm_l1 K ln pc nx
  | .lor => qm_l1 K ln pc nx
  | .lshl => qm_l1 K ln pc nx
  | .i2l => qm_l1 K ln pc nx
  | .l2i => qm_l1 K ln pc nx
  | .i2b => qm_l1 K ln pc nx
  | .i2s => qm_l1 K ln pc nx
  | .i2c => qm_l1 K ln pc nx
  | .lcmp => qm_l1 K ln pc nx
  | .dup => qm_l1 K ln pc nx
  | .dup2 => qm_l1 K ln pc nx
  | .pop => qm_l1 K ln pc nx
  | .ifCond _ off => qm_l3 K ln pc nx && qm_tgt K ax pc off
  | .if_icmp _ off => qm_l3 K ln pc nx && qm_tgt K ax pc off
  | .goto off => Nat.beq ln 3 && qm_tgt K ax pc off
  | .tableswitch d lo hi offs => qm_tgt K ax pc d && decide (hi - lo + 1 = (offs.size : Int)) && qm_swc K pc lo offs.toList sw
  | .lookupswitch d ps => qm_tgt K ax pc d && (ps.toList.zip (ps.toList.drop 1)).all (fun (a, next) => a.1 < next.1) && qm_lsc K pc ps.toList sw
  | .getfield idx => qm_l3 K ln pc nx && (bif Nat.beq own 15 then dp.all (fun q => Nat.beq q.1 40) && qm_fs? own idx ax else dp.all (fun q => qm_fl? own idx q.1 ax))
  | .putfield idx => qm_l3 K ln pc nx && dp.all (fun q => qm_fl? own idx q.1 ax && qm_pf? q.1 ax q.2)
  | .iaload => qm_l1 K ln pc nx
  | .baload => qm_l1 K ln pc nx
  | .laload => qm_l1 K ln pc nx
  | .aaload => qm_l1 K ln pc nx
  | .iastore => qm_l1 K ln pc nx
  | .bastore => qm_l1 K ln pc nx
  | .lastore => qm_l1 K ln pc nx
  | .arraylength => qm_l1 K ln pc nx
  | .instanceof idx => qm_l3 K ln pc nx && (match qm_tb ax with
    | some (.classLink o i C) => decide (o = qm_oS own) && Nat.beq i idx && dp.all (qm_in? C)
    | _ => false)
  | .getstatic idx => qm_l3 K ln pc nx && (match dp with
    | (p, _) :: _ => bif Nat.beq ax 0 then decide (qm_tb p = some (.fieldLink (qm_oS own) idx "java/lang/String" "COMPACT_STRINGS" "Z")) else decide (qm_tb p = some (.fieldLink (qm_oS own) idx "jdk/internal/util/Preconditions" "SIOOBE_FORMATTER" "Ljava/util/function/BiFunction;"))
    | [] => false)
  | .invokevirtual idx => qm_l3 K ln pc nx && dp.all (fun q => qm_cv? own idx q.1 q.2 ax || qm_cu? own idx q.1 q.2 ax)
  | .invokespecial idx => Nat.beq ln 3 && dp.all (fun q => qm_nxt K nx pc 3 && qm_cp? own idx q.1 q.2 ax)
  | .invokestatic idx => Nat.beq ln 3 && (match dp with
    | [] => qm_nxt K nx pc 3 && decide (qm_tb ax = some (.methodLink (qm_oS own) idx arraycopyName))
    | (1, _) :: _ => qm_nxt K nx pc 3 && decide (qm_tb ax = some (.methodLink (qm_oS own) idx Lib.Math.max.name))
    | (2, _) :: _ => qm_nxt K nx pc 3 && decide (qm_tb ax = some (.methodLink (qm_oS own) idx Lib.Math.min.name))
    | (_, id) :: _ => Nat.beq id 9999 || (qm_nxt K nx pc 3 && qm_cs? own idx id ax))
  | .ireturn => Nat.beq ln 1 && decide (ret = some (qm_rt ax))
  | .lreturn => Nat.beq ln 1 && decide (ret = some .long)
  | .return_ => Nat.beq ln 1 && decide (ret = none)
  | _ => true
def qm_okE (own : Nat) (b : ByteArray) (ret : Option FieldType) (K : List (List qm_En)) (e : qm_En) : Bool := match e with
  | (ins, pc, nx, ax, kc, sw, dp) => match decode b pc with
    | .ok (i, ln) => decide (i = ins) && qm_chk own ret K ins ln pc nx ax kc sw dp
    | _ => false
def qm_okK (own : Nat) (b : ByteArray) (ret : Option FieldType) (K : List (List qm_En)) : Bool := Nat.beq (qm_pc K 0) 0 && K.all (fun l => l.all (qm_okE own b ret K))
def qm_zip : List qm_Mi → List (List (List qm_En)) → Prop
  | [], _ => True
  | (_, b, _, r, o, _, _) :: l, k :: ks => qm_okK o b r k = true ∧ qm_zip l ks
  | _ :: _, [] => False
