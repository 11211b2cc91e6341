abbrev qm_Sg : Type := (Nat → Nat → Nat → Int32) × (Nat → Nat → Nat → Int64)
abbrev qm_AV : Type := (Int32 ⊕ Int64) ⊕ (Nat × Nat)
abbrev vI (x : Int32) : qm_AV := .inl (.inl x)
abbrev vL (x : Int64) : qm_AV := .inl (.inr x)
abbrev vR (t i : Nat) : qm_AV := .inr (t, i)
abbrev qm_Lo : Type := List (Option qm_AV)
abbrev qm_En : Type := Instr × Nat × Nat × Nat × Int32 × List (Int32 × Nat) × List (Nat × Nat)
abbrev qm_Po : Type := qm_Sg → Option qm_AV → Prop
abbrev qm_Ca : Type := Nat → List qm_AV → qm_Sg → qm_Po → Prop
abbrev qm_St : Type := Nat → qm_Lo → List qm_AV → qm_Sg → Prop
def wF (σ : qm_Sg) (t i : Nat) (f : Nat → Int32) : qm_Sg := (fun a b => if a = t then (if b = i then f else σ.1 a b) else σ.1 a b, σ.2)
def wG (σ : qm_Sg) (t i : Nat) (f : Nat → Int64) : qm_Sg := (σ.1, fun a b => if a = t then (if b = i then f else σ.2 a b) else σ.2 a b)
def qm_nth (K : List (List qm_En)) (n : Nat) : Option qm_En := match qm_nt K (n / 10) with
  | some l => qm_nt l (n % 10)
  | none => none
def qm_pc (K : List (List qm_En)) (n : Nat) : Nat := match qm_nth K n with
  | some e => e.2.1
  | none => 0
def qm_ld : qm_Lo → Nat → (qm_AV → Prop) → Prop
  | [], _, _ => False
  | none :: _, 0, _ => False
  | some v :: _, 0, k => k v
  | _ :: l, n + 1, k => qm_ld l n k
def qm_ldI (L : qm_Lo) (n : Nat) (k : Int32 → Prop) : Prop := qm_ld L n (fun v => match v with
  | .inl (.inl x) => k x
  | _ => False)
def qm_ldL (L : qm_Lo) (n : Nat) (k : Int64 → Prop) : Prop := qm_ld L n (fun v => match v with
  | .inl (.inr x) => k x
  | _ => False)
def qm_ldR (L : qm_Lo) (n : Nat) (k : Nat → Nat → Prop) : Prop := qm_ld L n (fun v => match v with
  | .inr (t, i) => k t i
  | _ => False)
def qm_st : qm_Lo → Nat → qm_AV → (qm_Lo → Prop) → Prop
  | [], _, _, _ => False
  | _ :: l, 0, v, k => k (some v :: l)
  | some (.inl (.inr _)) :: _, 1, _, _ => False
  | a :: l, n + 1, v, k => qm_st l n v (fun l' => k (a :: l'))
def qm_p1 (st : List qm_AV) (k : Int32 → List qm_AV → Prop) : Prop := match st with
  | .inl (.inl a) :: r => k a r
  | _ => False
def qm_p2 (st : List qm_AV) (k : Int32 → Int32 → List qm_AV → Prop) : Prop := match st with
  | .inl (.inl b) :: .inl (.inl a) :: r => k a b r
  | _ => False
def qm_q1 (st : List qm_AV) (k : Int64 → List qm_AV → Prop) : Prop := match st with
  | .inl (.inr a) :: r => k a r
  | _ => False
def qm_q2 (st : List qm_AV) (k : Int64 → Int64 → List qm_AV → Prop) : Prop := match st with
  | .inl (.inr b) :: .inl (.inr a) :: r => k a b r
  | _ => False
def qm_pR (st : List qm_AV) (k : Nat → Nat → List qm_AV → Prop) : Prop := match st with
  | .inr (t, i) :: r => k t i r
  | _ => False
def qm_pV (st : List qm_AV) (k : Nat → Nat → Int32 → List qm_AV → Prop) : Prop := match st with
  | .inl (.inl x) :: .inr (t, i) :: r => k t i x r
  | _ => False
def qm_pW (st : List qm_AV) (k : Nat → Nat → Int32 → Int32 → List qm_AV → Prop) : Prop := match st with
  | .inl (.inl y) :: .inl (.inl x) :: .inr (t, i) :: r => k t i x y r
  | _ => False
def qm_pX (st : List qm_AV) (k : Nat → Nat → Int32 → Int64 → List qm_AV → Prop) : Prop := match st with
  | .inl (.inr y) :: .inl (.inl x) :: .inr (t, i) :: r => k t i x y r
  | _ => False
def qm_dsp : List (Nat × Nat) → Nat → (Nat → Prop) → Prop
  | [], _, _ => False
  | (a, b) :: l, c, k => bif Nat.beq a c then k b else qm_dsp l c k
def qm_sw : List (Int32 × Nat) → Int32 → (Nat → Prop) → Prop → Prop
  | [], _, _, d => d
  | (v, t) :: l, x, k, d => (x = v → k t) ∧ (¬ x = v → qm_sw l x k d)
def qm_pop : Nat → List qm_AV → List qm_AV → (List qm_AV → List qm_AV → Prop) → Prop
  | 0, st, acc, k => k acc st
  | n + 1, v :: st, acc, k => qm_pop n st (v :: acc) k
  | _ + 1, [], _, _ => False
def qm_cat (v : qm_AV) : Nat := match v with
  | .inl (.inr _) => 2
  | _ => 1
def qm_cs : List qm_AV → Nat
  | [] => 0
  | v :: l => qm_cat v + qm_cs l
def qm_psh (v : Option qm_AV) (st : List qm_AV) : List qm_AV := match v with
  | some x => x :: st
  | none => st
def qm_op (o : Option (Nat × Nat)) (k : Nat × Nat → Prop) (d : Prop) : Prop := match o with
  | some q => k q
  | none => d
def qm_ex (n : Nat) (x : Int32) (k : Nat → Prop) : Prop := ∃ j : Nat, (x = nI j ∧ j < n) ∧ k j
def qm_cp (a b n : Int32) (m m' : Nat) (k : Nat → Nat → Nat → Prop) : Prop := ∃ a' b' n' : Nat, (a = nI a' ∧ b = nI b' ∧ n = nI n' ∧ a' + n' ≤ m ∧ b' + n' ≤ m') ∧ k a' b' n'
def qm_lc (n : Nat) : Int64 := bif Nat.beq n 0 then 0 else bif Nat.beq n 1 then 1 else bif Nat.beq n 2 then 4294967295 else (-9223372036854775808)
def qm_rt (n : Nat) : FieldType := bif Nat.beq n 0 then .int else bif Nat.beq n 1 then .boolean else bif Nat.beq n 2 then .byte else .char
def qm_nar (n : Nat) (x : Int32) (X : Prop) : Prop := bif Nat.beq n 0 then X else (narrow (qm_rt n) (.int x) = .int x ∧ X)
def qm_stp (C : qm_Ca) (Q : qm_Po) (P : qm_St) (e : qm_En) (L : qm_Lo) (st : List qm_AV) (σ : qm_Sg) : Prop :=
  match e with
  | (ins, _, nx, ax, kc, sw, dp) =>
  match ins with
  | .iconst _ => P nx L (vI kc :: st) σ
  | .bipush _ => P nx L (vI kc :: st) σ
  | .sipush _ => P nx L (vI kc :: st) σ
  | .ldc_w _ => P nx L (vI kc :: st) σ
  | .lconst _ => P nx L (vL (qm_lc ax) :: st) σ
  | .ldc2_w _ => P nx L (vL (qm_lc ax) :: st) σ
  | .ldc _ => P nx L (vR 101 ax :: st) σ
  | .iload_n _ => qm_ldI L ax (fun x => P nx L (vI x :: st) σ)
  | .iload _ => qm_ldI L ax (fun x => P nx L (vI x :: st) σ)
  | .lload_n _ => qm_ldL L ax (fun x => P nx L (vL x :: st) σ)
  | .aload_n _ => qm_ldR L ax (fun t i => bif Nat.beq t 105 then False else P nx L (vR t i :: st) σ)
  | .aload _ => qm_ldR L ax (fun t i => bif Nat.beq t 105 then False else P nx L (vR t i :: st) σ)
  | .istore_n _ => qm_p1 st (fun x r => qm_st L ax (vI x) (fun L' => P nx L' r σ))
  | .istore _ => qm_p1 st (fun x r => qm_st L ax (vI x) (fun L' => P nx L' r σ))
  | .astore_n _ => qm_pR st (fun t i r => bif Nat.beq t 105 then False else qm_st L ax (vR t i) (fun L' => P nx L' r σ))
  | .astore _ => qm_pR st (fun t i r => bif Nat.beq t 105 then False else qm_st L ax (vR t i) (fun L' => P nx L' r σ))
  | .iinc _ _ => qm_ldI L ax (fun x => qm_st L ax (vI (x + kc)) (fun L' => P nx L' st σ))
  | .iadd => qm_p2 st (fun a b r => P nx L (vI (a + b) :: r) σ)
  | .isub => qm_p2 st (fun a b r => P nx L (vI (a - b) :: r) σ)
  | .imul => qm_p2 st (fun a b r => P nx L (vI (a * b) :: r) σ)
  | .iand => qm_p2 st (fun a b r => P nx L (vI (a &&& b) :: r) σ)
  | .ior => qm_p2 st (fun a b r => P nx L (vI (a ||| b) :: r) σ)
  | .ixor => qm_p2 st (fun a b r => P nx L (vI (a ^^^ b) :: r) σ)
  | .idiv => qm_p2 st (fun a b r => ¬ b = 0 ∧ P nx L (vI (a / b) :: r) σ)
  | .irem => qm_p2 st (fun a b r => ¬ b = 0 ∧ P nx L (vI (a - a / b * b) :: r) σ)
  | .ineg => qm_p1 st (fun a r => P nx L (vI (-a) :: r) σ)
  | .ishl => qm_p2 st (fun a b r => P nx L (vI (a <<< (b &&& 31)) :: r) σ)
  | .ishr => qm_p2 st (fun a b r => P nx L (vI (a >>> (b &&& 31)) :: r) σ)
  | .iushr => qm_p2 st (fun a b r => P nx L (vI (a.toUInt32 >>> (b.toUInt32 &&& Int32.toUInt32 31)).toInt32 :: r) σ)
  | .land => qm_q2 st (fun a b r => P nx L (vL (a &&& b) :: r) σ)
  | .lor => qm_q2 st (fun a b r => P nx L (vL (a ||| b) :: r) σ)
  | .lshl => qm_p1 st (fun b r => qm_q1 r (fun a r' => P nx L (vL (a <<< (b.toInt64 &&& 63)) :: r') σ))
  | .i2l => qm_p1 st (fun a r => P nx L (vL a.toInt64 :: r) σ)
  | .l2i => qm_q1 st (fun a r => P nx L (vI a.toInt32 :: r) σ)
  | .i2b => qm_p1 st (fun a r => P nx L (vI a.toInt8.toInt32 :: r) σ)
  | .i2s => qm_p1 st (fun a r => P nx L (vI a.toInt16.toInt32 :: r) σ)
  | .i2c => qm_p1 st (fun a r => P nx L (vI (a.toUInt32 % 65536).toInt32 :: r) σ)
  | .lcmp => qm_q2 st (fun a b r => P nx L (vI (lg_cmp a b) :: r) σ)
  | .dup => match st with
    | v :: r => bif Nat.beq (qm_cat v) 1 then P nx L (v :: v :: r) σ else False
    | [] => False
  | .dup2 => match st with
    | v :: w :: r => bif Nat.beq (qm_cat v) 1 && Nat.beq (qm_cat w) 1 then P nx L (v :: w :: v :: w :: r) σ else False
    | _ => False
  | .pop => match st with
    | v :: r => bif Nat.beq (qm_cat v) 1 then P nx L r σ else False
    | [] => False
  | .ifCond .eq _ => qm_p1 st (fun x r => (x = 0 → P ax L r σ) ∧ (¬ x = 0 → P nx L r σ))
  | .ifCond .ne _ => qm_p1 st (fun x r => (¬ x = 0 → P ax L r σ) ∧ (x = 0 → P nx L r σ))
  | .ifCond .lt _ => qm_p1 st (fun x r => (x < 0 → P ax L r σ) ∧ (¬ x < 0 → P nx L r σ))
  | .ifCond .ge _ => qm_p1 st (fun x r => (0 ≤ x → P ax L r σ) ∧ (¬ 0 ≤ x → P nx L r σ))
  | .ifCond .gt _ => qm_p1 st (fun x r => (0 < x → P ax L r σ) ∧ (¬ 0 < x → P nx L r σ))
  | .ifCond .le _ => qm_p1 st (fun x r => (x ≤ 0 → P ax L r σ) ∧ (¬ x ≤ 0 → P nx L r σ))
  | .if_icmp .eq _ => qm_p2 st (fun x y r => (x = y → P ax L r σ) ∧ (¬ x = y → P nx L r σ))
  | .if_icmp .ne _ => qm_p2 st (fun x y r => (¬ x = y → P ax L r σ) ∧ (x = y → P nx L r σ))
  | .if_icmp .lt _ => qm_p2 st (fun x y r => (x < y → P ax L r σ) ∧ (¬ x < y → P nx L r σ))
  | .if_icmp .ge _ => qm_p2 st (fun x y r => (y ≤ x → P ax L r σ) ∧ (¬ y ≤ x → P nx L r σ))
  | .if_icmp .gt _ => qm_p2 st (fun x y r => (y < x → P ax L r σ) ∧ (¬ y < x → P nx L r σ))
  | .if_icmp .le _ => qm_p2 st (fun x y r => (x ≤ y → P ax L r σ) ∧ (¬ x ≤ y → P nx L r σ))
  | .goto _ => P ax L st σ
  | .tableswitch _ _ _ _ => qm_p1 st (fun x r => qm_sw sw x (fun n => P n L r σ) (P ax L r σ))
  | .lookupswitch _ _ => qm_p1 st (fun x r => qm_sw sw x (fun n => P n L r σ) (P ax L r σ))
  | .getfield _ => qm_pR st (fun t i r => qm_dsp dp (qm_cK t) (fun _ => qm_op (qm_cR t i ax) (fun q => P nx L (.inr q :: r) σ) (P nx L (vI (σ.1 t i ax) :: r) σ)))
  | .putfield _ => qm_pV st (fun t i x r => qm_dsp dp (qm_cK t) (fun f => qm_op (qm_cR t i ax) (fun _ => False) (qm_nar f x (P nx L r (wF σ t i (upd (σ.1 t i) ax x))))))
  | .iaload => qm_pV st (fun t i x r => bif Nat.beq (qm_cK t) 20 then qm_ex (qm_cN t i) x (fun j => P nx L (vI (σ.1 t i j) :: r) σ)
      else bif Nat.beq (qm_cK t) 28 then qm_ex (σ.1 100 1 0).toNatClampNeg x (fun j => P nx L (vI (σ.1 100 0 j) :: r) σ) else False)
  | .baload => qm_pV st (fun t i x r => bif Nat.beq (qm_cK t) 21 || Nat.beq (qm_cK t) 22 || Nat.beq (qm_cK t) 27 then qm_ex (qm_cN t i) x (fun j => P nx L (vI (σ.1 t i j) :: r) σ) else False)
  | .laload => qm_pV st (fun t i x r => bif Nat.beq (qm_cK t) 23 then qm_ex (qm_cN t i) x (fun j => P nx L (vL (σ.2 t i j) :: r) σ) else False)
  | .aaload => qm_pV st (fun t i x r => bif Nat.beq (qm_cK t) 24 || Nat.beq (qm_cK t) 25 || Nat.beq (qm_cK t) 26 then qm_ex (qm_cN t i) x (fun j => qm_op (qm_cR t i j) (fun q => P nx L (.inr q :: r) σ) False) else False)
  | .iastore => qm_pW st (fun t i x y r => bif Nat.beq (qm_cK t) 20 then qm_ex (qm_cN t i) x (fun j => P nx L r (wF σ t i (upd (σ.1 t i) j y))) else False)
  | .bastore => qm_pW st (fun t i x y r => bif Nat.beq (qm_cK t) 21 then qm_ex (qm_cN t i) x (fun j => P nx L r (wF σ t i (upd (σ.1 t i) j (vp_nar .byte y))))
      else bif Nat.beq (qm_cK t) 22 then qm_ex (qm_cN t i) x (fun j => P nx L r (wF σ t i (upd (σ.1 t i) j (vp_nar .boolean y)))) else False)
  | .lastore => qm_pX st (fun t i x y r => bif Nat.beq (qm_cK t) 23 then qm_ex (qm_cN t i) x (fun j => P nx L r (wG σ t i (vp_updL (σ.2 t i) j y))) else False)
  | .arraylength => qm_pR st (fun t i r => bif Nat.ble (qm_cK t) 19 then False else bif Nat.ble (qm_cK t) 27 then P nx L (vI (nI (qm_cN t i)) :: r) σ
      else bif Nat.beq (qm_cK t) 28 then P nx L (vI (σ.1 100 1 0) :: r) σ else False)
  | .instanceof _ => qm_pR st (fun t _ r => qm_dsp dp (qm_cK t) (fun f => P nx L (vI (bif Nat.beq f 1 then 1 else 0) :: r) σ))
  | .getstatic _ => bif Nat.beq ax 0 then P nx L (vI 1 :: st) σ else P nx L (vR 105 0 :: st) σ
  | .invokevirtual _ => qm_pop ax st [] (fun as r => match as with
    | .inr (t, _) :: _ => qm_dsp dp (qm_cK t) (fun id => bif Nat.ble (qm_cs r) 8 then C id as σ (fun σ' v => P nx L (qm_psh v r) σ') else False)
    | _ => False)
  | .invokespecial _ => qm_pop ax st [] (fun as r => match as with
    | .inr (t, _) :: _ => qm_dsp dp (qm_cK t) (fun id => bif Nat.ble (qm_cs r) 8 then C id as σ (fun σ' v => P nx L (qm_psh v r) σ') else False)
    | _ => False)
  | .invokestatic _ => match dp with
    | [] => match st with
      | .inl (.inl n) :: .inl (.inl b) :: .inr (t', i') :: .inl (.inl a) :: .inr (t, i) :: r => bif Nat.ble (qm_cs r) 8 then
          (bif Nat.beq (qm_cK t) 20 && Nat.beq (qm_cK t') 20 then qm_cp a b n (qm_cN t i) (qm_cN t' i') (fun a' b' n' => P nx L r (wF σ t' i' (va_cpy (σ.1 t i) (σ.1 t' i') a' b' n')))
          else bif Nat.beq (qm_cK t) 23 && Nat.beq (qm_cK t') 23 then qm_cp a b n (qm_cN t i) (qm_cN t' i') (fun a' b' n' => P nx L r (wG σ t' i' (va_cpy (σ.2 t i) (σ.2 t' i') a' b' n')))
          else False) else False
      | _ => False
    | (1, _) :: _ => qm_p2 st (fun x y r => bif Nat.ble (qm_cs r) 8 then P nx L (vI (if x < y then y else x) :: r) σ else False)
    | (2, _) :: _ => qm_p2 st (fun x y r => bif Nat.ble (qm_cs r) 8 then P nx L (vI (if y < x then y else x) :: r) σ else False)
    | (_, id) :: _ => bif Nat.beq id 9999 then False else qm_pop ax st [] (fun as r => bif Nat.ble (qm_cs r) 8 then C id as σ (fun σ' v => P nx L (qm_psh v r) σ') else False)
  | .ireturn => match st with
    | [.inl (.inl x)] => qm_nar ax x (Q σ (some (vI x)))
    | _ => False
  | .lreturn => match st with
    | [.inl (.inr x)] => Q σ (some (vL x))
    | _ => False
  | .return_ => match st with
    | [] => Q σ none
    | _ => False
  | _ => False
def qm_F (C : qm_Ca) (K : List (List qm_En)) (Q : qm_Po) (P : qm_St) : qm_St := fun n L st σ => match qm_nth K n with
  | some e => qm_stp C Q P e L st σ
  | none => False
def qm_Wp (C : qm_Ca) (K : List (List qm_En)) (Q : qm_Po) : qm_St := fun n L st σ => ∀ P : qm_St, (∀ n L st σ, qm_F C K Q P n L st σ → P n L st σ) → P n L st σ
def qm_Fn (C : qm_Ca) (K : List (List qm_En)) (Q : qm_Po) (P : qm_St) : Nat → qm_St
  | 0 => P
  | k + 1 => qm_F C K Q (qm_Fn C K Q P k)
