def kbn (id ln pc nx k : Nat) : Bool := Nat.beq ln k && Nat.beq (kbpc (kbK id) nx) (pc + k)
theorem kbn_e {id ln pc nx k : Nat} (h : kbn id ln pc nx k = true) : ln = k ∧ kbpc (kbK id) nx = pc + k := by
  unfold kbn at h
  rw [Bool.and_eq_true] at h
  exact ⟨Nat.beq_eq.mp h.1, Nat.beq_eq.mp h.2⟩
def kbtg (id pc ax : Nat) (off : Int) : Bool := decide ((pc : Int) + off = (kbpc (kbK id) ax : Int))
def kbTk (b : Bool) (d : String) (ci k : Nat) : Bool := match parseFieldDescriptor d with
  | some .int => b
  | some .boolean => b && ((Nat.beq ci 12 && Nat.beq k 42) || (Nat.beq ci 11 && Nat.beq k 4))
  | some (.object _) => !b
  | some (.array _) => !b
  | _ => false
def kbnb (ci k : Nat) : Option Bool := match (kb_nl ci)[k]? with
  | some none => some false
  | some (some (.inl x)) => if x = 0 then some true else none
  | _ => none
def kbcl (ci : Nat) : Bool := match vwCl[ci]? with
  | some (_, T, N) => Nat.beq (kb_nl ci).length N && (kb_nl ci).all (kb_okF 0) && (List.range N).all (fun k => match kbnb ci k with
    | some b => kbTk b (T k).2.2.1 ci k
    | none => false)
  | none => true
def kbFk (o idx k p ci : Nat) : Bool := match vwCl[ci]? with
  | some (_, T, N) => Nat.blt k N && decide (qm_tb p = some (.fieldLink (qm_oS o) idx (qm_oS o) (T k).2.1 (T k).2.2.1)) && decide ((T k).1 = qm_oS o)
  | none => false
def kbat (t : ArrayType) (K : Nat) : Bool := match t with
  | .int => Nat.beq K 20
  | .byte => Nat.beq K 21
  | .boolean => Nat.beq K 22
  | .long => Nat.beq K 23
  | _ => false
def kbCk (id : Nat) (ins : Instr) (ln pc nx ax : Nat) (kc : Int32) (w : List Nat) : Bool := match ins with
  | .iconst k => kbn id ln pc nx 1 && decide (Int32.ofInt k = kc)
  | .bipush k => kbn id ln pc nx 2 && decide ((Int8.ofInt k).toInt32 = kc)
  | .sipush k => kbn id ln pc nx 3 && decide ((Int16.ofInt k).toInt32 = kc)
  | .aload_n k => kbn id ln pc nx 1 && Nat.beq k.val ax
  | .iload_n k => kbn id ln pc nx 1 && Nat.beq k.val ax
  | .astore_n k => kbn id ln pc nx 1 && Nat.beq k.val ax
  | .istore_n k => kbn id ln pc nx 1 && Nat.beq k.val ax
  | .iinc k v => kbn id ln pc nx 3 && (Nat.beq k ax && decide (Int32.ofInt v = kc))
  | .dup => kbn id ln pc nx 1
  | .iastore => kbn id ln pc nx 1
  | .aastore => kbn id ln pc nx 1
  | .arraylength => kbn id ln pc nx 1
  | .return_ => Nat.beq ln 1
  | .goto off => Nat.beq ln 3 && kbtg id pc ax off
  | .if_icmp _ off => kbn id ln pc nx 3 && kbtg id pc ax off
  | .new idx => kbn id ln pc nx 3 && (match vwCl[kb_w w 3]? with
    | some (C, _, N) => decide (qm_tb (kb_w w 0) = some (.classLink (qm_oS (kbo id)) idx C)) && (decide (qm_tb (kb_w w 1) = some (.instantiable C N)) && (decide (qm_tb (kb_w w 2) = some (.initialized C)) && Nat.beq N (kb_w w 4)))
    | none => false)
  | .newarray t => kbn id ln pc nx 2 && (decide (qm_tb (kb_w w 0) = some (.arrayClass (newarray.typeOf t))) && kbat t (kb_w w 1))
  | .anewarray idx => kbn id ln pc nx 3 && ((Nat.beq (kb_w w 1) 24 && decide (qm_tb (kb_w w 0) = some (.classLink (qm_oS (kbo id)) idx "SnoozeRow$Sleeper"))) || (Nat.beq (kb_w w 1) 25 && decide (qm_tb (kb_w w 0) = some (.classLink (qm_oS (kbo id)) idx "SnoozeRow$Street"))))
  | .multianewarray idx d => kbn id ln pc nx 4 && (Nat.beq d 2 && decide (qm_tb (kb_w w 0) = some (.classLink (qm_oS (kbo id)) idx "[[J")))
  | .putfield idx => kbn id ln pc nx 3 && (!(Nat.beq id 11) && (w.drop 2).all (fun ci => kbFk (kbo id) idx (kb_w w 1) (kb_w w 0) ci && !(Nat.beq ci 11 && Nat.beq (kb_w w 1) 4)))
  | .getfield idx => kbn id ln pc nx 3 && (w.drop 2).all (kbFk (kbo id) idx (kb_w w 1) (kb_w w 0))
  | .invokespecial idx => kbn id ln pc nx 3 && (match w with
    | 0 :: p :: _ => decide (qm_tb p = some (.methodLink (qm_oS (kbo id)) idx Lib.objectInit))
    | 1 :: id' :: na :: p1 :: p2 :: _ => Nat.ble id' 13 && (!(Nat.beq id' 11) && (decide (qm_tb p1 = some (.methodLink (qm_oS (kbo id)) idx (kby id'))) && (decide (qm_tb p2 = some (.instanceMethod (kby id'))) && qm_ar (kby id').desc na)))
    | 2 :: id' :: na :: _ :: p2 :: _ => Nat.beq id' 0 && (Nat.beq (kbo id) 11 && (Nat.beq idx 11 && (decide (qm_tb p2 = some (.instanceMethod (kby id'))) && qm_ar (kby id').desc na)))
    | _ => false)
  | .invokestatic idx => kbn id ln pc nx 3 && (match w with
    | id' :: na :: p1 :: p2 :: _ => Nat.ble id' 13 && (decide (qm_tb p1 = some (.methodLink (qm_oS (kbo id)) idx (kby id'))) && (decide (qm_tb p2 = some (.static (kby id'))) && qm_ar (kby id').desc na))
    | _ => false)
  | _ => true
def kbOk (id : Nat) (e : kbI) : Bool := match e with
  | (ins, pc, nx, ax, kc, w) => match decode (kbc id) pc with
    | .ok (i, ln) => decide (i = ins) && kbCk id ins ln pc nx ax kc w
    | _ => false
set_option maxRecDepth 100000 in
theorem kb_cls_ok : (List.range 13).all kbcl = true := by decide +kernel
set_option maxRecDepth 100000 in
theorem kb_chk_0 : (kbK 0).all (kbOk 0) = true := by decide +kernel
set_option maxRecDepth 100000 in
theorem kb_chk_1 : (kbK 1).all (kbOk 1) = true := by decide +kernel
set_option maxRecDepth 100000 in
theorem kb_chk_2 : (kbK 2).all (kbOk 2) = true := by decide +kernel
set_option maxRecDepth 100000 in
theorem kb_chk_3 : (kbK 3).all (kbOk 3) = true := by decide +kernel
set_option maxRecDepth 100000 in
theorem kb_chk_4 : (kbK 4).all (kbOk 4) = true := by decide +kernel
set_option maxRecDepth 100000 in
theorem kb_chk_5 : (kbK 5).all (kbOk 5) = true := by decide +kernel
set_option maxRecDepth 100000 in
theorem kb_chk_6 : (kbK 6).all (kbOk 6) = true := by decide +kernel
set_option maxRecDepth 100000 in
theorem kb_chk_7 : (kbK 7).all (kbOk 7) = true := by decide +kernel
set_option maxRecDepth 100000 in
theorem kb_chk_8 : (kbK 8).all (kbOk 8) = true := by decide +kernel
set_option maxRecDepth 100000 in
theorem kb_chk_9 : (kbK 9).all (kbOk 9) = true := by decide +kernel
set_option maxRecDepth 100000 in
theorem kb_chk_10 : (kbK 10).all (kbOk 10) = true := by decide +kernel
set_option maxRecDepth 100000 in
theorem kb_chk_11 : (kbK 11).all (kbOk 11) = true := by decide +kernel
set_option maxRecDepth 100000 in
theorem kb_chk_12 : (kbK 12).all (kbOk 12) = true := by decide +kernel
set_option maxRecDepth 100000 in
theorem kb_chk_13 : (kbK 13).all (kbOk 13) = true := by decide +kernel
theorem kb_chk {id : Nat} (h : id ≤ 13) : (kbK id).all (kbOk id) = true := by
  match id, h with
  | 0, _ => exact kb_chk_0
  | 1, _ => exact kb_chk_1
  | 2, _ => exact kb_chk_2
  | 3, _ => exact kb_chk_3
  | 4, _ => exact kb_chk_4
  | 5, _ => exact kb_chk_5
  | 6, _ => exact kb_chk_6
  | 7, _ => exact kb_chk_7
  | 8, _ => exact kb_chk_8
  | 9, _ => exact kb_chk_9
  | 10, _ => exact kb_chk_10
  | 11, _ => exact kb_chk_11
  | 12, _ => exact kb_chk_12
  | 13, _ => exact kb_chk_13
  | k + 14, h => omega
def kbiT (id : Nat) : Prop := qm_tb (kbp id).1 = some (.code (kby id) (kbc id) (kbN id) none) ∧ qm_tb (kbp id).2 = some (.initialized (kby id).cls) ∧ plainName (kby id).cls = true ∧ (kby id).cls = qm_oS (kbo id) ∧ ((kby id).cls ≠ "java/lang/invoke/MethodHandle" ∧ (kby id).cls ≠ "java/lang/invoke/VarHandle") ∧ kbN id ≤ 21 ∧ kbpc (kbK id) 0 = 0 ∧ (id ≠ 11 → (kby id).name = "<init>")
set_option maxRecDepth 100000 in
theorem kb_id_0 : kbiT 0 := ⟨rfl, by decide +kernel, by decide +kernel, by decide +kernel, by decide +kernel, by decide +kernel, by decide +kernel, by decide +kernel⟩
set_option maxRecDepth 100000 in
theorem kb_id_1 : kbiT 1 := ⟨rfl, by decide +kernel, by decide +kernel, by decide +kernel, by decide +kernel, by decide +kernel, by decide +kernel, by decide +kernel⟩
set_option maxRecDepth 100000 in
theorem kb_id_2 : kbiT 2 := ⟨rfl, by decide +kernel, by decide +kernel, by decide +kernel, by decide +kernel, by decide +kernel, by decide +kernel, by decide +kernel⟩
set_option maxRecDepth 100000 in
theorem kb_id_3 : kbiT 3 := ⟨rfl, by decide +kernel, by decide +kernel, by decide +kernel, by decide +kernel, by decide +kernel, by decide +kernel, by decide +kernel⟩
set_option maxRecDepth 100000 in
theorem kb_id_4 : kbiT 4 := ⟨rfl, by decide +kernel, by decide +kernel, by decide +kernel, by decide +kernel, by decide +kernel, by decide +kernel, by decide +kernel⟩
set_option maxRecDepth 100000 in
theorem kb_id_5 : kbiT 5 := ⟨rfl, by decide +kernel, by decide +kernel, by decide +kernel, by decide +kernel, by decide +kernel, by decide +kernel, by decide +kernel⟩
set_option maxRecDepth 100000 in
theorem kb_id_6 : kbiT 6 := ⟨rfl, by decide +kernel, by decide +kernel, by decide +kernel, by decide +kernel, by decide +kernel, by decide +kernel, by decide +kernel⟩
set_option maxRecDepth 100000 in
theorem kb_id_7 : kbiT 7 := ⟨rfl, by decide +kernel, by decide +kernel, by decide +kernel, by decide +kernel, by decide +kernel, by decide +kernel, by decide +kernel⟩
set_option maxRecDepth 100000 in
theorem kb_id_8 : kbiT 8 := ⟨rfl, by decide +kernel, by decide +kernel, by decide +kernel, by decide +kernel, by decide +kernel, by decide +kernel, by decide +kernel⟩
set_option maxRecDepth 100000 in
theorem kb_id_9 : kbiT 9 := ⟨rfl, by decide +kernel, by decide +kernel, by decide +kernel, by decide +kernel, by decide +kernel, by decide +kernel, by decide +kernel⟩
set_option maxRecDepth 100000 in
theorem kb_id_10 : kbiT 10 := ⟨rfl, by decide +kernel, by decide +kernel, by decide +kernel, by decide +kernel, by decide +kernel, by decide +kernel, by decide +kernel⟩
set_option maxRecDepth 100000 in
theorem kb_id_11 : kbiT 11 := ⟨rfl, by decide +kernel, by decide +kernel, by decide +kernel, by decide +kernel, by decide +kernel, by decide +kernel, by decide +kernel⟩
set_option maxRecDepth 100000 in
theorem kb_id_12 : kbiT 12 := ⟨rfl, by decide +kernel, by decide +kernel, by decide +kernel, by decide +kernel, by decide +kernel, by decide +kernel, by decide +kernel⟩
set_option maxRecDepth 100000 in
theorem kb_id_13 : kbiT 13 := ⟨rfl, by decide +kernel, by decide +kernel, by decide +kernel, by decide +kernel, by decide +kernel, by decide +kernel, by decide +kernel⟩
theorem kb_id {id : Nat} (h : id ≤ 13) : kbiT id := by
  match id, h with
  | 0, _ => exact kb_id_0
  | 1, _ => exact kb_id_1
  | 2, _ => exact kb_id_2
  | 3, _ => exact kb_id_3
  | 4, _ => exact kb_id_4
  | 5, _ => exact kb_id_5
  | 6, _ => exact kb_id_6
  | 7, _ => exact kb_id_7
  | 8, _ => exact kb_id_8
  | 9, _ => exact kb_id_9
  | 10, _ => exact kb_id_10
  | 11, _ => exact kb_id_11
  | 12, _ => exact kb_id_12
  | 13, _ => exact kb_id_13
  | k + 14, h => omega
theorem kb_oi : Cond.instanceMethod Lib.objectInit ∈ qm_gt ∧ Cond.code Lib.objectInit ⟨#[0xb1]⟩ 1 none ∈ qm_gt := ⟨qm_gt_tb (p := 29) (by decide +kernel) rfl, qm_gt_tb (p := 30) rfl rfl⟩
theorem kb_fd {ci : Nat} {C : String} {T : u_T} {N : Nat} (h : vwCl[ci]? = some (C, T, N)) : (kb_nl ci).length = N ∧ (kb_nl ci).all (kb_okF 0) = true ∧ ∀ k, k < N → ∃ b, kbnb ci k = some b ∧ kbTk b (T k).2.2.1 ci k = true := by
  have hlt : ci < 13 := by have := (qm_cls h).2.2.2.1; omega
  have h2 := List.all_eq_true.mp kb_cls_ok ci (List.mem_range.mpr hlt)
  unfold kbcl at h2
  rw [h] at h2
  simp only [Bool.and_eq_true] at h2
  obtain ⟨⟨h3, h4⟩, h5⟩ := h2
  refine ⟨Nat.beq_eq.mp h3, h4, fun k hk => ?_⟩
  have h6 := List.all_eq_true.mp h5 k (List.mem_range.mpr hk)
  cases hb : kbnb ci k with
  | none => rw [hb] at h6; cases h6
  | some b => rw [hb] at h6; exact ⟨b, rfl, h6⟩
theorem kbnb_e {ci k : Nat} {b : Bool} (h : kbnb ci k = some b) : (b = false ∧ (kb_nl ci)[k]? = some none) ∨ (b = true ∧ (kb_nl ci)[k]? = some (some (.inl 0))) := by
  unfold kbnb at h
  split at h
  · rename_i e; cases h; exact Or.inl ⟨rfl, e⟩
  · rename_i x e
    by_cases hx : x = 0
    · rw [if_pos hx] at h; cases h; subst hx; exact Or.inr ⟨rfl, e⟩
    · rw [if_neg hx] at h; cases h
  · cases h
theorem kbTk_e {b : Bool} {d : String} {ci k : Nat} (h : kbTk b d ci k = true) : ∃ ft, parseFieldDescriptor d = some ft ∧ ((b = true ∧ ft = .int) ∨ (b = true ∧ ft = .boolean ∧ ((ci = 12 ∧ k = 42) ∨ (ci = 11 ∧ k = 4))) ∨ (b = false ∧ ∃ C, ft = .object C) ∨ (b = false ∧ ∃ t, ft = .array t)) := by
  unfold kbTk at h
  split at h
  · rename_i e
    exact ⟨_, e, Or.inl ⟨h, rfl⟩⟩
  · rename_i e
    simp only [Bool.and_eq_true, Bool.or_eq_true, Nat.beq_eq] at h
    exact ⟨_, e, Or.inr (Or.inl ⟨h.1, rfl, h.2⟩)⟩
  · rename_i C e
    refine ⟨_, e, Or.inr (Or.inr (Or.inl ⟨?_, C, rfl⟩))⟩
    cases b
    · rfl
    · cases h
  · rename_i C e
    refine ⟨_, e, Or.inr (Or.inr (Or.inr ⟨?_, C, rfl⟩))⟩
    cases b
    · rfl
    · cases h
  · cases h
theorem kb_def {ci : Nat} {C : String} {T : u_T} {N : Nat} (h : vwCl[ci]? = some (C, T, N)) {ty : Nat → FieldType} (hty : ∀ k, k < N → parseFieldDescriptor (T k).2.2.1 = some (ty k)) : ∀ j, j < N → defaultValue (ty j) = vp_V ((kb_nl ci).map (kvF [])) j := by
  intro j hj
  obtain ⟨-, -, h3⟩ := kb_fd h
  obtain ⟨b, h4, h5⟩ := h3 j hj
  obtain ⟨ft, h6, h7⟩ := kbTk_e h5
  have e : ty j = ft := Option.some.inj ((hty j hj).symm.trans h6)
  rw [e]
  unfold vp_V
  rw [List.getD_eq_getElem?_getD, List.getElem?_map]
  rcases kbnb_e h4 with ⟨rfl, e9⟩ | ⟨rfl, e9⟩ <;> rw [e9]
  · rcases h7 with ⟨q, -⟩ | ⟨q, -⟩ | ⟨-, C, rfl⟩ | ⟨-, t, rfl⟩
    · cases q
    · cases q
    · rfl
    · rfl
  · rcases h7 with ⟨-, rfl⟩ | ⟨-, rfl, -⟩ | ⟨q, -⟩ | ⟨q, -⟩
    · rfl
    · rfl
    · cases q
    · cases q
theorem kb_nl_kv {ci : Nat} (h : (kb_nl ci).all (kb_okF 0) = true) (ad : List Nat) : (kb_nl ci).map (kvF ad) = (kb_nl ci).map (kvF []) :=
  List.map_congr_left (fun v hv => kvF_app (ad := []) (qs := ad) (n := 0) (Nat.le_refl 0) (List.all_eq_true.mp h v hv))
theorem kbat_e {t : ArrayType} {K : Nat} (h : kbat t K = true) (ty : Nat → ClassId) (N : Nat) : ∃ (j : Nat) (ft : FieldType) (a0 : vp_A), newarray.typeOf t = ft ∧ (kbT ty)[j]? = some (ty K, ft) ∧ componentBytes ft ≤ 8 ∧ (∀ cA : ClassId, vp_cell cA a0 = arrV cA N (fun _ => defaultValue ft)) ∧ (∀ ad : List Nat, kbE ty ad (.inr (K, N, [], [])) = .inl (ty K, a0)) ∧ (∀ (U : State) (cA cB : ClassId), va_RA U cA ft → va_RA U cB ft → cA = cB) := by
  unfold kbat at h
  split at h
  · have := Nat.beq_eq.mp h
    subst this
    exact ⟨0, .int, (N, .inl (fun _ => 0)), rfl, rfl, by decide, fun _ => rfl, fun _ => rfl, fun U a b h1 h2 => Option.some.inj (h1.symm.trans h2)⟩
  · have := Nat.beq_eq.mp h
    subst this
    exact ⟨1, .byte, (N, .inl (fun _ => 0)), rfl, rfl, by decide, fun _ => rfl, fun _ => rfl, fun U a b h1 h2 => Option.some.inj (h1.symm.trans h2)⟩
  · have := Nat.beq_eq.mp h
    subst this
    exact ⟨2, .boolean, (N, .inl (fun _ => 0)), rfl, rfl, by decide, fun _ => rfl, fun _ => rfl, fun U a b h1 h2 => Option.some.inj (h1.symm.trans h2)⟩
  · have := Nat.beq_eq.mp h
    subst this
    exact ⟨3, .long, (N, .inr (.inl (fun _ => 0))), rfl, rfl, by decide, fun _ => rfl, fun _ => rfl, fun U a b h1 h2 => Option.some.inj (h1.symm.trans h2)⟩
  · cases h
theorem kbFk_e {o idx k p ci : Nat} (h : kbFk o idx k p ci = true) : ∃ C T N, vwCl[ci]? = some (C, T, N) ∧ k < N ∧ Cond.fieldLink (qm_oS o) idx (qm_oS o) (T k).2.1 (T k).2.2.1 ∈ qm_gt ∧ (T k).1 = qm_oS o := by
  unfold kbFk at h
  split at h
  · rename_i C T N hc
    simp only [Bool.and_eq_true, Nat.blt_eq, decide_eq_true_eq] at h
    exact ⟨C, T, N, hc, h.1.1, qm_gt_tb h.1.2 rfl, h.2⟩
  · cases h
