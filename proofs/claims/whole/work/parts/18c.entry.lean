def kbip : List Nat := [87, 79, 162, 71, 95, 103, 49, 168, 120, 111, 32, 24, 838]
def kbic (ci : Nat) : Bool := match vwCl[ci]? with
  | some (C, _, N) => decide (qm_tb (kbip.getD ci 0) = some (.instantiable C N))
  | none => false
set_option maxRecDepth 100000 in
theorem kbic_ok : (List.range 13).all kbic = true := by decide +kernel
theorem kb_inst {ci : Nat} {C : String} {T : u_T} {N : Nat} (h : vwCl[ci]? = some (C, T, N)) : Cond.instantiable C N ∈ qm_gt := by
  have hlt : ci < 13 := by have := (qm_cls h).2.2.2.1; omega
  have h2 := List.all_eq_true.mp kbic_ok ci (List.mem_range.mpr hlt)
  unfold kbic at h2
  rw [h] at h2
  exact qm_gt_tb (of_decide_eq_true h2) rfl
set_option maxRecDepth 100000 in
theorem kb_CTw : ∀ q ∈ qm_CT, qm_tb q.2.2 = some (.castable (qm_oS q.1) (qm_oS q.2.1)) := by decide +kernel
theorem kb_entry {s : State} {args : Array Value} (hts : ∀ w ∈ lw_tbl, w.before args s = true) : ∃ (D : va_G) (ty : Nat → ClassId), va_K D vwCl (kbT ty) s ∧ kbEx s := by
  have hin : ∀ w ∈ qm_gt, w.before args s = true := fun w hw => hts w (List.mem_filter.mp hw).1
  have tb : ∀ (p : Nat) (w : Cond), qm_tb p = some w → w.before args s = true := fun p w h => hts w (List.mem_append_right _ (List.mem_of_getElem? h))
  have h0 : ∀ ci : Nat, ∃ q : ClassId × (Nat → Nat), ∀ r : vw_C, vwCl[ci]? = some r → u_Kn s r.1 r.2.1 r.2.2 q.1 q.2 := by
    intro ci
    cases hc : vwCl[ci]? with
    | none => exact ⟨(0, fun _ => 0), fun r h => by cases h⟩
    | some r =>
      obtain ⟨C, T, N⟩ := r
      obtain ⟨cC, iS, h⟩ := u_known (n := N) hin (qm_cls hc).1 (hin _ (kb_inst hc))
      exact ⟨(cC, iS), fun r h9 => by cases h9; exact h⟩
  obtain ⟨D9, hD9⟩ := Classical.axiomOfChoice h0
  obtain ⟨a20, k20, p20, x1, x2, x3⟩ := Cond.arrayClass_spec (tb 46 (.arrayClass .int) (by decide +kernel))
  obtain ⟨a21, k21, p21, y1, y2, y3⟩ := Cond.arrayClass_spec (tb 160 (.arrayClass .byte) (by decide +kernel))
  obtain ⟨a22, k22, p22, z1, z2, z3⟩ := Cond.arrayClass_spec (tb 1051 (.arrayClass .boolean) (by decide +kernel))
  obtain ⟨a23, k23, p23, w1, w2, w3⟩ := Cond.arrayClass_spec (tb 308 (.arrayClass .long) (by decide +kernel))
  have h48 := tb 48 (.arrayOver (.object "SnoozeRow$Sleeper")) (by decide +kernel)
  have h119 := tb 119 (.arrayOver (.object "SnoozeRow$Street")) (by decide +kernel)
  have h267 := tb 267 (.arrayOver (.array .long)) (by decide +kernel)
  obtain ⟨p24, a24, k24, u1, -, u2, u3, u4⟩ := Cond.arrayOver_spec h48
  obtain ⟨p25, a25, k25, v1, -, v2, v3, v4⟩ := Cond.arrayOver_spec h119
  obtain ⟨p26, a26, k26, t1, -, t2, t3, t4⟩ := arrayOver_specB h267
  refine ⟨(fun ci => (D9 ci).1, fun ci => (D9 ci).2), (fun K => match K with
    | 20 => a20
    | 21 => a21
    | 22 => a22
    | 23 => a23
    | 24 => a24
    | 25 => a25
    | _ => a26), ⟨fun ci q hq => hD9 ci q hq, fun k q hk => ?_⟩, va_AO.of h48, va_AO.of h119, arrayOver_alikeB (Vm.Alike.refl s.vm) h267, fun q hq => va_Nw.of rfl (tb _ _ (kb_CTw q hq)), va_Nw.of rfl (tb 33 _ (by decide +kernel))⟩
  match k, hk with
  | 0, hk => cases hk; exact ⟨fun _ _ => ⟨(fun k h => by cases h), k20, x2, p20, x3⟩, x1⟩
  | 1, hk => cases hk; exact ⟨fun _ _ => ⟨(fun k h => by cases h), k21, y2, p21, y3⟩, y1⟩
  | 2, hk => cases hk; exact ⟨fun _ _ => ⟨(fun k h => by cases h), k22, z2, p22, z3⟩, z1⟩
  | 3, hk => cases hk; exact ⟨fun _ _ => ⟨(fun k h => by cases h), k23, w2, p23, w3⟩, w1⟩
  | 4, hk => cases hk; exact ⟨fun _ _ => ⟨(fun k h => by cases h), k24, u2, p24, u3⟩, k24, p24, u2, u3, u1, u4⟩
  | 5, hk => cases hk; exact ⟨fun _ _ => ⟨(fun k h => by cases h), k25, v2, p25, v3⟩, k25, p25, v2, v3, v1, v4⟩
  | 6, hk => cases hk; exact ⟨fun _ _ => ⟨(fun k h => by cases h), k26, t2, p26, t3⟩, t4⟩
  | k + 7, hk => simp [kbT] at hk
def kbFl : List Cond := flatC (Jvm.Cond.and given_1 narrow_1)
abbrev kbtm (i : Nat) : Term := .string "SnoozeRow$Street" (qm_sx i)
set_option maxRecDepth 100000 in
theorem kbw_ex : ∀ i, i < 8 → Cond.exactly (kbtm i) "java/lang/String" ∈ kbFl := by decide +kernel
set_option maxRecDepth 100000 in
theorem kbw_co : ∀ i, i < 8 → Cond.eq (.field (kbtm i) "java/lang/String" "coder" "B") (.int 0) ∈ kbFl := by decide +kernel
set_option maxRecDepth 100000 in
theorem kbw_ar : ∀ i, i < 8 → Cond.arrayOf (.field (kbtm i) "java/lang/String" "value" "[B") .byte ∈ kbFl := by decide +kernel
set_option maxRecDepth 100000 in
theorem kbw_le : ∀ i, i < 8 → Cond.eq (.length (.field (kbtm i) "java/lang/String" "value" "[B")) (.int (Int32.ofNat (qm_sN.getD i 0))) ∈ kbFl := by decide +kernel
set_option maxRecDepth 100000 in
theorem kbw_el : ∀ i, i < 8 → ∀ j, j < qm_sN.getD i 0 → Cond.eq (.elem (.field (kbtm i) "java/lang/String" "value" "[B") (.int (Int32.ofNat j))) (.int ((qm_sB.getD i []).getD j 0)) ∈ kbFl := by decide +kernel
set_option maxRecDepth 100000 in
theorem kbw_ne : ∀ i, i < 8 → ∀ j, j < 8 → i ≠ j → Cond.not (Cond.eq (kbtm i) (kbtm j)) ∈ kbFl ∨ Cond.not (Cond.eq (kbtm j) (kbtm i)) ∈ kbFl := by decide +kernel
set_option maxRecDepth 100000 in
theorem kbw_NC : ∀ q ∈ qm_NC, Cond.not (.castable (qm_oS q.1) (qm_oS q.2)) ∈ kbFl := by decide +kernel
set_option maxRecDepth 100000 in
theorem kbw_cs : Cond.eq (.static "java/lang/String" "COMPACT_STRINGS" "Z") (.int 1) ∈ kbFl := by decide +kernel
set_option maxRecDepth 100000 in
theorem kbw_sf : Cond.isRef (.static "jdk/internal/util/Preconditions" "SIOOBE_FORMATTER" "Ljava/util/function/BiFunction;") ∈ kbFl := by decide +kernel
def kbsp : List Nat := [453, 536, 537, 538, 568, 585, 586, 591]
def kbst : List String := ["lsb", "late ", "bear ", "soon ", " ", "pkvolm", "<=>", ")"]
set_option maxRecDepth 100000 in
theorem kbw_sr : ∀ i, i < 8 → qm_tb (kbsp.getD i 0) = some (.stringRef "SnoozeRow$Street" (qm_sx i) (kbst.getD i "")) := by decide +kernel
theorem kbw_N : ∀ i, i < 8 → qm_sN.getD i 0 < 2 ^ 31 := by decide +kernel
theorem kb_out {s : State} {b L : Nat} {xs : Nat → Int32} (hts : ∀ w ∈ lw_tbl, w.before #[Value.ref b] s = true) (hgv : (Jvm.Cond.and given_1 narrow_1).before #[Value.ref b] s = true) (hX : va_X b L xs s s.heap) (hb : b < s.heap.size) (hCT : ∀ q ∈ qm_CT, va_Nw (.castable (qm_oS q.1) (qm_oS q.2.1)) s) : ∃ (adK adV : Nat → Nat) (U : Value), ((U = .null) ∨ ∃ t, U = .ref t) ∧ ∀ (D : va_G) (ty : Nat → ClassId) (ad : List Nat), qm_Ex (kbG D ty (fun q => s.heap.size ≤ q) ad adK adV U b L xs) s := by
  have hs : ∀ w ∈ kbFl, w.before #[Value.ref b] s = true := flat_of_before _ hgv
  have tb : ∀ (p : Nat) (w : Cond), qm_tb p = some w → w.before #[Value.ref b] s = true := fun p w h => hts w (List.mem_append_right _ (List.mem_of_getElem? h))
  have hA : ∀ a : Nat, a < s.heap.size → ¬ (fun q => s.heap.size ≤ q) a := fun a h q => by
    have q : s.heap.size ≤ a := q
    omega
  obtain ⟨adK, adV, h1, h2⟩ := vk_Sof (tm := kbtm) (A := fun q => s.heap.size ≤ q) kbw_N (fun i hi => hs _ (kbw_ex i hi)) (fun i hi => hs _ (kbw_co i hi)) (fun i hi => hs _ (kbw_ar i hi)) (fun i hi => hs _ (kbw_le i hi)) (fun i hi j hj => hs _ (kbw_el i hi j hj)) (fun i j hi hj hij => (kbw_ne i hi j hj hij).imp (hs _) (hs _)) hA
  obtain ⟨U, u1, u2⟩ := Cond.isRef_spec (hs _ kbw_sf)
  refine ⟨adK, adV, U, ?_, fun D ty ad => ⟨fun i hi => ⟨kbst.getD i "", vk_R.of (tb _ _ (kbw_sr i hi)) (h2 i hi)⟩, h1, va_Zof (tb 467 _ (by decide +kernel)) (tb 17 _ (by decide +kernel)) (va_eqt (hs _ kbw_cs)) hA, va_Zof (tb 506 _ (by decide +kernel)) (tb 20 _ (by decide +kernel)) u1 hA, ⟨hX, hb, hA b hb⟩, fun q hq => va_Nc.of (hs _ (kbw_NC q hq)), hCT⟩⟩
  cases U with
  | null => exact Or.inl rfl
  | ref t => exact Or.inr ⟨t, rfl⟩
  | _ => cases u2
