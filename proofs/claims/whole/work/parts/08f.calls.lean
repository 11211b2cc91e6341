def qm_rm (d : Nat) : Room := { frames := d, cells := 0, slots := 0, locals := 60 * d }
def qm_Wd (G : qm_Pr) (σ : qm_Sg) (U : State) : Prop := va_P (gD G) vwCl (qm_ws G σ) U.heap ∧ va_K (gD G) vwCl (qm_ty G) U ∧ qm_Ex G U
def qm_Qc (G : qm_Pr) (Q : qm_Po) : Array Value → State → Outcome → State → Prop := fun _ st o t => (∃ (σ' : qm_Sg) (r : Option qm_AV), Q σ' r ∧ qm_Es G σ' ∧ (∀ v, r = some v → qm_okV v) ∧ o = .returned (r.map (qm_cv G)) ∧ va_P (gD G) vwCl (qm_ws G σ') t.heap) ∧ va_F (gA G) st t
abbrev qm_Wm (y : MethodName) (b : ByteArray) (n : Nat) (r : Option FieldType) : List Cond := .code y b n r :: qm_gt
def qm_Sd (l : Launch) (G : qm_Pr) (d : Nat) : Prop := ∀ (id : Nat) (y : MethodName) (b : ByteArray) (n : Nat) (r : Option FieldType) (o p q : Nat), qm_nt qm_mi id = some (y, b, n, r, o, p, q) → o ≠ 14 → ∀ (as : List qm_AV) (σ : qm_Sg) (Q : qm_Po), qm_okS as → qm_Es G σ → qm_M d id as σ Q → Met l y (qm_Wm y b n r) (qm_rm d) (va_Pc (as.map (qm_cv G)) (qm_Wd G σ)) (qm_Qc G Q) 0 0 (gA G)
theorem qm_blind {G : qm_Pr} {σ : qm_Sg} {av : List Value} : FrameBlind (va_Pc av (qm_Wd G σ)) := fun a U g mk h => ⟨h.1, h.2.1, va_K.moved (u := U) (U := U.calling g mk a) (Vm.Alike.refl U.vm) h.2.2.1, qm_Ex_call g mk a h.2.2.2⟩
theorem qm_nt_mem {α : Type} : ∀ (l : List α) (n : Nat) (a : α), qm_nt l n = some a → a ∈ l
  | [], _, _, h => by cases h
  | _ :: _, 0, _, h => by cases h; exact List.mem_cons_self
  | _ :: l, n + 1, a, h => List.mem_cons_of_mem _ (qm_nt_mem l n a h)
theorem qm_mi_e {id : Nat} {y : MethodName} {b : ByteArray} {n : Nat} {r : Option FieldType} {o p q : Nat} (h : qm_nt qm_mi id = some (y, b, n, r, o, p, q)) : Cond.code y b n r ∈ qm_gt ∧ Cond.initialized y.cls ∈ qm_gt ∧ y.cls = qm_oS o ∧ (y.cls ≠ "java/lang/invoke/MethodHandle" ∧ y.cls ≠ "java/lang/invoke/VarHandle") ∧ n ≤ 21 ∧ (o ≠ 14 → plainName y.cls = true) := by
  have hm := qm_nt_mem _ _ _ h
  have h1 := qm_cw_ok _ hm
  have h2 := List.all_eq_true.mp qm_ckM_ok _ hm
  unfold qm_ckM at h2
  simp only [Bool.and_eq_true, Bool.or_eq_true, decide_eq_true_eq, Nat.ble_eq, Nat.beq_eq] at h2
  obtain ⟨⟨⟨⟨⟨h3, h4⟩, h5⟩, h6⟩, h7⟩, h8⟩ := h2
  exact ⟨qm_gt_tb h1 rfl, qm_gt_tb h4 rfl, h3, ⟨h6, h7⟩, h8, fun ho => h5.resolve_right ho⟩
theorem qm_ar_e {d : String} {n : Nat} (h : qm_ar d n = true) : ∀ sig, parseMethodDescriptor d = some sig → n = sig.parameters.length := by
  intro sig hs
  unfold qm_ar at h
  rw [hs] at h
  simp only [Option.map_some, decide_eq_true_eq] at h
  exact (Option.some.inj h).symm
theorem qm_pop_e {k : List qm_AV → List qm_AV → Prop} : ∀ (n : Nat) (st acc : List qm_AV), qm_pop n st acc k → ∃ f r, st = f ++ r ∧ f.length = n ∧ k (f.reverse ++ acc) r
  | 0, st, acc, h => ⟨[], st, rfl, rfl, h⟩
  | n + 1, v :: st, acc, h => by
    obtain ⟨f, r, h1, h2, h3⟩ := qm_pop_e n st (v :: acc) h
    refine ⟨v :: f, r, by rw [h1]; rfl, by rw [List.length_cons, h2], ?_⟩
    rw [List.reverse_cons, List.append_assoc]
    exact h3
  | _ + 1, [], _, h => h.elim
theorem qm_noMath : qm_CS.all (fun q => match qm_nt qm_mi q.2.2.1 with
  | some (_, _, _, _, o, _) => !(Nat.beq o 14)
  | none => false) = true := by decide +kernel
theorem qm_noMathV : qm_CV.all (fun q => match qm_nt qm_mi q.2.2.2.1 with
  | some (_, _, _, _, o, _) => !(Nat.beq o 14) && (Nat.ble q.2.2.1 12 || Nat.beq q.2.2.1 40)
  | none => false) = true := by decide +kernel
theorem qm_noMathU : qm_CU.all (fun q => match qm_nt qm_mi q.2.2.2.1 with
  | some (_, _, _, _, o, _) => !(Nat.beq o 14)
  | none => false) = true := by decide +kernel
theorem qm_noMathP : qm_CP.all (fun q => match qm_nt qm_mi q.2.2.2.1 with
  | some (_, _, _, _, o, _) => !(Nat.beq o 14)
  | none => false) = true := by decide +kernel
section CALLS
variable {p : Program} {l : Launch} {e : Env} {R : Room} {s : State} {m : MethodId} {args : Array Value} {below : List Frame} {meth : Method} {c : Code} {cells slots : Nat} {Z : State → Prop} {G : qm_Pr} {own nL d : Nat} {cc : ByteArray} {K : List (List qm_En)} {pc nx ax n : Nat} {dp : List (Nat × Nat)} {L : qm_Lo} {st : List qm_AV} {σ : qm_Sg}
theorem qm_callK {Q : qm_Po} {H : Heap} {locs : List Loc} {ls : Array Slot} {st0 rest : List Value} {a : Array Value} (hr : va_Run p l e R s m args below meth c H locs cells slots 0 0 (F0 m pc ls st0) rest (qm_Qc G Q a) (gA G)) (hS : va_S (gA G) s.heap H locs)
    (kk : ∀ (σ' : qm_Sg) (r : Option qm_AV) (H1 : Heap) (locs1 : List Loc), Q σ' r → qm_Es G σ' → (∀ v, r = some v → qm_okV v) → va_P (gD G) vwCl (qm_ws G σ') H1 → va_S (gA G) s.heap H1 locs1 → W p l e R s m args below meth c H1 locs1 cells slots Z (F0 m (pc + 3) ls ((r.map (qm_cv G)).toList ++ rest))) : W p l e R s m args below meth c H locs cells slots Z (F0 m pc ls st0) := by
  intro T hT X
  obtain ⟨v, st₀, t, T', L, h0, X', hL, e1, e2, ⟨⟨σ', r, hq, hes, hok, ho, hp⟩, hz, hk⟩, st⟩ := hr T hT X
  have hv : v = r.map (qm_cv G) := by cases ho; rfl
  subst hv
  rw [h0] at hz hk
  obtain ⟨t2, a1, b1⟩ := kk σ' r T'.heap (locs ++ L) hq hes hok (by rw [e1]; exact hp) ⟨Nat.le_trans hS.1 (by rw [e1]; exact hz), fun q h1 h2 => by rw [e1, hk q (Nat.lt_of_lt_of_le h1 hS.1) h2]; exact hS.2.1 q h1 h2, fun q hq => by
      rcases List.mem_append.mp hq with h | h
      · exact hS.2.2 q h
      · exact hL q h⟩ T' rfl X'
  exact ⟨t2, st t2 a1, b1⟩
/-- the words below a call fit, the callee's words hold -/
theorem qm_hws {y : MethodName} {b : ByteArray} {n : Nat} {r : Option FieldType} (hts : ∀ w ∈ qm_gt, w.before args s = true) (hc : Cond.code y b n r ∈ qm_gt) : ∀ w ∈ qm_Wm y b n r, ∀ (a' : Array Value) (U : State), s.WarmedH U.vm → w.before a' U = true := by
  intro w hw a' U hW
  have hw2 : w ∈ qm_gt := by
    rcases List.mem_cons.mp hw with e | e
    · rw [e]; exact hc
    · exact e
  exact word_at hW (qm_gt_good hw2) (hts w hw2)
theorem qm_okS_app {a b : List qm_AV} (h : qm_okS (a ++ b)) : qm_okS a ∧ qm_okS b := ⟨fun v hv => h v (List.mem_append_left _ hv), fun v hv => h v (List.mem_append_right _ hv)⟩
theorem qm_okS_rev {a : List qm_AV} (h : qm_okS a) : qm_okS a.reverse := fun v hv => h v (List.mem_reverse.mp hv)
theorem qm_pre {H : Heap} {locs : List Loc} (hK : va_K (gD G) vwCl (qm_ty G) s) (hE : qm_Ex G s) (hP : va_P (gD G) vwCl (qm_ws G σ) H) (hS : va_S (gA G) s.heap H locs) {av : List Value} : ∀ U : State, U.heap = H → s.WarmedH U.vm → va_Pc av (qm_Wd G σ) av.toArray U :=
  fun U hU hW => ⟨rfl, by rw [hU]; exact hP, va_K.moved hW.alike hK, qm_Ex_next hE hS hU hW⟩
theorem qm_rest {ls : Array Slot} {st0 : List Value} (hU : (gU G = .null) ∨ ∃ t, gU G = .ref t) {r : List qm_AV} (h8 : qm_cs r ≤ 8) : 2 * (F0 m pc ls st0).monitorRoom + ((r.map (qm_cv G)).map fun v => v.category).sum ≤ 8 := lv_room (by rw [qm_cs_cv hU]; exact h8)
/-- behind a call: what comes back is put on what lay below -/
theorem qm_back {Q : qm_Po} {H : Heap} {locs : List Loc} {ls : Array Slot} {st0 : List Value} {r : List qm_AV} {a : Array Value} (hn : qm_pc K nx = pc + 3) (hL : qm_LV G ls nL L) (hoL : qm_okL L) (hoR : qm_okS r) (hS : va_S (gA G) s.heap H locs)
    (hQ : ∀ σ' v, Q σ' v → qm_Gd p l e R s m args below meth c cells slots Z G nL K nx L (qm_psh v r) σ')
    (hr : va_Run p l e R s m args below meth c H locs cells slots 0 0 (F0 m pc ls st0) (r.map (qm_cv G)) (qm_Qc G Q a) (gA G)) : W p l e R s m args below meth c H locs cells slots Z (F0 m pc ls st0) := by
  refine qm_callK hr hS (fun σ' v H1 locs1 hq hes hok hP1 hS1 => ?_)
  have k := hQ σ' v hq H1 locs1 ls hP1 hS1 hes hL hoL (by
    cases v with
    | none => exact hoR
    | some w => exact qm_oC (hok w rfl) hoR)
  rw [hn] at k
  cases v with
  | none => exact k
  | some w => exact k
theorem qm_callOKs {idx id : Nat} (hR : d + 1 ≤ R.frames ∧ 60 * (d + 1) ≤ R.locals ∧ cells ≤ R.cells ∧ slots ≤ R.slots) (F : qm_Fx p s m args c G own nL cc) (hd : decode cc pc = .ok (.invokestatic idx, 3)) (hn : qm_pc K nx = pc + 3) (hpc : qm_pc K n = pc) (hc : qm_cs? own idx id ax = true) (hSd : qm_Sd l G d)
    (h : qm_pop ax st [] (fun as r => bif Nat.ble (qm_cs r) 8 then qm_M d id as σ (fun σ' v => qm_Gd p l e R s m args below meth c cells slots Z G nL K nx L (qm_psh v r) σ') else False)) : qm_Gd p l e R s m args below meth c cells slots Z G nL K n L st σ := by
  obtain ⟨hx, hb, hml, hown, hts, hK, hE, hG⟩ := F
  obtain ⟨f, r, hst, hlen, h1⟩ := qm_pop_e _ _ _ h
  obtain ⟨h8, h2⟩ := qm_bifT h1
  have h8 := Nat.ble_eq.mp h8
  rw [List.append_nil] at h2
  clear h h1
  unfold qm_cs? at hc
  obtain ⟨z, hz, hc⟩ := List.any_eq_true.mp hc
  have hck := List.all_eq_true.mp qm_ckS_ok z hz
  obtain ⟨z1, z2, z3, z4, z5, z6⟩ := z
  simp only [Bool.and_eq_true, Nat.beq_eq] at hc
  obtain ⟨⟨⟨rfl, rfl⟩, rfl⟩, rfl⟩ := hc
  unfold qm_ckS at hck
  dsimp only at hck
  split at hck
  · rename_i y q9 hy
    obtain ⟨b, nl, rt, o, p8, q8⟩ := q9
    simp only [Bool.and_eq_true, decide_eq_true_eq] at hck
    obtain ⟨⟨k1, k2⟩, k3⟩ := hck
    obtain ⟨m1, m2, m3, m4, m5, m6⟩ := qm_mi_e hy
    intro H locs ls hP hS hEs hL hoL hoS
    rw [hst] at hoS
    obtain ⟨ho1, ho2⟩ := qm_okS_app hoS
    by_cases ho14 : o = 14
    · exfalso
      subst ho14
      have h99 := List.all_eq_true.mp qm_noMath _ hz
      simp only [hy] at h99
      cases h99
    have hM := hSd _ _ _ _ _ _ _ _ hy ho14 _ _ _ (qm_okS_rev ho1) hEs h2
    rw [hpc]
    refine qm_back (r := r) hn hL hoL ho2 hS (fun _ _ h => h) (va_runS (As := f.reverse.map (qm_cv G)) ⟨hx, hb, hml, hown, hts⟩ hM ⟨⟨rfl, rfl, by show d + 1 ≤ _; exact hR.1, by show 8 + (nl + 11) + 60 * d ≤ _; omega, qm_hws hts m1, List.mem_cons_self, hts _ m1, hts _ m2, m4, qm_ar_e k3, hts _ (qm_gt_tb k1 rfl)⟩, hts _ (qm_gt_tb k2 rfl)⟩ ⟨qm_blind, qm_pre hK hE hP hS⟩ rfl (by rw [List.length_map, List.length_reverse, hlen]) hL.2.1 ?_ (qm_rest hG.2.2.1 h8) hd ⟨hR.2.2.1, hR.2.2.2⟩)
    show st.map (qm_cv G) = _
    rw [hst, List.map_append, List.map_reverse, List.reverse_reverse]
  · cases hck
theorem qm_recvAny {H : Heap} {locs : List Loc} (hK : va_K (gD G) vwCl (qm_ty G) s) (hE : qm_Ex G s) (hP : va_P (gD G) vwCl (qm_ws G σ) H) (hS : va_S (gA G) s.heap H locs) {t i : Nat} (ho : qm_ok t i = true) (hk : qm_cK t ≤ 12 ∨ qm_cK t = 40) : ∃ a, qm_rv G t i = .ref a ∧ ∃ cell : Cell, H[a]? = some cell ∧ cell.vm.isStatics = false ∧ s.vm.findClass (qm_cS (qm_cK t)) = some cell.cls := by
  rcases hk with hk | hk
  · have hcell := qm_ok_cell ho (by omega)
    refine ⟨gAd G t i, qm_rv_cell hcell, ?_⟩
    have : qm_cS (qm_cK t) = qm_oS (qm_cK t) := by
      unfold qm_cS
      have : Nat.beq (qm_cK t) 40 = false := by
        cases hb : Nat.beq (qm_cK t) 40
        · rfl
        · have := Nat.beq_eq.mp hb; omega
      rw [this]
      rfl
    rw [this]
    exact qm_recv hK hP hcell hk
  · obtain ⟨rfl, hi⟩ := qm_ok_40 ho hk
    refine ⟨gK G i, rfl, ?_⟩
    exact vk_recv hE.2.1 hi hS
theorem qm_split {f r : List qm_AV} {t i : Nat} {tl : List qm_AV} (h : f.reverse = .inr (t, i) :: tl) {a : Nat} (ha : qm_rv G t i = .ref a) : (f ++ r).map (qm_cv G) = (tl.map (qm_cv G)).reverse ++ .ref a :: r.map (qm_cv G) ∧ f.reverse.map (qm_cv G) = .ref a :: tl.map (qm_cv G) := by
  have hf : f = tl.reverse ++ [.inr (t, i)] := by rw [← List.reverse_reverse f, h, List.reverse_cons]
  constructor
  · rw [hf, List.map_append, List.map_append, List.map_reverse, List.append_assoc]
    show _ ++ (qm_rv G t i :: _) = _
    rw [ha]
    rfl
  · rw [h]
    show qm_rv G t i :: _ = _
    rw [ha]
set_option maxRecDepth 100000 in
theorem qm_sel_e {z8 : Nat} {y : MethodName} (k3 : (bif Nat.ble 5000 z8 then decide ((lw_privs[z8 - 5000]?).map (fun r => r.1) = some y) else decide (qm_tb z8 = some (.selects y.cls y y))) = true) : Cond.selects y.cls y y ∈ qm_gt := by
  generalize Nat.ble 5000 z8 = bb at k3
  cases bb
  · rw [cond_false, decide_eq_true_eq] at k3
    exact qm_gt_tb k3 rfl
  · rw [cond_true, decide_eq_true_eq] at k3
    exact qm_gt_priv k3
theorem qm_callOKv {idx t i id : Nat} {f r tl : List qm_AV} (hR : d + 1 ≤ R.frames ∧ 60 * (d + 1) ≤ R.locals ∧ cells ≤ R.cells ∧ slots ≤ R.slots) (F : qm_Fx p s m args c G own nL cc) (hd : decode cc pc = .ok (.invokevirtual idx, 3)) (hn : qm_pc K nx = pc + 3) (hpc : qm_pc K n = pc) (hSd : qm_Sd l G d) (hst : st = f ++ r) (hlen : f.length = ax) (hfr : f.reverse = .inr (t, i) :: tl) (hc : qm_cv? own idx (qm_cK t) id ax = true) (h8 : qm_cs r ≤ 8)
    (h : qm_M d id f.reverse σ (fun σ' v => qm_Gd p l e R s m args below meth c cells slots Z G nL K nx L (qm_psh v r) σ')) : qm_Gd p l e R s m args below meth c cells slots Z G nL K n L st σ := by
  obtain ⟨hx, hb, hml, hown, hts, hK, hE, hG⟩ := F
  unfold qm_cv? at hc
  obtain ⟨z, hz, hc⟩ := List.any_eq_true.mp hc
  have hck := List.all_eq_true.mp qm_ckV_ok z hz
  obtain ⟨z1, z2, z3, z4, z5, z6, z7, z8⟩ := z
  simp only [Bool.and_eq_true, Nat.beq_eq] at hc
  obtain ⟨⟨⟨⟨rfl, rfl⟩, e3⟩, rfl⟩, e5⟩ := hc
  unfold qm_ckV at hck
  dsimp only at hck
  split at hck
  · rename_i y q9 hy
    obtain ⟨b, nl, rt, o, p8, q8⟩ := q9
    simp only [Bool.and_eq_true, decide_eq_true_eq] at hck
    obtain ⟨⟨⟨⟨k1, k2⟩, k3⟩, k4⟩, k5⟩ := hck
    obtain ⟨m1, m2, m3, m4, m5, m6⟩ := qm_mi_e hy
    have hsel : Cond.selects y.cls y y ∈ qm_gt := qm_sel_e k3
    have h99 := List.all_eq_true.mp qm_noMathV _ hz
    simp only [hy, Bool.and_eq_true, Bool.or_eq_true, Nat.ble_eq, Nat.beq_eq] at h99
    obtain ⟨h14, h12⟩ := h99
    have ho14 : o ≠ 14 := fun q => by rw [q] at h14; cases h14
    rw [e3] at h12 k4
    intro H locs ls hP hS hEs hL hoL hoS
    rw [hst] at hoS
    obtain ⟨ho1, ho2⟩ := qm_okS_app hoS
    have hM := hSd _ _ _ _ _ _ _ _ hy ho14 _ _ _ (qm_okS_rev ho1) hEs h
    have hot : qm_ok t i = true := (qm_okS_rev ho1) (.inr (t, i)) (by rw [hfr]; exact List.mem_cons_self)
    obtain ⟨a, ha, hre⟩ := qm_recvAny hK hE hP hS hot h12
    obtain ⟨s1, s2⟩ := qm_split (G := G) (r := r) hfr ha
    rw [hpc]
    rw [s2] at hM
    rw [← k4] at hre
    refine qm_back (r := r) hn hL hoL ho2 hS (fun _ _ h => h) (va_runV (As := tl.map (qm_cv G)) ⟨hx, hb, hml, hown, hts⟩ hM ⟨⟨rfl, rfl, by show d + 1 ≤ _; exact hR.1, by show 8 + (nl + 11) + 60 * d ≤ _; omega, qm_hws hts m1, List.mem_cons_self, hts _ m1, hts _ m2, m4, qm_ar_e k5, hts _ (qm_gt_tb k1 rfl)⟩, hts _ (qm_gt_tb k2 rfl), hts _ hsel⟩ ⟨qm_blind, hre, qm_pre hK hE hP hS⟩ rfl ?_ hL.2.1 ?_ (qm_rest hG.2.2.1 h8) hd ⟨hR.2.2.1, hR.2.2.2⟩)
    · rw [List.length_map]
      have : f.reverse.length = tl.length + 1 := by rw [hfr, List.length_cons]
      rw [List.length_reverse, hlen] at this
      omega
    · show st.map (qm_cv G) = _
      rw [hst]
      exact s1
  · cases hck
theorem qm_callOKu {idx t i id : Nat} {f r tl : List qm_AV} (hR : d + 1 ≤ R.frames ∧ 60 * (d + 1) ≤ R.locals ∧ cells ≤ R.cells ∧ slots ≤ R.slots) (F : qm_Fx p s m args c G own nL cc) (hd : decode cc pc = .ok (.invokevirtual idx, 3)) (hn : qm_pc K nx = pc + 3) (hpc : qm_pc K n = pc) (hSd : qm_Sd l G d) (hst : st = f ++ r) (hlen : f.length = ax) (hfr : f.reverse = .inr (t, i) :: tl) (hc : qm_cu? own idx (qm_cK t) id ax = true) (h8 : qm_cs r ≤ 8)
    (h : qm_M d id f.reverse σ (fun σ' v => qm_Gd p l e R s m args below meth c cells slots Z G nL K nx L (qm_psh v r) σ')) : qm_Gd p l e R s m args below meth c cells slots Z G nL K n L st σ := by
  obtain ⟨hx, hb, hml, hown, hts, hK, hE, hG⟩ := F
  unfold qm_cu? at hc
  obtain ⟨z, hz, hc⟩ := List.any_eq_true.mp hc
  have hck := List.all_eq_true.mp qm_ckU_ok z hz
  obtain ⟨z1, z2, z3, z4, z5, z6, z7, z8, z9, z10, z11⟩ := z
  simp only [Bool.and_eq_true, Nat.beq_eq] at hc
  obtain ⟨⟨⟨⟨rfl, rfl⟩, e3⟩, rfl⟩, e5⟩ := hc
  unfold qm_ckU at hck
  dsimp only at hck
  split at hck
  · rename_i y q9 zz q10 o' i' x hy hzz hx9
    obtain ⟨b, nl, rt, o, p8, q8⟩ := q9
    obtain ⟨b0, nl0, rt0, o0, p80, q80⟩ := q10
    simp only [Bool.and_eq_true, decide_eq_true_eq, Nat.beq_eq, Nat.ble_eq] at hck
    obtain ⟨⟨⟨⟨⟨⟨⟨⟨rfl, rfl⟩, k3⟩, k4⟩, k5⟩, k6⟩, k7⟩, k8⟩, k9⟩ := hck
    obtain ⟨m1, m2, m3, m4, m5, m6⟩ := qm_mi_e hy
    obtain ⟨n1, n2, n3, n4, n5, n6⟩ := qm_mi_e hzz
    have h99 := List.all_eq_true.mp qm_noMathU _ hz
    simp only [hy] at h99
    have ho14 : o ≠ 14 := fun q => by rw [q] at h99; cases h99
    rw [e3] at k9 k5
    intro H locs ls hP hS hEs hL hoL hoS
    rw [hst] at hoS
    obtain ⟨ho1, ho2⟩ := qm_okS_app hoS
    have hM := hSd _ _ _ _ _ _ _ _ hy ho14 _ _ _ (qm_okS_rev ho1) hEs h
    have hot : qm_ok t i = true := (qm_okS_rev ho1) (.inr (t, i)) (by rw [hfr]; exact List.mem_cons_self)
    obtain ⟨a, ha, hre⟩ := qm_recvAny hK hE hP hS hot (Or.inl k9)
    obtain ⟨s1, s2⟩ := qm_split (G := G) (r := r) hfr ha
    rw [hpc]
    rw [s2] at hM
    refine qm_back (r := r) hn hL hoL ho2 hS (fun _ _ h => h) (va_runU (As := tl.map (qm_cv G)) (C := qm_cS (qm_cK t)) (owner := zz.cls) (x := x) (n := z5) ⟨hx, hb, hml, hown, hts⟩ hM ⟨⟨rfl, rfl, by show d + 1 ≤ _; exact hR.1, by show 8 + (nl + 11) + 60 * d ≤ _; omega, qm_hws hts m1, List.mem_cons_self⟩, hts _ m1, hts _ m2, n4, qm_ar_e k8, hts _ (qm_gt_tb hx9 rfl), hts _ (qm_gt_tb k4 rfl), by rw [← k3]; exact va_Decl.of (hts _ (qm_gt_tb k7 rfl)) (hts _ n1), hts _ (qm_gt_tb k5 rfl), hts _ (qm_gt_tb k6 rfl)⟩ ⟨qm_blind, hre, qm_pre hK hE hP hS⟩ rfl ?_ hL.2.1 ?_ (qm_rest hG.2.2.1 h8) hd ⟨hR.2.2.1, hR.2.2.2⟩)
    · rw [List.length_map]
      have : f.reverse.length = tl.length + 1 := by rw [hfr, List.length_cons]
      rw [List.length_reverse, hlen] at this
      omega
    · show st.map (qm_cv G) = _
      rw [hst]
      exact s1
  · cases hck
theorem qm_sub1 {A B : String} {a b : ClassId} (ha : s.vm.findClass A = some a) (hb : s.vm.findClass B = some b) (h : A = B ∨ (Cond.superclass A B).before args s = true) : s.vm.isSubclass a b = true := by
  rcases h with h | h
  · subst h
    cases ha.symm.trans hb
    simp [Vm.isSubclass, Vm.isSubclassAux]
  · obtain ⟨p1, k, kp, h1, h2, h3, h4, -⟩ := Cond.superclass_spec ha h
    cases hb.symm.trans h1
    have hlt : 0 < s.vm.classes.size := Nat.lt_of_le_of_lt (Nat.zero_le _) (Array.getElem?_eq_some_iff.mp h2).1
    unfold Vm.isSubclass
    obtain ⟨z, hz⟩ : ∃ z, s.vm.classes.size = z + 1 := ⟨_, (Nat.succ_pred_eq_of_pos hlt).symm⟩
    rw [hz]
    unfold Vm.isSubclassAux
    rw [h2]
    simp only [h4]
    unfold Vm.isSubclassAux
    simp
theorem qm_runP {x y : MethodName} {bytes : ByteArray} {maxL n9 index : Nat} {ret : Option FieldType} {ws : List Cond} {rm : Room} {Pc : Array Value → State → Prop} {Qc : Array Value → State → Outcome → State → Prop} {free : Addr → Prop} {Ts : List Cond} {ow C : String} {cC : ClassId} {b : Addr} {As rest : List Value} {g : JFrame} {H : Heap} {locs : List Loc}
    (hat : ClassAt s C cC) (S : CallFix p m c cc nL s args Ts ow) (hM : Met l y ws rm Pc Qc 0 0 free) (hrc : rm.cells = 0) (hrs : rm.slots = 0) (hfr : rm.frames + 1 ≤ R.frames) (hlo : 8 + (maxL + 11) + rm.locals ≤ R.locals) (hws : ∀ w ∈ ws, ∀ (a' : Array Value) (U : State), s.WarmedH U.vm → w.before a' U = true) (hcw : Cond.code y bytes maxL ret ∈ ws)
    (hini : (Cond.initialized y.cls).before args s = true) (hcode : (Cond.code y bytes maxL ret).before args s = true) (hlink : (Cond.methodLink ow index x).before args s = true) (hsame : (Cond.sameMethod x.cls y.cls x.name x.desc).before args s = true) (hyx : y = ⟨y.cls, x.name, x.desc⟩) (hsup : (Cond.superclass ow x.cls).before args s = true) (hup : x.cls = y.cls ∨ (Cond.superclass x.cls y.cls).before args s = true) (hinst : (Cond.instanceMethod y).before args s = true) (hno : x.name ≠ "<init>") (har : ∀ sig, parseMethodDescriptor y.desc = some sig → n9 = sig.parameters.length)
    (hp : PreV s H C b Pc As) (hg : g.method = m) (hn : As.length = n9) (hsize : g.locals.size = nL) (hstack : g.stack = As.reverse ++ .ref b :: rest) (hW : 2 * g.monitorRoom + (rest.map fun v => v.category).sum ≤ 8) (hdg : decode cc g.pc = .ok (.invokespecial index, 3)) (hf : cells ≤ R.cells ∧ slots ≤ R.slots) :
    va_Run p l e R s m args below meth c H locs cells slots 0 0 g rest (Qc (Value.ref b :: As).toArray) (free) := by
  have hK : Back l R p e below s args y 3 8 (PreOf R 0 0 Pc) (PostOf Qc 0 0 free) := back_of (bytes := bytes) (maxL := maxL) (ret := ret) hM hp.1 hrc hrs hfr hlo hws hcw (fun a' U hW => word_at hW (Or.inl (by first | rfl | simp [Cond.onTables, Cond.keeps, Cond.steady])) hini)
  obtain ⟨hx, hb, hml, ho, -⟩ := S
  obtain ⟨-, ⟨cellB, hcB, hoB, hclB⟩, hPc⟩ := hp
  obtain ⟨hfc, kB, hkB, -⟩ := hat
  cases hfc.symm.trans hclB
  intro T hT X
  obtain ⟨mk, methM, hnamed, hmethM, hstM, habM⟩ := Cond.instanceMethod_spec hinst
  obtain ⟨methM', cM, hmethM', -, -, -, -, -, -, hsigM⟩ := Cond.code_spec hnamed hcode
  cases hmethM.symm.trans hmethM'
  obtain ⟨ps, dk, kp, hps, hdk, hkp, hsuper, -, -, hnid⟩ := Cond.superclass_spec ho hsup
  have hn2 : s.methodNamed? ⟨y.cls, x.name, x.desc⟩ = some mk := by rw [← hyx]; exact hnamed
  have hsub : s.vm.isSubclass ps mk.cls = true := qm_sub1 (args := args) hps (findClass_of_methodNamed hnamed) hup
  obtain ⟨vm₁, X₁, hstep₁⟩ := X.invokespecialUp hx ho hlink hsame hn2 hmethM hstM habM hno hdk hnid hps hsuper hsub (a := b) (cell := cellB) (by rw [hT]; exact hcB)
    (fun z h => by rw [h] at hoB; cases hoB) hkB (g := g) hg (argsL := As) (rest := rest) (hn.trans (har _ hsigM)) hstack (by rw [hb]; exact hdg)
  obtain ⟨v, B, X', hpost, hsteps⟩ := hK m meth c ⟨T.setVm vm₁, locs, cells, slots⟩ { g with stack := rest } (.invokespecial index) mk (Value.ref b :: As).toArray X₁ hg (hsize.trans hml.symm) (by rw [hb]; exact hdg) hW (X₁.named hnamed) ⟨hf.1, hf.2, hPc (T.setVm vm₁) hT X₁.warmed⟩
  obtain ⟨U', l2, c2, s2⟩ := B
  obtain ⟨g', mk', t, L, e1, e2, hq, h1, hL, h2, h3⟩ := hpost
  dsimp only [Pt.U, Pt.locs, Pt.cells, Pt.slots] at X' e1 e2 h1 h2 h3 hsteps
  subst h1; subst h2; subst h3
  exact ⟨v, (T.setVm vm₁).calling g' mk' (Value.ref b :: As).toArray, t, U', L, hT, X', hL, e1, e2, hq, fun target h => hstep₁ _ (by rw [doInvoke_state]; exact hsteps.trans h)⟩
theorem qm_callOKp {idx t i id : Nat} {f r tl : List qm_AV} (hR : d + 1 ≤ R.frames ∧ 60 * (d + 1) ≤ R.locals ∧ cells ≤ R.cells ∧ slots ≤ R.slots) (F : qm_Fx p s m args c G own nL cc) (hd : decode cc pc = .ok (.invokespecial idx, 3)) (hn : qm_pc K nx = pc + 3) (hpc : qm_pc K n = pc) (hSd : qm_Sd l G d) (hst : st = f ++ r) (hlen : f.length = ax) (hfr : f.reverse = .inr (t, i) :: tl) (hc : qm_cp? own idx (qm_cK t) id ax = true) (h8 : qm_cs r ≤ 8)
    (h : qm_M d id f.reverse σ (fun σ' v => qm_Gd p l e R s m args below meth c cells slots Z G nL K nx L (qm_psh v r) σ')) : qm_Gd p l e R s m args below meth c cells slots Z G nL K n L st σ := by
  obtain ⟨hx, hb, hml, hown, hts, hK, hE, hG⟩ := F
  unfold qm_cp? at hc
  obtain ⟨z, hz, hc⟩ := List.any_eq_true.mp hc
  have hck := List.all_eq_true.mp qm_ckP_ok z hz
  obtain ⟨z1, z2, z3, z4, z5, z6, z7, z8, z9, z10⟩ := z
  simp only [Bool.and_eq_true, Nat.beq_eq] at hc
  obtain ⟨⟨⟨⟨rfl, rfl⟩, e3⟩, rfl⟩, e5⟩ := hc
  unfold qm_ckP at hck
  dsimp only at hck
  split at hck
  · rename_i y q9 o' i' x hy hx9
    obtain ⟨b, nl, rt, o, p8, q8⟩ := q9
    simp only [Bool.and_eq_true, Bool.or_eq_true, decide_eq_true_eq, Nat.beq_eq, Nat.ble_eq] at hck
    obtain ⟨⟨⟨⟨⟨⟨⟨⟨⟨rfl, rfl⟩, k3⟩, k4⟩, k5⟩, k6⟩, k7⟩, k8⟩, k9⟩, k10⟩ := hck
    obtain ⟨m1, m2, m3, m4, m5, m6⟩ := qm_mi_e hy
    have h99 := List.all_eq_true.mp qm_noMathP _ hz
    simp only [hy] at h99
    have ho14 : o ≠ 14 := fun q => by rw [q] at h99; cases h99
    rw [e3] at k10
    intro H locs ls hP hS hEs hL hoL hoS
    rw [hst] at hoS
    obtain ⟨ho1, ho2⟩ := qm_okS_app hoS
    have hM := hSd _ _ _ _ _ _ _ _ hy ho14 _ _ _ (qm_okS_rev ho1) hEs h
    have hot : qm_ok t i = true := (qm_okS_rev ho1) (.inr (t, i)) (by rw [hfr]; exact List.mem_cons_self)
    have hcell := qm_ok_cell hot (by omega)
    have hre := qm_recv hK hP hcell k10
    obtain ⟨s1, s2⟩ := qm_split (G := G) (r := r) hfr (qm_rv_cell hcell)
    obtain ⟨r9, hr9, e9⟩ := qm_vwCl k10
    have hcl := (hK.1 _ _ hr9).2
    rw [e9] at hcl
    rw [hpc]
    rw [s2] at hM
    refine qm_back (r := r) hn hL hoL ho2 hS (fun _ _ h => h) (qm_runP (As := tl.map (qm_cv G)) (n9 := z5) hcl ⟨hx, hb, hml, hown, hts⟩ hM rfl rfl (by show d + 1 ≤ _; exact hR.1) (by show 8 + (nl + 11) + 60 * d ≤ _; omega) (qm_hws hts m1) List.mem_cons_self (hts _ m2) (hts _ m1) (hts _ (qm_gt_tb hx9 rfl)) (hts _ (qm_gt_tb k4 rfl)) k3 (hts _ (qm_gt_tb k5 rfl)) (k7.imp id (fun h => hts _ (qm_gt_tb h rfl))) (hts _ (qm_gt_tb k6 rfl)) k8 (qm_ar_e k9) ⟨qm_blind, hre, qm_pre hK hE hP hS⟩ rfl ?_ hL.2.1 ?_ (qm_rest hG.2.2.1 h8) hd ⟨hR.2.2.1, hR.2.2.2⟩)
    · rw [List.length_map]
      have : f.reverse.length = tl.length + 1 := by rw [hfr, List.length_cons]
      rw [List.length_reverse, hlen] at this
      omega
    · show st.map (qm_cv G) = _
      rw [hst]
      exact s1
  · cases hck
end CALLS
