theorem qm_nIin {j n : Nat} (h : j < n) (hn : n < 2 ^ 31) : vp_in (nI j) n := vp_in_nI h hn
theorem qm_clm {j : Nat} (h : j < 2 ^ 31) : (nI j).toNatClampNeg = j := nI_clamp h
theorem qm_swcT {K : List (List qm_En)} {pc : Nat} {x : Int32} {k : Nat → Prop} {d : Prop} : ∀ (lo : Int) (offs : List Int) (sw : List (Int32 × Nat)), qm_swc K pc lo offs sw = true → qm_sw sw x k d →
    (∃ (j : Nat) (off : Int) (t : Nat), offs[j]? = some off ∧ x.toInt = lo + j ∧ (pc : Int) + off = (qm_pc K t : Int) ∧ k t) ∨ ((∀ j : Nat, j < offs.length → x.toInt ≠ lo + j) ∧ d)
  | lo, [], [], _, h => Or.inr ⟨fun j hj => absurd hj (Nat.not_lt_zero _), h⟩
  | lo, [], _ :: _, h, _ => by simp [qm_swc] at h
  | lo, _ :: _, [], h, _ => by simp [qm_swc] at h
  | lo, o :: os, (v, t) :: l, h, hs => by
    unfold qm_swc at h
    simp only [Bool.and_eq_true, decide_eq_true_eq] at h
    obtain ⟨⟨h1, h2⟩, h3⟩ := h
    unfold qm_tgt at h2
    simp only [decide_eq_true_eq] at h2
    by_cases hx : x = v
    · exact Or.inl ⟨0, o, t, rfl, by rw [hx, h1]; simp, h2, hs.1 hx⟩
    · rcases qm_swcT (lo + 1) os l h3 (hs.2 hx) with ⟨j, off, t', a1, a2, a3, a4⟩ | ⟨a1, a2⟩
      · refine Or.inl ⟨j + 1, off, t', by rw [List.getElem?_cons_succ]; exact a1, by rw [a2]; push_cast; omega, a3, a4⟩
      · refine Or.inr ⟨fun j hj => ?_, a2⟩
        cases j with
        | zero =>
          intro e
          exact hx (Int32.toInt_inj.mp (by rw [e, h1]; simp))
        | succ j =>
          have := a1 j (by simpa using hj)
          intro e
          apply this
          rw [e]
          push_cast
          omega
theorem qm_lscT {K : List (List qm_En)} {pc : Nat} {x : Int32} {k : Nat → Prop} {d : Prop} {dflt : Int} {ax : Nat} (hd : (pc : Int) + dflt = (qm_pc K ax : Int)) : ∀ (ps : List (Int × Int)) (sw : List (Int32 × Nat)), qm_lsc K pc ps sw = true → qm_sw sw x k d →
    (∃ t : Nat, (pc : Int) + Op.lookupswitch.offset ps dflt x.toInt = (qm_pc K t : Int) ∧ k t) ∨ ((pc : Int) + Op.lookupswitch.offset ps dflt x.toInt = (qm_pc K ax : Int) ∧ d)
  | [], [], _, h => Or.inr ⟨hd, h⟩
  | [], _ :: _, h, _ => by simp [qm_lsc] at h
  | _ :: _, [], h, _ => by simp [qm_lsc] at h
  | (a, o) :: os, (v, t) :: l, h, hs => by
    unfold qm_lsc at h
    simp only [Bool.and_eq_true, decide_eq_true_eq] at h
    obtain ⟨⟨h1, h2⟩, h3⟩ := h
    unfold qm_tgt at h2
    simp only [decide_eq_true_eq] at h2
    by_cases hx : x = v
    · refine Or.inl ⟨t, ?_, hs.1 hx⟩
      rw [Op.lookupswitch.offset_cons, if_pos (by rw [hx, h1])]
      exact h2
    · rw [lv_osw hx h1]
      exact qm_lscT hd os l h3 (hs.2 hx)
theorem qm_ct_e {a : Nat} {C : String} (h : qm_CT.any (fun r => Nat.beq r.1 a && decide (qm_oS r.2.1 = C)) = true) : ∃ r ∈ qm_CT, r.1 = a ∧ qm_oS r.2.1 = C := by
  obtain ⟨r, hr, h⟩ := List.any_eq_true.mp h
  simp only [Bool.and_eq_true, Nat.beq_eq, decide_eq_true_eq] at h
  exact ⟨r, hr, h⟩
theorem qm_nc_e {a : Nat} {C : String} (h : qm_NC.any (fun r => Nat.beq r.1 a && decide (qm_oS r.2 = C)) = true) : ∃ r ∈ qm_NC, r.1 = a ∧ qm_oS r.2 = C := by
  obtain ⟨r, hr, h⟩ := List.any_eq_true.mp h
  simp only [Bool.and_eq_true, Nat.beq_eq, decide_eq_true_eq] at h
  exact ⟨r, hr, h⟩
theorem qm_bool2 {a b : Bool} (h : (a || b) = true) : a = true ∨ b = true := by simpa using h
theorem qm_vwCl {k : Nat} (h : k ≤ 12) : ∃ r : vw_C, vwCl[k]? = some r ∧ r.1 = qm_oS k := by
  match k, h with
  | 0, _ | 1, _ | 2, _ | 3, _ | 4, _ | 5, _ | 6, _ | 7, _ | 8, _ | 9, _ | 10, _ | 11, _ | 12, _ => exact ⟨_, rfl, rfl⟩
  | k + 13, h => omega
section SOUND3
variable {p : Program} {l : Launch} {e : Env} {R : Room} {s : State} {m : MethodId} {args : Array Value} {below : List Frame} {meth : Method} {c : Code} {cells slots : Nat} {Z : State → Prop} {G : qm_Pr} {own nL : Nat} {cc : ByteArray} {K : List (List qm_En)} {pc nx ax n : Nat} {kc : Int32} {sw : List (Int32 × Nat)} {dp : List (Nat × Nat)} {L : qm_Lo} {st : List qm_AV} {σ : qm_Sg}
/-- the cell that an object of the world is -/
theorem qm_recv (hK : va_K (gD G) vwCl (qm_ty G) s) {H : Heap} (hP : va_P (gD G) vwCl (qm_ws G σ) H) {t i : Nat} (hcell : (t, i) ∈ qm_cells) (hk : qm_cK t ≤ 12) : ∃ cell : Cell, H[gAd G t i]? = some cell ∧ cell.vm.isStatics = false ∧ s.vm.findClass (qm_oS (qm_cK t)) = some cell.cls := by
  obtain ⟨k, hk2⟩ := qm_at hcell
  have hat := qm_ws_at (G := G) (σ := σ) hk2
  rw [qm_ce_O (by omega)] at hat
  obtain ⟨r, hr, e⟩ := qm_vwCl hk
  rw [← e]
  exact va_recv hK hP hr hat
theorem qs_iaload (F : qm_Fx p s m args c G own nL cc) (hd : decode cc pc = .ok (.iaload, 1)) (hn : qm_pc K nx = pc + 1) (hpc : qm_pc K n = pc) (h : qm_pV st (fun t i x r => bif Nat.beq (qm_cK t) 20 then qm_ex (qm_cN t i) x (fun j => qm_Gd p l e R s m args below meth c cells slots Z G nL K nx L (vI (σ.1 t i j) :: r) σ) else bif Nat.beq (qm_cK t) 28 then qm_ex (σ.1 100 1 0).toNatClampNeg x (fun j => qm_Gd p l e R s m args below meth c cells slots Z G nL K nx L (vI (σ.1 100 0 j) :: r) σ) else False)) : qm_Gd p l e R s m args below meth c cells slots Z G nL K n L st σ := by
  obtain ⟨hx, hb, hml, hown, hts, hK, hE, hG⟩ := F
  obtain ⟨t, i, x, r, rfl, h9⟩ := qm_pV_e h
  replace h := h9
  intro H locs ls hP hS hEs hL hoL hoS
  rw [hpc]
  have ho := qm_oH (qm_oT hoS)
  cases hk : Nat.beq (qm_cK t) 20 <;> rw [hk] at h
  · obtain ⟨hk2, h⟩ := qm_bifT h
    obtain ⟨rfl, rfl⟩ := qm_ok_28 ho (Nat.beq_eq.mp hk2)
    obtain ⟨j, rfl, hj, h⟩ := qm_ex_e h
    obtain ⟨-, -, -, -, ⟨hX, hbl, hbA⟩, -⟩ := hE
    rw [hEs.2.2.2, qm_clm hG.2.2.2] at hj
    have k := h H locs ls hP hS hEs hL hoL (qm_oI (qm_oT (qm_oT hoS)))
    rw [hn] at k
    refine va_sld hx hb hX hbl hbA hS (qm_nIin hj hG.2.2.2) hd ?_
    rw [qm_clm (by have := hG.2.2.2; omega), ← hEs.2.2.1 j]
    exact k
  · have eK : qm_cK t = 20 := Nat.beq_eq.mp hk
    have hcell := qm_ok_cell ho (by omega)
    have hN := (qm_cells_K _ hcell).2
    obtain ⟨j, rfl, hj, h⟩ := qm_ex_e h
    obtain ⟨q, hq⟩ := qm_at hcell
    have hat := qm_ws_at (G := G) (σ := σ) hq
    rw [qm_ce_I (by omega), eK] at hat
    have k := h H locs ls hP hS hEs hL hoL (qm_oI (qm_oT (qm_oT hoS)))
    rw [hn] at k
    show W p l e R s m args below meth c H locs cells slots Z (F0 m pc ls (.int (nI j) :: qm_rv G t i :: r.map (qm_cv G)))
    rw [qm_rv_cell hcell]
    refine va_iald hx hb hK hP q 0 hat rfl (qm_nIin hj (by simp only at hN; omega)) hd ?_
    rw [qm_clm (by simp only at hN; omega)]
    exact k
theorem qs_baload (F : qm_Fx p s m args c G own nL cc) (hd : decode cc pc = .ok (.baload, 1)) (hn : qm_pc K nx = pc + 1) (hpc : qm_pc K n = pc) (h : qm_pV st (fun t i x r => bif Nat.beq (qm_cK t) 21 || Nat.beq (qm_cK t) 22 || Nat.beq (qm_cK t) 27 then qm_ex (qm_cN t i) x (fun j => qm_Gd p l e R s m args below meth c cells slots Z G nL K nx L (vI (σ.1 t i j) :: r) σ) else False)) : qm_Gd p l e R s m args below meth c cells slots Z G nL K n L st σ := by
  obtain ⟨hx, hb, hml, hown, hts, hK, hE, hG⟩ := F
  obtain ⟨t, i, x, r, rfl, h9⟩ := qm_pV_e h
  replace h := h9
  obtain ⟨hk, h⟩ := qm_bifT h
  intro H locs ls hP hS hEs hL hoL hoS
  rw [hpc]
  have ho := qm_oH (qm_oT hoS)
  obtain ⟨j, rfl, hj, h⟩ := qm_ex_e h
  have k := h H locs ls hP hS hEs hL hoL (qm_oI (qm_oT (qm_oT hoS)))
  rw [hn] at k
  rcases qm_bool2 hk with hk | hk
  · have eK : qm_cK t = 21 ∨ qm_cK t = 22 := by
      rcases qm_bool2 hk with hk | hk
      · exact Or.inl (Nat.beq_eq.mp hk)
      · exact Or.inr (Nat.beq_eq.mp hk)
    have hcell := qm_ok_cell ho (by omega)
    have hN := (qm_cells_K _ hcell).2
    obtain ⟨q, hq⟩ := qm_at hcell
    have hat := qm_ws_at (G := G) (σ := σ) hq
    rw [qm_ce_I (by omega)] at hat
    show W p l e R s m args below meth c H locs cells slots Z (F0 m pc ls (.int (nI j) :: qm_rv G t i :: r.map (qm_cv G)))
    rw [qm_rv_cell hcell]
    rcases eK with eK | eK <;> rw [eK] at hat
    · refine va_bald hx hb hK hP q 1 hat rfl (qm_nIin hj (by simp only at hN; omega)) hd ?_
      rw [qm_clm (by simp only at hN; omega)]
      exact k
    · refine va_zald hx hb hK hP q 2 hat rfl (qm_nIin hj (by simp only at hN; omega)) hd ?_
      rw [qm_clm (by simp only at hN; omega)]
      exact k
  · obtain ⟨rfl, hi⟩ := qm_ok_27 ho (Nat.beq_eq.mp hk)
    obtain ⟨-, e2, -⟩ := hE
    obtain ⟨v1, v2, v3, v4⟩ := e2.1 i hi
    have hN : qm_cN 102 i = qm_sN.getD i 0 ∧ qm_sN.getD i 0 < 10 := by
      match i, hi with
      | 0, _ | 1, _ | 2, _ | 3, _ | 4, _ | 5, _ | 6, _ | 7, _ => exact ⟨by decide +kernel, by decide +kernel⟩
      | i + 8, hi => omega
    refine va_tb hx hb v4 hS (qm_nIin (by rw [← hN.1]; exact hj) (by omega)) (v := .int (σ.1 102 i j)) ?_ hd k
    rw [qm_clm (by omega), hEs.2.1 i j hi]
theorem qs_laload (F : qm_Fx p s m args c G own nL cc) (hd : decode cc pc = .ok (.laload, 1)) (hn : qm_pc K nx = pc + 1) (hpc : qm_pc K n = pc) (h : qm_pV st (fun t i x r => bif Nat.beq (qm_cK t) 23 then qm_ex (qm_cN t i) x (fun j => qm_Gd p l e R s m args below meth c cells slots Z G nL K nx L (vL (σ.2 t i j) :: r) σ) else False)) : qm_Gd p l e R s m args below meth c cells slots Z G nL K n L st σ := by
  obtain ⟨hx, hb, hml, hown, hts, hK, hE, hG⟩ := F
  obtain ⟨t, i, x, r, rfl, h9⟩ := qm_pV_e h
  replace h := h9
  obtain ⟨hk, h⟩ := qm_bifT h
  intro H locs ls hP hS hEs hL hoL hoS
  rw [hpc]
  have ho := qm_oH (qm_oT hoS)
  obtain ⟨j, rfl, hj, h⟩ := qm_ex_e h
  have k := h H locs ls hP hS hEs hL hoL (qm_oJ (qm_oT (qm_oT hoS)))
  rw [hn] at k
  have eK : qm_cK t = 23 := Nat.beq_eq.mp hk
  have hcell := qm_ok_cell ho (by omega)
  have hN := (qm_cells_K _ hcell).2
  obtain ⟨q, hq⟩ := qm_at hcell
  have hat := qm_ws_at (G := G) (σ := σ) hq
  rw [qm_ce_J eK] at hat
  show W p l e R s m args below meth c H locs cells slots Z (F0 m pc ls (.int (nI j) :: qm_rv G t i :: r.map (qm_cv G)))
  rw [qm_rv_cell hcell]
  refine va_lald hx hb hK hP q 3 hat rfl (qm_nIin hj (by simp only at hN; omega)) hd ?_
  rw [qm_clm (by simp only at hN; omega)]
  exact k
theorem qs_aaload (F : qm_Fx p s m args c G own nL cc) (hd : decode cc pc = .ok (.aaload, 1)) (hn : qm_pc K nx = pc + 1) (hpc : qm_pc K n = pc) (h : qm_pV st (fun t i x r => bif Nat.beq (qm_cK t) 24 || Nat.beq (qm_cK t) 25 || Nat.beq (qm_cK t) 26 then qm_ex (qm_cN t i) x (fun j => qm_op (qm_cR t i j) (fun q => qm_Gd p l e R s m args below meth c cells slots Z G nL K nx L (.inr q :: r) σ) False) else False)) : qm_Gd p l e R s m args below meth c cells slots Z G nL K n L st σ := by
  obtain ⟨hx, hb, hml, hown, hts, hK, hE, hG⟩ := F
  obtain ⟨t, i, x, r, rfl, h9⟩ := qm_pV_e h
  replace h := h9
  obtain ⟨hk, h⟩ := qm_bifT h
  intro H locs ls hP hS hEs hL hoL hoS
  rw [hpc]
  have ho := qm_oH (qm_oT hoS)
  obtain ⟨j, rfl, hj, h⟩ := qm_ex_e h
  have eK : qm_cK t = 24 ∨ qm_cK t = 25 ∨ qm_cK t = 26 := by
    rcases qm_bool2 hk with hk | hk
    · rcases qm_bool2 hk with hk | hk
      · exact Or.inl (Nat.beq_eq.mp hk)
      · exact Or.inr (Or.inl (Nat.beq_eq.mp hk))
    · exact Or.inr (Or.inr (Nat.beq_eq.mp hk))
  have hcell := qm_ok_cell ho (by omega)
  have hN := (qm_cells_K _ hcell).2
  cases hr : qm_cR t i j with
  | none => rw [hr] at h; exact h.elim
  | some q0 =>
    rw [hr] at h
    obtain ⟨t', i'⟩ := q0
    have hc2 := qm_refs_ok _ hcell j hj _ hr
    have k := h H locs ls hP hS hEs hL hoL (qm_oC (qm_ok_of hc2) (qm_oT (qm_oT hoS)))
    rw [hn] at k
    obtain ⟨q, hq⟩ := qm_at hcell
    have hat := qm_ws_at (G := G) (σ := σ) hq
    rw [qm_ce_R eK] at hat
    show W p l e R s m args below meth c H locs cells slots Z (F0 m pc ls (.int (nI j) :: qm_rv G t i :: r.map (qm_cv G)))
    rw [qm_rv_cell hcell]
    have hty : ∃ ty, (qm_ty G)[qm_cK t - 20]? = some (gTy G (qm_cK t), ty) ∧ ty.isReference = true := by
      rcases eK with eK | eK | eK <;> rw [eK] <;> exact ⟨_, rfl, by decide +kernel⟩
    obtain ⟨ty, ht, hre⟩ := hty
    have hcl : (nI j).toNatClampNeg = j := qm_clm (by simp only at hN; omega)
    have hin9 : vp_in (nI j) (qm_cN t i) := qm_nIin hj (by simp only at hN; omega)
    refine W.aald (v := va_rf ((qm_cR t i (nI j).toNatClampNeg).map (fun q => gAd G q.1 q.2))) (ty := ty) hx hb (hP q _ hat) ((hK.2 _ _ ht).1 (qm_cN t i) (fun j => va_rf ((qm_cR t i j).map (fun q => gAd G q.1 q.2)))) hre (fun q => by cases q) (by show ¬ (nI j < 0 ∨ (arrV _ _ _).slots.size ≤ _); rw [arrV_size]; exact hin9) (by show (arrV _ _ _).slots[_]? = _; rw [arrV_read _ _ (by rw [hcl]; exact hj)]) rfl rfl hd ?_
    rw [hcl, hr]
    show W p l e R s m args below meth c H locs cells slots Z (F0 m (pc + 1) ls (.ref (gAd G t' i') :: r.map (qm_cv G)))
    rw [← qm_rv_cell hc2]
    exact k
theorem qs_iastore (F : qm_Fx p s m args c G own nL cc) (hd : decode cc pc = .ok (.iastore, 1)) (hn : qm_pc K nx = pc + 1) (hpc : qm_pc K n = pc) (h : qm_pW st (fun t i x y r => bif Nat.beq (qm_cK t) 20 then qm_ex (qm_cN t i) x (fun j => qm_Gd p l e R s m args below meth c cells slots Z G nL K nx L r (wF σ t i (upd (σ.1 t i) j y))) else False)) : qm_Gd p l e R s m args below meth c cells slots Z G nL K n L st σ := by
  obtain ⟨hx, hb, hml, hown, hts, hK, hE, hG⟩ := F
  obtain ⟨t, i, x, y, r, rfl, h9⟩ := qm_pW_e h
  replace h := h9
  obtain ⟨hk, h⟩ := qm_bifT h
  intro H locs ls hP hS hEs hL hoL hoS
  rw [hpc]
  have ho := qm_oH (qm_oT (qm_oT hoS))
  obtain ⟨j, rfl, hj, h⟩ := qm_ex_e h
  have eK : qm_cK t = 20 := Nat.beq_eq.mp hk
  have hcell := qm_ok_cell ho (by omega)
  have hlt := qm_cells_lt _ hcell
  have hN := (qm_cells_K _ hcell).2
  obtain ⟨q, hq⟩ := qm_at hcell
  have hat := qm_ws_at (G := G) (σ := σ) hq
  rw [qm_ce_I (by omega), eK] at hat
  show W p l e R s m args below meth c H locs cells slots Z (F0 m pc ls (.int y :: .int (nI j) :: qm_rv G t i :: r.map (qm_cv G)))
  rw [qm_rv_cell hcell]
  refine va_iast hx hb hK hP (qm_ws_D hG σ) hS q 0 hat rfl (qm_nIin hj (by simp only at hN; omega)) hd (fun H1 locs1 hP1 hD1 hS1 => ?_)
  rw [qm_clm (by simp only at hN; omega)] at hP1
  have hce : qm_ce G (wF σ t i (upd (σ.1 t i) j y)) t i = .inl (gTy G 20, qm_cN t i, .inl (upd (σ.1 t i) j y)) := by rw [qm_ce_I (by omega), wF_same, eK]
  rw [← hce, qm_ws_set hq (fun q _ hne => qm_ce_wF hne)] at hP1
  have k := h H1 locs1 ls hP1 hS1 (qm_Es_wF hlt hEs) hL hoL (qm_oT (qm_oT (qm_oT hoS)))
  rw [hn] at k
  exact k
theorem qs_bastore (F : qm_Fx p s m args c G own nL cc) (hd : decode cc pc = .ok (.bastore, 1)) (hn : qm_pc K nx = pc + 1) (hpc : qm_pc K n = pc) (h : qm_pW st (fun t i x y r => bif Nat.beq (qm_cK t) 21 then qm_ex (qm_cN t i) x (fun j => qm_Gd p l e R s m args below meth c cells slots Z G nL K nx L r (wF σ t i (upd (σ.1 t i) j (vp_nar .byte y)))) else bif Nat.beq (qm_cK t) 22 then qm_ex (qm_cN t i) x (fun j => qm_Gd p l e R s m args below meth c cells slots Z G nL K nx L r (wF σ t i (upd (σ.1 t i) j (vp_nar .boolean y)))) else False)) : qm_Gd p l e R s m args below meth c cells slots Z G nL K n L st σ := by
  obtain ⟨hx, hb, hml, hown, hts, hK, hE, hG⟩ := F
  obtain ⟨t, i, x, y, r, rfl, h9⟩ := qm_pW_e h
  replace h := h9
  intro H locs ls hP hS hEs hL hoL hoS
  rw [hpc]
  have ho := qm_oH (qm_oT (qm_oT hoS))
  cases hk : Nat.beq (qm_cK t) 21 <;> rw [hk] at h
  · obtain ⟨hk, h⟩ := qm_bifT h
    obtain ⟨j, rfl, hj, h⟩ := qm_ex_e h
    have eK : qm_cK t = 22 := Nat.beq_eq.mp hk
    have hcell := qm_ok_cell ho (by omega)
    have hlt := qm_cells_lt _ hcell
    have hN := (qm_cells_K _ hcell).2
    obtain ⟨q, hq⟩ := qm_at hcell
    have hat := qm_ws_at (G := G) (σ := σ) hq
    rw [qm_ce_I (by omega), eK] at hat
    show W p l e R s m args below meth c H locs cells slots Z (F0 m pc ls (.int y :: .int (nI j) :: qm_rv G t i :: r.map (qm_cv G)))
    rw [qm_rv_cell hcell]
    refine va_zast hx hb hK hP (qm_ws_D hG σ) hS q 2 hat rfl (qm_nIin hj (by simp only at hN; omega)) hd (fun H1 locs1 hP1 hD1 hS1 => ?_)
    rw [qm_clm (by simp only at hN; omega)] at hP1
    have hce : qm_ce G (wF σ t i (upd (σ.1 t i) j (vp_nar .boolean y))) t i = .inl (gTy G 22, qm_cN t i, .inl (upd (σ.1 t i) j (vp_nar .boolean y))) := by rw [qm_ce_I (by omega), wF_same, eK]
    rw [← hce, qm_ws_set hq (fun q _ hne => qm_ce_wF hne)] at hP1
    have k := h H1 locs1 ls hP1 hS1 (qm_Es_wF hlt hEs) hL hoL (qm_oT (qm_oT (qm_oT hoS)))
    rw [hn] at k
    exact k
  · obtain ⟨j, rfl, hj, h⟩ := qm_ex_e h
    have eK : qm_cK t = 21 := Nat.beq_eq.mp hk
    have hcell := qm_ok_cell ho (by omega)
    have hlt := qm_cells_lt _ hcell
    have hN := (qm_cells_K _ hcell).2
    obtain ⟨q, hq⟩ := qm_at hcell
    have hat := qm_ws_at (G := G) (σ := σ) hq
    rw [qm_ce_I (by omega), eK] at hat
    show W p l e R s m args below meth c H locs cells slots Z (F0 m pc ls (.int y :: .int (nI j) :: qm_rv G t i :: r.map (qm_cv G)))
    rw [qm_rv_cell hcell]
    refine va_bast hx hb hK hP (qm_ws_D hG σ) hS q 1 hat rfl (qm_nIin hj (by simp only at hN; omega)) hd (fun H1 locs1 hP1 hD1 hS1 => ?_)
    rw [qm_clm (by simp only at hN; omega)] at hP1
    have hce : qm_ce G (wF σ t i (upd (σ.1 t i) j (vp_nar .byte y))) t i = .inl (gTy G 21, qm_cN t i, .inl (upd (σ.1 t i) j (vp_nar .byte y))) := by rw [qm_ce_I (by omega), wF_same, eK]
    rw [← hce, qm_ws_set hq (fun q _ hne => qm_ce_wF hne)] at hP1
    have k := h H1 locs1 ls hP1 hS1 (qm_Es_wF hlt hEs) hL hoL (qm_oT (qm_oT (qm_oT hoS)))
    rw [hn] at k
    exact k
theorem qs_lastore (F : qm_Fx p s m args c G own nL cc) (hd : decode cc pc = .ok (.lastore, 1)) (hn : qm_pc K nx = pc + 1) (hpc : qm_pc K n = pc) (h : qm_pX st (fun t i x y r => bif Nat.beq (qm_cK t) 23 then qm_ex (qm_cN t i) x (fun j => qm_Gd p l e R s m args below meth c cells slots Z G nL K nx L r (wG σ t i (vp_updL (σ.2 t i) j y))) else False)) : qm_Gd p l e R s m args below meth c cells slots Z G nL K n L st σ := by
  obtain ⟨hx, hb, hml, hown, hts, hK, hE, hG⟩ := F
  obtain ⟨t, i, x, y, r, rfl, h9⟩ := qm_pX_e h
  replace h := h9
  obtain ⟨hk, h⟩ := qm_bifT h
  intro H locs ls hP hS hEs hL hoL hoS
  rw [hpc]
  have ho := qm_oH (qm_oT (qm_oT hoS))
  obtain ⟨j, rfl, hj, h⟩ := qm_ex_e h
  have eK : qm_cK t = 23 := Nat.beq_eq.mp hk
  have hcell := qm_ok_cell ho (by omega)
  have hN := (qm_cells_K _ hcell).2
  obtain ⟨q, hq⟩ := qm_at hcell
  have hat := qm_ws_at (G := G) (σ := σ) hq
  rw [qm_ce_J eK] at hat
  show W p l e R s m args below meth c H locs cells slots Z (F0 m pc ls (.long y :: .int (nI j) :: qm_rv G t i :: r.map (qm_cv G)))
  rw [qm_rv_cell hcell]
  refine va_last hx hb hK hP (qm_ws_D hG σ) hS q 3 hat rfl (qm_nIin hj (by simp only at hN; omega)) hd (fun H1 locs1 hP1 hD1 hS1 => ?_)
  rw [qm_clm (by simp only at hN; omega)] at hP1
  have hce : qm_ce G (wG σ t i (vp_updL (σ.2 t i) j y)) t i = .inl (gTy G 23, qm_cN t i, .inr (.inl (vp_updL (σ.2 t i) j y))) := by rw [qm_ce_J eK, wG_same]
  rw [← hce, qm_ws_set hq (fun q _ hne => qm_ce_wG hne)] at hP1
  have k := h H1 locs1 ls hP1 hS1 (qm_Es_wG hEs) hL hoL (qm_oT (qm_oT (qm_oT hoS)))
  rw [hn] at k
  exact k
theorem qs_alen (F : qm_Fx p s m args c G own nL cc) (hd : decode cc pc = .ok (.arraylength, 1)) (hn : qm_pc K nx = pc + 1) (hpc : qm_pc K n = pc) (h : qm_pR st (fun t i r => bif Nat.ble (qm_cK t) 19 then False else bif Nat.ble (qm_cK t) 27 then qm_Gd p l e R s m args below meth c cells slots Z G nL K nx L (vI (nI (qm_cN t i)) :: r) σ else bif Nat.beq (qm_cK t) 28 then qm_Gd p l e R s m args below meth c cells slots Z G nL K nx L (vI (σ.1 100 1 0) :: r) σ else False)) : qm_Gd p l e R s m args below meth c cells slots Z G nL K n L st σ := by
  obtain ⟨hx, hb, hml, hown, hts, hK, hE, hG⟩ := F
  obtain ⟨t, i, r, rfl, h9⟩ := qm_pR_e h
  replace h := h9
  obtain ⟨h19, h⟩ := qm_bifF h
  have h19 : ¬ qm_cK t ≤ 19 := fun q => by rw [Nat.ble_eq.mpr q] at h19; cases h19
  intro H locs ls hP hS hEs hL hoL hoS
  rw [hpc]
  have ho := qm_oH hoS
  cases h27 : Nat.ble (qm_cK t) 27 <;> rw [h27] at h
  · obtain ⟨hk2, h⟩ := qm_bifT h
    obtain ⟨rfl, rfl⟩ := qm_ok_28 ho (Nat.beq_eq.mp hk2)
    obtain ⟨-, -, -, -, ⟨hX, hbl, hbA⟩, -⟩ := hE
    have k := h H locs ls hP hS hEs hL hoL (qm_oI (qm_oT hoS))
    rw [hn, hEs.2.2.2] at k
    exact va_slen hx hb hX hbl hbA hS hd k
  · have h27 : qm_cK t ≤ 27 := Nat.ble_eq.mp h27
    have k := h H locs ls hP hS hEs hL hoL (qm_oI (qm_oT hoS))
    rw [hn] at k
    by_cases e27 : qm_cK t = 27
    · obtain ⟨rfl, hi⟩ := qm_ok_27 ho e27
      obtain ⟨-, e2, -⟩ := hE
      obtain ⟨v1, v2, v3, v4⟩ := e2.1 i hi
      refine va_tlen hx hb v4 hS (v := nI (qm_cN 102 i)) ?_ hd k
      match i, hi with
      | 0, _ | 1, _ | 2, _ | 3, _ | 4, _ | 5, _ | 6, _ | 7, _ => decide +kernel
      | i + 8, hi => omega
    · have hcell := qm_ok_cell ho (by omega)
      obtain ⟨q, hq⟩ := qm_at hcell
      have hat := qm_ws_at (G := G) (σ := σ) hq
      show W p l e R s m args below meth c H locs cells slots Z (F0 m pc ls (qm_rv G t i :: r.map (qm_cv G)))
      rw [qm_rv_cell hcell]
      rcases (show qm_cK t = 20 ∨ qm_cK t = 21 ∨ qm_cK t = 22 ∨ qm_cK t = 23 ∨ qm_cK t = 24 ∨ qm_cK t = 25 ∨ qm_cK t = 26 by omega) with eK | eK | eK | eK | eK | eK | eK
      · rw [qm_ce_I (by omega), eK] at hat; exact va_alen hx hb hK hP q 0 hat rfl rfl hd k
      · rw [qm_ce_I (by omega), eK] at hat; exact va_alen hx hb hK hP q 1 hat rfl rfl hd k
      · rw [qm_ce_I (by omega), eK] at hat; exact va_alen hx hb hK hP q 2 hat rfl rfl hd k
      · rw [qm_ce_J eK] at hat; exact va_alen hx hb hK hP q 3 hat rfl rfl hd k
      · rw [qm_ce_R (by omega), eK] at hat; exact va_alen hx hb hK hP q 4 hat rfl rfl hd k
      · rw [qm_ce_R (by omega), eK] at hat; exact va_alen hx hb hK hP q 5 hat rfl rfl hd k
      · rw [qm_ce_R (by omega), eK] at hat; exact va_alen hx hb hK hP q 6 hat rfl rfl hd k
theorem qs_instanceof {idx : Nat} {C : String} (F : qm_Fx p s m args c G own nL cc) (hd : decode cc pc = .ok (.instanceof idx, 3)) (hn : qm_pc K nx = pc + 3) (hw : Cond.classLink (qm_oS own) idx C ∈ qm_gt) (hc : dp.all (qm_in? C) = true) (hpc : qm_pc K n = pc) (h : qm_pR st (fun t _ r => qm_dsp dp (qm_cK t) (fun f => qm_Gd p l e R s m args below meth c cells slots Z G nL K nx L (vI (bif Nat.beq f 1 then 1 else 0) :: r) σ))) : qm_Gd p l e R s m args below meth c cells slots Z G nL K n L st σ := by
  obtain ⟨hx, hb, hml, hown, hts, hK, hE, hG⟩ := F
  obtain ⟨t, i, r, rfl, h9⟩ := qm_pR_e h
  replace h := h9
  obtain ⟨f, hf, h⟩ := qm_dsp_e _ _ h
  intro H locs ls hP hS hEs hL hoL hoS
  rw [hpc]
  have ho := qm_oH hoS
  have h2 := List.all_eq_true.mp hc _ hf
  unfold qm_in? at h2
  simp only [Bool.and_eq_true, Nat.ble_eq] at h2
  obtain ⟨h12, h2⟩ := h2
  have hcell := qm_ok_cell ho (by omega)
  have hre := qm_recv hK hP hcell h12
  have k := h H locs ls hP hS hEs hL hoL (qm_oI (qm_oT hoS))
  rw [hn] at k
  show W p l e R s m args below meth c H locs cells slots Z (F0 m pc ls (qm_rv G t i :: r.map (qm_cv G)))
  rw [qm_rv_cell hcell]
  cases hf1 : Nat.beq f 1 <;> rw [hf1] at h2 k
  · obtain ⟨q, hq, e1, e2⟩ := qm_nc_e h2
    have hz := hE.2.2.2.2.2.1 q hq
    rw [e1, e2] at hz
    exact va_instNo hx hb hown (hts _ hw) hz hre hd k
  · rcases qm_bool2 h2 with h2 | h2
    · have eC : qm_oS (qm_cK t) = C := of_decide_eq_true h2
      obtain ⟨r9, hr9, e9⟩ := qm_vwCl h12
      have hcl := (hK.1 _ _ hr9).2
      rw [e9, eC] at hcl
      rw [eC] at hre
      exact va_instS hx hb hown (hts _ hw) hcl hre hd k
    · obtain ⟨q, hq, e1, e2⟩ := qm_ct_e h2
      have hz := hE.2.2.2.2.2.2 q hq
      rw [e1, e2] at hz
      exact va_instY hx hb hown (hts _ hw) hz hre hd k
theorem qs_gets0 {idx : Nat} (F : qm_Fx p s m args c G own nL cc) (hd : decode cc pc = .ok (.getstatic idx, 3)) (hn : qm_pc K nx = pc + 3) (hw : Cond.fieldLink (qm_oS own) idx "java/lang/String" "COMPACT_STRINGS" "Z" ∈ qm_gt) (hpc : qm_pc K n = pc) (h : qm_Gd p l e R s m args below meth c cells slots Z G nL K nx L (vI 1 :: st) σ) : qm_Gd p l e R s m args below meth c cells slots Z G nL K n L st σ := by
  obtain ⟨hx, hb, hml, hown, hts, hK, hE, hG⟩ := F
  intro H locs ls hP hS hEs hL hoL hoS
  rw [hpc]
  have k := h H locs ls hP hS hEs hL hoL (qm_oI hoS)
  rw [hn] at k
  exact va_gets hx hb hE.2.2.1 hS hown (hts _ hw) (fun _ h9 => h9) hd k
theorem qs_gets1 {idx : Nat} (F : qm_Fx p s m args c G own nL cc) (hd : decode cc pc = .ok (.getstatic idx, 3)) (hn : qm_pc K nx = pc + 3) (hw : Cond.fieldLink (qm_oS own) idx "jdk/internal/util/Preconditions" "SIOOBE_FORMATTER" "Ljava/util/function/BiFunction;" ∈ qm_gt) (hpc : qm_pc K n = pc) (h : qm_Gd p l e R s m args below meth c cells slots Z G nL K nx L (vR 105 0 :: st) σ) : qm_Gd p l e R s m args below meth c cells slots Z G nL K n L st σ := by
  obtain ⟨hx, hb, hml, hown, hts, hK, hE, hG⟩ := F
  intro H locs ls hP hS hEs hL hoL hoS
  rw [hpc]
  have k := h H locs ls hP hS hEs hL hoL (qm_oC (show qm_ok 105 0 = true by unfold qm_ok; simp) hoS)
  rw [hn] at k
  exact va_gets hx hb hE.2.2.2.1 hS hown (hts _ hw) (fun _ h9 => h9) hd k
theorem qs_ldc {idx : Nat} (F : qm_Fx p s m args c G own nL cc) (hd : decode cc pc = .ok (.ldc idx, 2)) (hn : qm_pc K nx = pc + 2) (ho8 : own = 8) (hi8 : ax < 8) (hix : idx = qm_sx ax) (hpc : qm_pc K n = pc) (h : qm_Gd p l e R s m args below meth c cells slots Z G nL K nx L (vR 101 ax :: st) σ) : qm_Gd p l e R s m args below meth c cells slots Z G nL K n L st σ := by
  obtain ⟨hx, hb, hml, hown, hts, hK, hE, hG⟩ := F
  intro H locs ls hP hS hEs hL hoL hoS
  rw [hpc]
  have k := h H locs ls hP hS hEs hL hoL (qm_oC (show qm_ok 101 ax = true by unfold qm_ok; simp [hi8]) hoS)
  rw [hn] at k
  subst ho8
  subst hix
  obtain ⟨tx, hR⟩ := hE.1 ax hi8
  exact va_ldcS hx hb hown hR hd k
theorem qs_dup (F : qm_Fx p s m args c G own nL cc) (hd : decode cc pc = .ok (.dup, 1)) (hn : qm_pc K nx = pc + 1) (hpc : qm_pc K n = pc) (h : (match st with
    | v :: r => bif Nat.beq (qm_cat v) 1 then qm_Gd p l e R s m args below meth c cells slots Z G nL K nx L (v :: v :: r) σ else False
    | [] => False)) : qm_Gd p l e R s m args below meth c cells slots Z G nL K n L st σ := by
  obtain ⟨hx, hb, hml, hown, hts, hK, hE, hG⟩ := F
  cases st with
  | nil => exact h.elim
  | cons v r =>
    obtain ⟨h1, h⟩ := qm_bifT h
    intro H locs ls hP hS hEs hL hoL hoS
    rw [hpc]
    have k := h H locs ls hP hS hEs hL hoL (qm_oC (qm_oH hoS) hoS)
    rw [hn] at k
    exact lv_dup hx hb hd (by rw [qm_cat_cv hG.2.2.1]; exact Nat.beq_eq.mp h1) k
theorem qs_dup2 (F : qm_Fx p s m args c G own nL cc) (hd : decode cc pc = .ok (.dup2, 1)) (hn : qm_pc K nx = pc + 1) (hpc : qm_pc K n = pc) (h : (match st with
    | v :: w :: r => bif Nat.beq (qm_cat v) 1 && Nat.beq (qm_cat w) 1 then qm_Gd p l e R s m args below meth c cells slots Z G nL K nx L (v :: w :: v :: w :: r) σ else False
    | _ => False)) : qm_Gd p l e R s m args below meth c cells slots Z G nL K n L st σ := by
  obtain ⟨hx, hb, hml, hown, hts, hK, hE, hG⟩ := F
  match st, h with
  | [], h => exact h.elim
  | [_], h => exact h.elim
  | v :: w :: r, h =>
    obtain ⟨h1, h⟩ := qm_bifT h
    simp only [Bool.and_eq_true, Nat.beq_eq] at h1
    intro H locs ls hP hS hEs hL hoL hoS
    rw [hpc]
    have k := h H locs ls hP hS hEs hL hoL (qm_oC (qm_oH hoS) (qm_oC (qm_oH (qm_oT hoS)) hoS))
    rw [hn] at k
    exact lv_dup2_11 hx hb hd (by rw [qm_cat_cv hG.2.2.1]; exact h1.1) (by rw [qm_cat_cv hG.2.2.1]; exact h1.2) k
theorem qs_pop (F : qm_Fx p s m args c G own nL cc) (hd : decode cc pc = .ok (.pop, 1)) (hn : qm_pc K nx = pc + 1) (hpc : qm_pc K n = pc) (h : (match st with
    | v :: r => bif Nat.beq (qm_cat v) 1 then qm_Gd p l e R s m args below meth c cells slots Z G nL K nx L r σ else False
    | [] => False)) : qm_Gd p l e R s m args below meth c cells slots Z G nL K n L st σ := by
  obtain ⟨hx, hb, hml, hown, hts, hK, hE, hG⟩ := F
  cases st with
  | nil => exact h.elim
  | cons v r =>
    obtain ⟨h1, h⟩ := qm_bifT h
    intro H locs ls hP hS hEs hL hoL hoS
    rw [hpc]
    have k := h H locs ls hP hS hEs hL hoL (qm_oT hoS)
    rw [hn] at k
    exact lv_pop hx hb hd (by rw [qm_cat_cv hG.2.2.1]; exact Nat.beq_eq.mp h1) k
theorem qs_table {dflt lo hi : Int} {offs : Array Int} {len : Nat} (F : qm_Fx p s m args c G own nL cc) (hd : decode cc pc = .ok (.tableswitch dflt lo hi offs, len))  (ht : (pc : Int) + dflt = (qm_pc K ax : Int)) (hs : hi - lo + 1 = (offs.size : Int)) (hc : qm_swc K pc lo offs.toList sw = true) (hpc : qm_pc K n = pc) (h : qm_p1 st (fun x r => qm_sw sw x (fun n => qm_Gd p l e R s m args below meth c cells slots Z G nL K n L r σ) (qm_Gd p l e R s m args below meth c cells slots Z G nL K ax L r σ))) : qm_Gd p l e R s m args below meth c cells slots Z G nL K n L st σ := by
  obtain ⟨hx, hb, hml, hown, hts, hK, hE, hG⟩ := F
  obtain ⟨x, r, rfl, h9⟩ := qm_p1_e h
  replace h := h9
  intro H locs ls hP hS hEs hL hoL hoS
  rw [hpc]
  rcases qm_swcT _ _ _ hc h with ⟨j, off, t, a1, a2, a3, a4⟩ | ⟨a1, a2⟩
  · have hj : j < offs.size := by
      have := (List.getElem?_eq_some_iff.mp a1).1
      rwa [Array.length_toList] at this
    refine lv_tableIn hx hb hd (by omega) (by omega) (off := off) ?_ a3 (a4 H locs ls hP hS hEs hL hoL (qm_oT hoS))
    rw [a2, show lo + (j : Int) - lo = (j : Int) by omega, Int.toNat_natCast, ← Array.getElem?_toList]
    exact a1
  · refine lv_tableOut hx hb hd ?_ ht (a2 H locs ls hP hS hEs hL hoL (qm_oT hoS))
    rcases Int.lt_or_le x.toInt lo with q | q
    · exact Or.inl q
    · refine Or.inr ?_
      rcases Int.lt_or_le hi x.toInt with q2 | q2
      · exact q2
      · exfalso
        refine a1 (x.toInt - lo).toNat ?_ ?_
        · rw [Array.length_toList]; omega
        · omega
theorem qs_lookup {dflt : Int} {ps : Array (Int × Int)} {len : Nat} (F : qm_Fx p s m args c G own nL cc) (hd : decode cc pc = .ok (.lookupswitch dflt ps, len))  (ht : (pc : Int) + dflt = (qm_pc K ax : Int)) (hs : (ps.toList.zip (ps.toList.drop 1)).all (fun (a, next) => a.1 < next.1) = true) (hc : qm_lsc K pc ps.toList sw = true) (hpc : qm_pc K n = pc) (h : qm_p1 st (fun x r => qm_sw sw x (fun n => qm_Gd p l e R s m args below meth c cells slots Z G nL K n L r σ) (qm_Gd p l e R s m args below meth c cells slots Z G nL K ax L r σ))) : qm_Gd p l e R s m args below meth c cells slots Z G nL K n L st σ := by
  obtain ⟨hx, hb, hml, hown, hts, hK, hE, hG⟩ := F
  obtain ⟨x, r, rfl, h9⟩ := qm_p1_e h
  replace h := h9
  intro H locs ls hP hS hEs hL hoL hoS
  rw [hpc]
  rcases qm_lscT ht _ _ hc h with ⟨t, a3, a4⟩ | ⟨a3, a4⟩
  · exact lv_lookup hx hb hd hs rfl a3 (a4 H locs ls hP hS hEs hL hoL (qm_oT hoS))
  · exact lv_lookup hx hb hd hs rfl a3 (a4 H locs ls hP hS hEs hL hoL (qm_oT hoS))
set_option maxRecDepth 100000 in
theorem qm_max_c : Cond.code Lib.Math.max.name Lib.Math.max.code 2 (some .int) ∈ qm_gt := qm_gt_tb (p := 404) rfl rfl
theorem qm_max_s : Cond.static Lib.Math.max.name ∈ qm_gt := qm_gt_tb (p := 403) (by decide +kernel) rfl
set_option maxRecDepth 100000 in
theorem qm_min_c : Cond.code Lib.Math.min.name Lib.Math.min.code 2 (some .int) ∈ qm_gt := qm_gt_tb (p := 401) rfl rfl
theorem qm_min_s : Cond.static Lib.Math.min.name ∈ qm_gt := qm_gt_tb (p := 400) (by decide +kernel) rfl
theorem qm_math_i : Cond.initialized "java/lang/Math" ∈ qm_gt := qm_gt_tb (p := 16) (by decide +kernel) rfl
theorem qm_cp_n : Cond.native arraycopyName ∈ qm_gt := qm_gt_tb (p := 385) (by decide +kernel) rfl
theorem qm_cp_s : Cond.static arraycopyName ∈ qm_gt := qm_gt_tb (p := 384) (by decide +kernel) rfl
theorem qm_cp_i : Cond.initialized "java/lang/System" ∈ qm_gt := qm_gt_tb (p := 15) (by decide +kernel) rfl
theorem qs_max {idx : Nat} (F : qm_Fx p s m args c G own nL cc) (hd : decode cc pc = .ok (.invokestatic idx, 3)) (hn : qm_pc K nx = pc + 3) (hR : 1 ≤ R.frames ∧ 60 ≤ R.locals ∧ cells ≤ R.cells ∧ slots ≤ R.slots) (hw : Cond.methodLink (qm_oS own) idx Lib.Math.max.name ∈ qm_gt) (hpc : qm_pc K n = pc) (h : qm_p2 st (fun x y r => bif Nat.ble (qm_cs r) 8 then qm_Gd p l e R s m args below meth c cells slots Z G nL K nx L (vI (if x < y then y else x) :: r) σ else False)) : qm_Gd p l e R s m args below meth c cells slots Z G nL K n L st σ := by
  obtain ⟨hx, hb, hml, hown, hts, hK, hE, hG⟩ := F
  obtain ⟨x, y, r, rfl, h9⟩ := qm_p2_e h
  replace h := h9
  obtain ⟨h8, h⟩ := qm_bifT h
  intro H locs ls hP hS hEs hL hoL hoS
  rw [hpc]
  have k := h H locs ls hP hS hEs hL hoL (qm_oI (qm_oT (qm_oT hoS)))
  rw [hn] at k
  have h8 := Nat.ble_eq.mp h8
  exact va_mmax hx hb (hml.trans hL.2.1.symm) hown (hts _ hw) (hts _ qm_max_s) (hts _ qm_math_i) (hts _ qm_max_c) hR.1 (by rw [qm_cs_cv hG.2.2.1]; omega) hR.2.2.1 hR.2.2.2 hd k
theorem qs_min {idx : Nat} (F : qm_Fx p s m args c G own nL cc) (hd : decode cc pc = .ok (.invokestatic idx, 3)) (hn : qm_pc K nx = pc + 3) (hR : 1 ≤ R.frames ∧ 60 ≤ R.locals ∧ cells ≤ R.cells ∧ slots ≤ R.slots) (hw : Cond.methodLink (qm_oS own) idx Lib.Math.min.name ∈ qm_gt) (hpc : qm_pc K n = pc) (h : qm_p2 st (fun x y r => bif Nat.ble (qm_cs r) 8 then qm_Gd p l e R s m args below meth c cells slots Z G nL K nx L (vI (if y < x then y else x) :: r) σ else False)) : qm_Gd p l e R s m args below meth c cells slots Z G nL K n L st σ := by
  obtain ⟨hx, hb, hml, hown, hts, hK, hE, hG⟩ := F
  obtain ⟨x, y, r, rfl, h9⟩ := qm_p2_e h
  replace h := h9
  obtain ⟨h8, h⟩ := qm_bifT h
  intro H locs ls hP hS hEs hL hoL hoS
  rw [hpc]
  have k := h H locs ls hP hS hEs hL hoL (qm_oI (qm_oT (qm_oT hoS)))
  rw [hn] at k
  have h8 := Nat.ble_eq.mp h8
  exact va_mmin hx hb (hml.trans hL.2.1.symm) hown (hts _ hw) (hts _ qm_min_s) (hts _ qm_math_i) (hts _ qm_min_c) hR.1 (by rw [qm_cs_cv hG.2.2.1]; omega) hR.2.2.1 hR.2.2.2 hd k
theorem qs_copyi {idx : Nat} {t i t' i' : Nat} {a b n9 : Int32} {r : List qm_AV} (F : qm_Fx p s m args c G own nL cc) (hd : decode cc pc = .ok (.invokestatic idx, 3)) (hn : qm_pc K nx = pc + 3) (hR : 1 ≤ R.frames ∧ 60 ≤ R.locals ∧ cells ≤ R.cells ∧ slots ≤ R.slots) (hw : Cond.methodLink (qm_oS own) idx arraycopyName ∈ qm_gt) (h8 : qm_cs r ≤ 8) (e1 : qm_cK t = 20) (e2 : qm_cK t' = 20) (hst : st = .inl (.inl n9) :: .inl (.inl b) :: .inr (t', i') :: .inl (.inl a) :: .inr (t, i) :: r) (hpc : qm_pc K n = pc) (h : qm_cp a b n9 (qm_cN t i) (qm_cN t' i') (fun a' b' n' => qm_Gd p l e R s m args below meth c cells slots Z G nL K nx L r (wF σ t' i' (va_cpy (σ.1 t i) (σ.1 t' i') a' b' n')))) : qm_Gd p l e R s m args below meth c cells slots Z G nL K n L st σ := by
  obtain ⟨hx, hb, hml, hown, hts, hK, hE, hG⟩ := F
  obtain ⟨a', b', n', ⟨rfl, rfl, rfl, g1, g2⟩, h⟩ := h
  subst hst
  intro H locs ls hP hS hEs hL hoL hoS
  rw [hpc]
  have o1 := qm_oH (qm_oT (qm_oT hoS))
  have o2 := qm_oH (qm_oT (qm_oT (qm_oT (qm_oT hoS))))
  have c1 := qm_ok_cell o2 (by omega)
  have c2 := qm_ok_cell o1 (by omega)
  have hlt := qm_cells_lt _ c2
  have hN1 := (qm_cells_K _ c1).2
  have hN2 := (qm_cells_K _ c2).2
  simp only at hN1 hN2
  obtain ⟨q1, hq1⟩ := qm_at c1
  obtain ⟨q2, hq2⟩ := qm_at c2
  have at1 := qm_ws_at (G := G) (σ := σ) hq1
  have at2 := qm_ws_at (G := G) (σ := σ) hq2
  rw [qm_ce_I (by omega), e1] at at1
  rw [qm_ce_I (by omega), e2] at at2
  show W p l e R s m args below meth c H locs cells slots Z (F0 m pc ls (.int (nI n') :: .int (nI b') :: qm_rv G t' i' :: .int (nI a') :: qm_rv G t i :: r.map (qm_cv G)))
  rw [qm_rv_cell c1, qm_rv_cell c2]
  have z1 : (nI a').toNatClampNeg = a' := qm_clm (by omega)
  have z2 : (nI b').toNatClampNeg = b' := qm_clm (by omega)
  have z3 : (nI n').toNatClampNeg = n' := qm_clm (by omega)
  refine va_copyi hx hb (hml.trans hL.2.1.symm) hown (hts _ hw) (hts _ qm_cp_n) (hts _ qm_cp_s) (hts _ qm_cp_i) hK hP (qm_ws_D hG σ) hS q1 q2 0 0 at1 at2 rfl rfl rfl (nI_pos (by omega)) (nI_pos (by omega)) (nI_pos (by omega)) (by rw [z1, z3]; exact g1) (by rw [z2, z3]; exact g2) (fun _ _ => rfl) hR.1 (by rw [qm_cs_cv hG.2.2.1]; have : nativeFrameWords "java/lang/System" "arraycopy" 5 = 7 := (by decide +kernel); omega) hd (fun H1 locs1 hP1 hD1 hS1 => ?_)
  rw [z1, z2, z3] at hP1
  have hce : qm_ce G (wF σ t' i' (va_cpy (σ.1 t i) (σ.1 t' i') a' b' n')) t' i' = .inl (gTy G 20, qm_cN t' i', .inl (va_cpy (σ.1 t i) (σ.1 t' i') a' b' n')) := by rw [qm_ce_I (by omega), wF_same, e2]
  rw [← hce, qm_ws_set hq2 (fun q _ hne => qm_ce_wF hne)] at hP1
  have k := h H1 locs1 ls hP1 hS1 (qm_Es_wF hlt hEs) hL hoL (qm_oT (qm_oT (qm_oT (qm_oT (qm_oT hoS)))))
  rw [hn] at k
  exact k
theorem qs_copyl {idx : Nat} {t i t' i' : Nat} {a b n9 : Int32} {r : List qm_AV} (F : qm_Fx p s m args c G own nL cc) (hd : decode cc pc = .ok (.invokestatic idx, 3)) (hn : qm_pc K nx = pc + 3) (hR : 1 ≤ R.frames ∧ 60 ≤ R.locals ∧ cells ≤ R.cells ∧ slots ≤ R.slots) (hw : Cond.methodLink (qm_oS own) idx arraycopyName ∈ qm_gt) (h8 : qm_cs r ≤ 8) (e1 : qm_cK t = 23) (e2 : qm_cK t' = 23) (hst : st = .inl (.inl n9) :: .inl (.inl b) :: .inr (t', i') :: .inl (.inl a) :: .inr (t, i) :: r) (hpc : qm_pc K n = pc) (h : qm_cp a b n9 (qm_cN t i) (qm_cN t' i') (fun a' b' n' => qm_Gd p l e R s m args below meth c cells slots Z G nL K nx L r (wG σ t' i' (va_cpy (σ.2 t i) (σ.2 t' i') a' b' n')))) : qm_Gd p l e R s m args below meth c cells slots Z G nL K n L st σ := by
  obtain ⟨hx, hb, hml, hown, hts, hK, hE, hG⟩ := F
  obtain ⟨a', b', n', ⟨rfl, rfl, rfl, g1, g2⟩, h⟩ := h
  subst hst
  intro H locs ls hP hS hEs hL hoL hoS
  rw [hpc]
  have o1 := qm_oH (qm_oT (qm_oT hoS))
  have o2 := qm_oH (qm_oT (qm_oT (qm_oT (qm_oT hoS))))
  have c1 := qm_ok_cell o2 (by omega)
  have c2 := qm_ok_cell o1 (by omega)
  have hlt := qm_cells_lt _ c2
  have hN1 := (qm_cells_K _ c1).2
  have hN2 := (qm_cells_K _ c2).2
  simp only at hN1 hN2
  obtain ⟨q1, hq1⟩ := qm_at c1
  obtain ⟨q2, hq2⟩ := qm_at c2
  have at1 := qm_ws_at (G := G) (σ := σ) hq1
  have at2 := qm_ws_at (G := G) (σ := σ) hq2
  rw [qm_ce_J e1] at at1
  rw [qm_ce_J e2] at at2
  show W p l e R s m args below meth c H locs cells slots Z (F0 m pc ls (.int (nI n') :: .int (nI b') :: qm_rv G t' i' :: .int (nI a') :: qm_rv G t i :: r.map (qm_cv G)))
  rw [qm_rv_cell c1, qm_rv_cell c2]
  have z1 : (nI a').toNatClampNeg = a' := qm_clm (by omega)
  have z2 : (nI b').toNatClampNeg = b' := qm_clm (by omega)
  have z3 : (nI n').toNatClampNeg = n' := qm_clm (by omega)
  refine va_copyl hx hb (hml.trans hL.2.1.symm) hown (hts _ hw) (hts _ qm_cp_n) (hts _ qm_cp_s) (hts _ qm_cp_i) hK hP (qm_ws_D hG σ) hS q1 q2 3 3 at1 at2 rfl rfl rfl (nI_pos (by omega)) (nI_pos (by omega)) (nI_pos (by omega)) (by rw [z1, z3]; exact g1) (by rw [z2, z3]; exact g2) (fun _ _ => rfl) hR.1 (by rw [qm_cs_cv hG.2.2.1]; have : nativeFrameWords "java/lang/System" "arraycopy" 5 = 7 := (by decide +kernel); omega) hd (fun H1 locs1 hP1 hD1 hS1 => ?_)
  rw [z1, z2, z3] at hP1
  have hce : qm_ce G (wG σ t' i' (va_cpy (σ.2 t i) (σ.2 t' i') a' b' n')) t' i' = .inl (gTy G 23, qm_cN t' i', .inr (.inl (va_cpy (σ.2 t i) (σ.2 t' i') a' b' n'))) := by rw [qm_ce_J e2, wG_same]
  rw [← hce, qm_ws_set hq2 (fun q _ hne => qm_ce_wG hne)] at hP1
  have k := h H1 locs1 ls hP1 hS1 (qm_Es_wG hEs) hL hoL (qm_oT (qm_oT (qm_oT (qm_oT (qm_oT hoS)))))
  rw [hn] at k
  exact k
end SOUND3
