theorem qm_cells_K : ∀ q ∈ qm_cells, qm_cK q.1 ≤ 26 ∧ qm_cN q.1 q.2 < 1000 := by decide +kernel
theorem qm_cells_O : ∀ q ∈ qm_cells, qm_cK q.1 ≤ 19 → (vwCl[qm_cK q.1]?).map (fun r => r.2.2) = some (qm_cN q.1 q.2) := by decide +kernel
theorem qm_ok_cell {t i : Nat} (ho : qm_ok t i = true) (hk : qm_cK t ≤ 26) : (t, i) ∈ qm_cells := by
  rcases qm_okcases ho with h | ⟨rfl, -⟩ | ⟨rfl, -⟩ | ⟨rfl, -⟩ | ⟨rfl, -⟩
  · exact h
  · exact absurd hk (by decide +kernel)
  · exact absurd hk (by decide +kernel)
  · exact absurd hk (by decide +kernel)
  · exact absurd hk (by decide +kernel)
theorem qm_ok_27 {t i : Nat} (ho : qm_ok t i = true) (hk : qm_cK t = 27) : t = 102 ∧ i < 8 := by
  rcases qm_okcases ho with h | ⟨rfl, -⟩ | ⟨rfl, -⟩ | h | ⟨rfl, -⟩
  · have := (qm_cells_K _ h).1; simp only at this; omega
  · exact absurd hk (by decide +kernel)
  · exact absurd hk (by decide +kernel)
  · exact h
  · exact absurd hk (by decide +kernel)
theorem qm_ok_28 {t i : Nat} (ho : qm_ok t i = true) (hk : qm_cK t = 28) : t = 100 ∧ i = 0 := by
  rcases qm_okcases ho with h | h | ⟨rfl, -⟩ | ⟨rfl, -⟩ | ⟨rfl, -⟩
  · have := (qm_cells_K _ h).1; simp only at this; omega
  · exact h
  · exact absurd hk (by decide +kernel)
  · exact absurd hk (by decide +kernel)
  · exact absurd hk (by decide +kernel)
theorem qm_ok_40 {t i : Nat} (ho : qm_ok t i = true) (hk : qm_cK t = 40) : t = 101 ∧ i < 8 := by
  rcases qm_okcases ho with h | ⟨rfl, -⟩ | h | ⟨rfl, -⟩ | ⟨rfl, -⟩
  · have := (qm_cells_K _ h).1; simp only at this; omega
  · exact absurd hk (by decide +kernel)
  · exact h
  · exact absurd hk (by decide +kernel)
  · exact absurd hk (by decide +kernel)
theorem qm_rv_cell {G : qm_Pr} {t i : Nat} (h : (t, i) ∈ qm_cells) : qm_rv G t i = .ref (gAd G t i) := by
  have := qm_cells_lt _ h
  unfold qm_rv
  rw [Nat.blt_eq.mpr this]
  rfl
theorem qm_ok_of {t i : Nat} (h : (t, i) ∈ qm_cells) : qm_ok t i = true := by
  unfold qm_ok
  simp only [Bool.or_eq_true, List.contains_iff_mem]
  exact Or.inl (Or.inl (Or.inl (Or.inl h)))
theorem qm_ce_O {G : qm_Pr} {σ : qm_Sg} {t i : Nat} (h : qm_cK t ≤ 19) : qm_ce G σ t i = .inr (qm_cK t, (List.range (qm_cN t i)).map (qm_fv G σ t i)) := by
  unfold qm_ce
  rw [Nat.ble_eq.mpr h]
  rfl
theorem qm_ce_I {G : qm_Pr} {σ : qm_Sg} {t i : Nat} (h : qm_cK t = 20 ∨ qm_cK t = 21 ∨ qm_cK t = 22) : qm_ce G σ t i = .inl (gTy G (qm_cK t), qm_cN t i, .inl (σ.1 t i)) := by
  unfold qm_ce
  rcases h with h | h | h <;> rw [h] <;> rfl
theorem qm_ce_J {G : qm_Pr} {σ : qm_Sg} {t i : Nat} (h : qm_cK t = 23) : qm_ce G σ t i = .inl (gTy G 23, qm_cN t i, .inr (.inl (σ.2 t i))) := by
  unfold qm_ce
  rw [h]
  rfl
theorem qm_ce_R {G : qm_Pr} {σ : qm_Sg} {t i : Nat} (h : qm_cK t = 24 ∨ qm_cK t = 25 ∨ qm_cK t = 26) : qm_ce G σ t i = .inl (gTy G (qm_cK t), qm_cN t i, .inr (.inr (.inr (.inr (fun j => (qm_cR t i j).map (fun q => gAd G q.1 q.2)))))) := by
  unfold qm_ce
  rcases h with h | h | h <;> rw [h] <;> rfl
theorem qm_ex_e {n : Nat} {x : Int32} {k : Nat → Prop} (h : qm_ex n x k) : ∃ j, x = nI j ∧ j < n ∧ k j := by
  obtain ⟨j, ⟨h1, h2⟩, h3⟩ := h
  exact ⟨j, h1, h2, h3⟩
theorem qm_dsp_e {k : Nat → Prop} : ∀ (l : List (Nat × Nat)) (c : Nat), qm_dsp l c k → ∃ b, (c, b) ∈ l ∧ k b
  | [], _, h => h.elim
  | (a, b) :: l, c, h => by
    unfold qm_dsp at h
    cases hb : Nat.beq a c <;> rw [hb] at h
    · obtain ⟨b', h1, h2⟩ := qm_dsp_e l c h
      exact ⟨b', List.mem_cons_of_mem _ h1, h2⟩
    · have : a = c := Nat.beq_eq.mp hb
      subst this
      exact ⟨b, List.mem_cons_self, h⟩
theorem qm_cat_cv {G : qm_Pr} (hU : (gU G = .null) ∨ ∃ t, gU G = .ref t) (v : qm_AV) : (qm_cv G v).category = qm_cat v := by
  rcases v with (x | x) | ⟨t, k⟩
  · rfl
  · rfl
  · show (qm_rv G t k).category = 1
    unfold qm_rv
    cases Nat.blt t 100 <;> cases Nat.beq t 100 <;> cases Nat.beq t 101 <;> cases Nat.beq t 102 <;> first | rfl | (show (gU G).category = 1; rcases hU with hU | ⟨a, hU⟩ <;> rw [hU] <;> rfl)
theorem qm_cs_cv {G : qm_Pr} (hU : (gU G = .null) ∨ ∃ t, gU G = .ref t) : ∀ r : List qm_AV, ((r.map (qm_cv G)).map fun v => v.category).sum = qm_cs r
  | [] => rfl
  | v :: r => by
    show (qm_cv G v).category + ((r.map (qm_cv G)).map fun v => v.category).sum = qm_cat v + qm_cs r
    rw [qm_cat_cv hU, qm_cs_cv hU r]
def qm_ckFS (q : Nat × Nat × Nat × Nat) : Bool := match q with
  | (o, i, k, p) => Nat.beq o 15 && (bif Nat.beq k 0 then decide (qm_tb p = some (.fieldLink "java/lang/String" i "java/lang/String" "value" "[B")) else (Nat.beq k 1 && decide (qm_tb p = some (.fieldLink "java/lang/String" i "java/lang/String" "coder" "B"))))
theorem qm_ckFS_ok : qm_FS.all qm_ckFS = true := by decide +kernel
theorem qm_fs_e {own idx k : Nat} (h : qm_fs? own idx k = true) : own = 15 ∧ ((k = 0 ∧ Cond.fieldLink "java/lang/String" idx "java/lang/String" "value" "[B" ∈ qm_gt) ∨ (k = 1 ∧ Cond.fieldLink "java/lang/String" idx "java/lang/String" "coder" "B" ∈ qm_gt)) := by
  unfold qm_fs? at h
  obtain ⟨r, hr, h⟩ := List.any_eq_true.mp h
  have h2 := List.all_eq_true.mp qm_ckFS_ok r hr
  obtain ⟨o, i, k', p⟩ := r
  simp only [Bool.and_eq_true, Nat.beq_eq] at h
  obtain ⟨⟨rfl, rfl⟩, rfl⟩ := h
  unfold qm_ckFS at h2
  simp only [Bool.and_eq_true, Nat.beq_eq] at h2
  obtain ⟨rfl, h2⟩ := h2
  refine ⟨rfl, ?_⟩
  cases hb : Nat.beq k' 0 <;> rw [hb] at h2
  · simp only [cond_false, Bool.and_eq_true, Nat.beq_eq, decide_eq_true_eq] at h2
    exact Or.inr ⟨h2.1, qm_gt_tb h2.2 rfl⟩
  · simp only [cond_true, decide_eq_true_eq] at h2
    exact Or.inl ⟨Nat.beq_eq.mp hb, qm_gt_tb h2 rfl⟩
theorem qm_fl_e {own idx ci k : Nat} (h : qm_fl? own idx ci k = true) : ∃ C T N ref, vwCl[ci]? = some (C, T, N) ∧ k < N ∧ Cond.fieldLink (qm_oS own) idx ref (T k).2.1 (T k).2.2.1 ∈ qm_gt ∧ (ref = (T k).1 ∨ Cond.sameField ref (T k).1 (T k).2.1 (T k).2.2.1 ∈ qm_gt) := by
  unfold qm_fl? at h
  obtain ⟨r, hr, h⟩ := List.any_eq_true.mp h
  have h2 := List.all_eq_true.mp qm_ckF_ok r hr
  obtain ⟨o, i, c', k', p1, p2⟩ := r
  simp only [Bool.and_eq_true, Nat.beq_eq] at h
  obtain ⟨⟨⟨rfl, rfl⟩, rfl⟩, rfl⟩ := h
  unfold qm_ckF at h2
  dsimp only at h2
  split at h2
  · rename_i C T N hc
    simp only [Bool.and_eq_true, Nat.blt_eq] at h2
    obtain ⟨hk, h2⟩ := h2
    split at h2
    · rename_i o' i' r' n' d' hp
      simp only [Bool.and_eq_true, Bool.or_eq_true, Nat.beq_eq, decide_eq_true_eq] at h2
      obtain ⟨⟨⟨⟨rfl, rfl⟩, rfl⟩, rfl⟩, h2⟩ := h2
      exact ⟨C, T, N, r', hc, hk, qm_gt_tb hp rfl, h2.imp id (fun h => qm_gt_tb h rfl)⟩
    · cases h2
  · cases h2
theorem qm_lay_in {C : String} {T : u_T} {N : Nat} {ps : List Nat} (h : u_ws C T N = ps.filterMap qm_tb) : ∀ w ∈ u_ws C T N, w ∈ qm_gt := by
  intro w hw
  have hw2 := hw
  rw [h] at hw
  obtain ⟨p, -, hp⟩ := List.mem_filterMap.mp hw
  refine qm_gt_tb hp ?_
  obtain ⟨k, -, rfl⟩ := List.mem_map.mp hw2
  unfold u_lay
  split <;> rfl
theorem qm_cls {ci : Nat} {C : String} {T : u_T} {N : Nat} (h : vwCl[ci]? = some (C, T, N)) : (∀ w ∈ u_ws C T N, w ∈ qm_gt) ∧ (∃ ty : Nat → FieldType, ∀ k, k < N → parseFieldDescriptor (T k).2.2.1 = some (ty k)) ∧ (∀ a, a < N → ∀ b, b < N → a ≠ b → (T a).2.1 ≠ (T b).2.1) ∧ ci ≤ 12 ∧ C = qm_oS ci := by
  match ci, h with
  | 0, h => cases h; exact ⟨qm_lay_in qm_lay_0, ⟨tyX0, tyX0_ok⟩, nmX0, by decide, rfl⟩
  | 1, h => cases h; exact ⟨qm_lay_in qm_lay_1, ⟨tyX1, tyX1_ok⟩, nmX1, by decide, rfl⟩
  | 2, h => cases h; exact ⟨qm_lay_in qm_lay_2, ⟨tyX2, tyX2_ok⟩, nmX2, by decide, rfl⟩
  | 3, h => cases h; exact ⟨qm_lay_in qm_lay_3, ⟨tyX3, tyX3_ok⟩, nmX3, by decide, rfl⟩
  | 4, h => cases h; exact ⟨qm_lay_in qm_lay_4, ⟨tyX4, tyX4_ok⟩, nmX4, by decide, rfl⟩
  | 5, h => cases h; exact ⟨qm_lay_in qm_lay_5, ⟨tyX5, tyX5_ok⟩, nmX5, by decide, rfl⟩
  | 6, h => cases h; exact ⟨qm_lay_in qm_lay_6, ⟨tyX6, tyX6_ok⟩, nmX6, by decide, rfl⟩
  | 7, h => cases h; exact ⟨qm_lay_in qm_lay_7, ⟨tyX7, tyX7_ok⟩, nmX7, by decide, rfl⟩
  | 8, h => cases h; exact ⟨qm_lay_in qm_lay_8, ⟨tyX8, tyX8_ok⟩, nmX8, by decide, rfl⟩
  | 9, h => cases h; exact ⟨qm_lay_in qm_lay_9, ⟨tyX9, tyX9_ok⟩, nmX9, by decide, rfl⟩
  | 10, h => cases h; exact ⟨qm_lay_in qm_lay_10, ⟨tyX10, tyX10_ok⟩, nmX10, by decide, rfl⟩
  | 11, h => cases h; exact ⟨qm_lay_in qm_lay_11, ⟨tyX11, tyX11_ok⟩, nmX11, by decide, rfl⟩
  | 12, h => cases h; exact ⟨qm_lay_in qm_lay_12, ⟨tyX12, tyX12_ok⟩, nmX12, by decide, rfl⟩
  | k + 13, h => simp [vwCl] at h
theorem qm_and1 {x : Int32} (h : x &&& 1 = x) : x = 0 ∨ x = 1 := by
  have e := pk_and x (m := 1) 1 rfl
  rw [h] at e
  rcases (show x.toBitVec.toNat % 2 ^ 1 = 0 ∨ x.toBitVec.toNat % 2 ^ 1 = 1 by omega) with q | q <;> rw [q] at e
  · exact Or.inl e
  · exact Or.inr e
section SOUND2
variable {p : Program} {l : Launch} {e : Env} {R : Room} {s : State} {m : MethodId} {args : Array Value} {below : List Frame} {meth : Method} {c : Code} {cells slots : Nat} {Z : State → Prop} {G : qm_Pr} {own nL : Nat} {cc : ByteArray} {K : List (List qm_En)} {pc nx ax n : Nat} {kc : Int32} {sw : List (Int32 × Nat)} {dp : List (Nat × Nat)} {L : qm_Lo} {st : List qm_AV} {σ : qm_Sg}
theorem qs_getfield {idx : Nat} (F : qm_Fx p s m args c G own nL cc) (hd : decode cc pc = .ok (.getfield idx, 3)) (hn : qm_pc K nx = pc + 3) (hc : (bif Nat.beq own 15 then dp.all (fun q => Nat.beq q.1 40) && qm_fs? own idx ax else dp.all (fun q => qm_fl? own idx q.1 ax)) = true) (hpc : qm_pc K n = pc) (h : qm_pR st (fun t i r => qm_dsp dp (qm_cK t) (fun _ => qm_op (qm_cR t i ax) (fun q => qm_Gd p l e R s m args below meth c cells slots Z G nL K nx L (.inr q :: r) σ) (qm_Gd p l e R s m args below meth c cells slots Z G nL K nx L (vI (σ.1 t i ax) :: r) σ)))) : qm_Gd p l e R s m args below meth c cells slots Z G nL K n L st σ := by
  obtain ⟨hx, hb, hml, hown, hts, hK, hE, hG⟩ := F
  obtain ⟨t, i, r, rfl, h⟩ := qm_pR_e h
  obtain ⟨f, hf, h⟩ := qm_dsp_e _ _ h
  intro H locs ls hP hS hEs hL hoL hoS
  rw [hpc]
  have ho := qm_oH hoS
  cases hq : Nat.beq own 15 <;> rw [hq] at hc
  · have hfl := List.all_eq_true.mp hc _ hf
    obtain ⟨C, T, N, ref, h1, h2, h3, h4⟩ := qm_fl_e hfl
    obtain ⟨c1, c2, c3, c4, c5⟩ := qm_cls h1
    have hcell := qm_ok_cell ho (by omega)
    obtain ⟨k, hk⟩ := qm_at hcell
    have hN : qm_cN t i = N := by
      have := qm_cells_O _ hcell (by show qm_cK t ≤ 19; omega)
      simp only [h1, Option.map_some] at this
      exact (Option.some.inj this).symm
    have hat := qm_ws_at (G := G) (σ := σ) hk
    rw [qm_ce_O (by omega)] at hat
    show W p l e R s m args below meth c H locs cells slots Z (F0 m pc ls (qm_rv G t i :: r.map (qm_cv G)))
    rw [qm_rv_cell hcell]
    refine va_get hx hb hts c1 hown hK hP k hat h1 ax h2 (hts _ h3) ?_ (v := qm_fv G σ t i ax) ?_ hd ?_
    · rcases h4 with h4 | h4
      · intro x hx9; rw [h4]; exact hx9
      · exact u_same (hts _ h4)
    · rw [List.getElem?_map, List.getElem?_range (by omega)]
      rfl
    · unfold qm_fv
      cases hr : qm_cR t i ax with
      | none =>
        rw [hr] at h
        have k2 := h H locs ls hP hS hEs hL hoL (qm_oI (qm_oT hoS))
        rw [hn] at k2
        exact k2
      | some q =>
        rw [hr] at h
        obtain ⟨t', i'⟩ := q
        have k2 := h H locs ls hP hS hEs hL hoL (qm_oC (qm_ok_of (qm_refs_ok _ hcell ax (by show ax < qm_cN t i; omega) _ hr)) (qm_oT hoS))
        rw [hn] at k2
        exact k2
  · simp only [cond_true, Bool.and_eq_true] at hc
    obtain ⟨hc1, hc2⟩ := hc
    have h40 : qm_cK t = 40 := Nat.beq_eq.mp (List.all_eq_true.mp hc1 _ hf)
    obtain ⟨rfl, hi⟩ := qm_ok_40 ho h40
    obtain ⟨rfl, hcc⟩ := qm_fs_e hc2
    obtain ⟨-, e2, -⟩ := hE
    obtain ⟨v1, v2, v3, v4⟩ := e2.1 i hi
    show W p l e R s m args below meth c H locs cells slots Z (F0 m pc ls (.ref (gK G i) :: r.map (qm_cv G)))
    rcases hcc with ⟨rfl, hw⟩ | ⟨rfl, hw⟩
    · refine vk_getf hx hb v3 hS hown (hts _ hw) (fun _ h9 => h9) hd ?_
      have k2 := h H locs ls hP hS hEs hL hoL (qm_oC (show qm_ok 102 i = true by unfold qm_ok; simp [hi]) (qm_oT hoS))
      rw [hn] at k2
      exact k2
    · refine vk_getf hx hb v2 hS hown (hts _ hw) (fun _ h9 => h9) hd ?_
      have k2 := h H locs ls hP hS hEs hL hoL (qm_oI (qm_oT hoS))
      rw [hn] at k2
      have e : σ.1 101 i 1 = 0 := hEs.1 i
      rw [e] at k2
      exact k2
theorem qs_putfield {idx : Nat} (F : qm_Fx p s m args c G own nL cc) (hd : decode cc pc = .ok (.putfield idx, 3)) (hn : qm_pc K nx = pc + 3) (hc : dp.all (fun q => qm_fl? own idx q.1 ax && qm_pf? q.1 ax q.2) = true) (hpc : qm_pc K n = pc) (h : qm_pV st (fun t i x r => qm_dsp dp (qm_cK t) (fun f => qm_op (qm_cR t i ax) (fun _ => False) (qm_nar f x (qm_Gd p l e R s m args below meth c cells slots Z G nL K nx L r (wF σ t i (upd (σ.1 t i) ax x))))))) : qm_Gd p l e R s m args below meth c cells slots Z G nL K n L st σ := by
  obtain ⟨hx, hb, hml, hown, hts, hK, hE, hG⟩ := F
  obtain ⟨t, i, x, r, rfl, h⟩ := qm_pV_e h
  obtain ⟨f, hf, h⟩ := qm_dsp_e _ _ h
  intro H locs ls hP hS hEs hL hoL hoS
  rw [hpc]
  have ho := qm_oH (qm_oT hoS)
  have hfp := List.all_eq_true.mp hc _ hf
  simp only [Bool.and_eq_true] at hfp
  obtain ⟨hfl, hpf⟩ := hfp
  obtain ⟨C, T, N, ref, h1, h2, h3, h4⟩ := qm_fl_e hfl
  obtain ⟨c1, ⟨ty0, c2⟩, c3, c4, c5⟩ := qm_cls h1
  have hcell := qm_ok_cell ho (by omega)
  have hlt := qm_cells_lt _ hcell
  obtain ⟨k, hk⟩ := qm_at hcell
  have hN : qm_cN t i = N := by
    have := qm_cells_O _ hcell (by show qm_cK t ≤ 19; omega)
    simp only [h1, Option.map_some] at this
    exact (Option.some.inj this).symm
  have hat := qm_ws_at (G := G) (σ := σ) hk
  rw [qm_ce_O (by omega)] at hat
  unfold qm_pf? at hpf
  rw [h1] at hpf
  simp only [Bool.and_eq_true, Bool.not_eq_true', decide_eq_true_eq, Nat.ble_eq] at hpf
  obtain ⟨⟨hf1, hfin⟩, hdesc⟩ := hpf
  cases hr : qm_cR t i ax with
  | some q => rw [hr] at h; exact h.elim
  | none =>
    rw [hr] at h
    have hty : ∃ ty, parseFieldDescriptor (T ax).2.2.1 = some ty ∧ narrow ty (.int x) = .int x ∧ fits ty (.int x) = true ∧ qm_Gd p l e R s m args below meth c cells slots Z G nL K nx L r (wF σ t i (upd (σ.1 t i) ax x)) := by
      unfold qm_op qm_nar at h
      rcases (show f = 0 ∨ f = 1 by omega) with rfl | rfl
      · exact ⟨.int, by rw [hdesc]; decide +kernel, rfl, rfl, h⟩
      · obtain ⟨ha, hb2⟩ := h
        refine ⟨.boolean, by rw [hdesc]; decide +kernel, ha, ?_, hb2⟩
        have e : narrow .boolean (.int x) = .int x := ha
        have e2 : narrow FieldType.boolean (.int x) = .int (x &&& 1) := rfl
        rw [e2] at e
        have e3 : x &&& 1 = x := Value.int.inj e
        have e4 : x = 0 ∨ x = 1 := qm_and1 e3
        rcases e4 with rfl | rfl <;> rfl
    obtain ⟨ty, t1, t2, t3, h⟩ := hty
    show W p l e R s m args below meth c H locs cells slots Z (F0 m pc ls (.int x :: qm_rv G t i :: r.map (qm_cv G)))
    rw [qm_rv_cell hcell]
    refine va_put hx hb hts c1 ty0 c2 c3 hown hK hP (qm_ws_D hG σ) hS k hat h1 ax h2 (hts _ h3) ?_ hfin t1 t2 t3 (by rw [List.length_map, List.length_range]; omega) hd (fun H1 locs1 hP1 hD1 hS1 => ?_)
    · rcases h4 with h4 | h4
      · intro x hx9; rw [h4]; exact hx9
      · exact u_same (hts _ h4)
    · have hce : qm_ce G (wF σ t i (upd (σ.1 t i) ax x)) t i = .inr (qm_cK t, ((List.range (qm_cN t i)).map (qm_fv G σ t i)).set ax (.int x)) := by
        rw [qm_ce_O (by omega)]
        refine congrArg (fun z => Sum.inr (qm_cK t, z)) (List.ext_getElem? (fun j => ?_))
        by_cases hj : j = ax
        · subst hj
          rw [List.getElem?_set_self (by rw [List.length_map, List.length_range]; omega), List.getElem?_map, List.getElem?_range (by omega)]
          show some (qm_fv G _ t i j) = _
          unfold qm_fv
          rw [hr, wF_same]
          show some (Value.int (upd (σ.1 t i) j x j)) = _
          rw [pk_us]
        · rw [List.getElem?_set_ne (Ne.symm hj), List.getElem?_map, List.getElem?_map]
          by_cases hl9 : j < qm_cN t i
          · rw [List.getElem?_range hl9]
            show some (qm_fv G _ t i j) = some (qm_fv G _ t i j)
            unfold qm_fv
            cases qm_cR t i j with
            | some q => rfl
            | none =>
              show some (Value.int ((wF σ t i (upd (σ.1 t i) ax x)).1 t i j)) = _
              rw [wF_same, pk_un hj]
          · rw [List.getElem?_eq_none (by rw [List.length_range]; omega)]
            rfl
      rw [← hce, qm_ws_set hk (fun q _ hne => qm_ce_wF hne)] at hP1
      have k2 := h H1 locs1 ls hP1 hS1 (qm_Es_wF hlt hEs) hL hoL (qm_oT (qm_oT hoS))
      rw [hn] at k2
      exact k2
end SOUND2
