theorem qm_l1_e {K : List (List qm_En)} {ln pc nx : Nat} (h : qm_l1 K ln pc nx = true) : ln = 1 ∧ qm_pc K nx = pc + 1 := by
  unfold qm_l1 qm_nxt at h
  simp only [Bool.and_eq_true, Nat.beq_eq] at h
  exact h
theorem qm_l2_e {K : List (List qm_En)} {ln pc nx : Nat} (h : qm_l2 K ln pc nx = true) : ln = 2 ∧ qm_pc K nx = pc + 2 := by
  unfold qm_l2 qm_nxt at h
  simp only [Bool.and_eq_true, Nat.beq_eq] at h
  exact h
theorem qm_l3_e {K : List (List qm_En)} {ln pc nx : Nat} (h : qm_l3 K ln pc nx = true) : ln = 3 ∧ qm_pc K nx = pc + 3 := by
  unfold qm_l3 qm_nxt at h
  simp only [Bool.and_eq_true, Nat.beq_eq] at h
  exact h
theorem qm_tgt_e {K : List (List qm_En)} {t pc : Nat} {off : Int} (h : qm_tgt K t pc off = true) : (pc : Int) + off = (qm_pc K t : Int) := by
  unfold qm_tgt at h
  exact of_decide_eq_true h
theorem qm_nxt_e {K : List (List qm_En)} {nx pc ln : Nat} (h : qm_nxt K nx pc ln = true) : qm_pc K nx = pc + ln := by
  unfold qm_nxt at h
  exact Nat.beq_eq.mp h
section STEP
variable {p : Program} {l : Launch} {e : Env} {R : Room} {s : State} {m : MethodId} {args : Array Value} {below : List Frame} {meth : Method} {c : Code} {cells slots : Nat} {Z : State → Prop} {G : qm_Pr} {own nL d : Nat} {cc : ByteArray} {K : List (List qm_En)} {n : Nat} {L : qm_Lo} {st : List qm_AV} {σ : qm_Sg} {Q : qm_Po} {ret9 : Option FieldType}
set_option maxHeartbeats 4000000 in
theorem qm_step (hR : d + 1 ≤ R.frames ∧ 60 * (d + 1) ≤ R.locals ∧ cells ≤ R.cells ∧ slots ≤ R.slots) (F : qm_Fx p s m args c G own nL cc) (hSd : qm_Sd l G d)
    (hI : ∀ {H : Heap} {locs : List Loc} {ls : Array Slot} {σ : qm_Sg} {pc : Nat} {ty : FieldType} {x : Int32}, decode cc pc = .ok (.ireturn, 1) → ret9 = some ty → narrow ty (.int x) = .int x → Q σ (some (vI x)) → qm_Es G σ → va_P (gD G) vwCl (qm_ws G σ) H → va_S (gA G) s.heap H locs → W p l e R s m args below meth c H locs cells slots Z (F0 m pc ls [.int x]))
    (hJ : ∀ {H : Heap} {locs : List Loc} {ls : Array Slot} {σ : qm_Sg} {pc : Nat} {x : Int64}, decode cc pc = .ok (.lreturn, 1) → ret9 = some .long → Q σ (some (vL x)) → qm_Es G σ → va_P (gD G) vwCl (qm_ws G σ) H → va_S (gA G) s.heap H locs → W p l e R s m args below meth c H locs cells slots Z (F0 m pc ls [.long x]))
    (hV : ∀ {H : Heap} {locs : List Loc} {ls : Array Slot} {σ : qm_Sg} {pc : Nat}, decode cc pc = .ok (.return_, 1) → ret9 = none → Q σ none → qm_Es G σ → va_P (gD G) vwCl (qm_ws G σ) H → va_S (gA G) s.heap H locs → W p l e R s m args below meth c H locs cells slots Z (F0 m pc ls []))
    {e0 : qm_En} (hok : qm_okE own cc ret9 K e0 = true) (hnt : qm_nth K n = some e0) (h : qm_stp (qm_M d) Q (qm_Gd p l e R s m args below meth c cells slots Z G nL K) e0 L st σ) : qm_Gd p l e R s m args below meth c cells slots Z G nL K n L st σ := by
  have hR1 : 1 ≤ R.frames ∧ 60 ≤ R.locals ∧ cells ≤ R.cells ∧ slots ≤ R.slots := ⟨by omega, by omega, hR.2.2⟩
  obtain ⟨ins, pc, nx, ax, kc, sw, dp⟩ := e0
  have hpc : qm_pc K n = pc := by unfold qm_pc; rw [hnt]
  unfold qm_okE at hok
  dsimp only at hok
  split at hok
  · rename_i i9 ln hd
    simp only [Bool.and_eq_true, decide_eq_true_eq] at hok
    obtain ⟨rfl, hc⟩ := hok
    unfold qm_stp at h
    dsimp only at h
    unfold qm_chk at hc
    cases i9 with
    | iadd =>
      obtain ⟨rfl, hn⟩ := qm_l1_e hc
      exact qs_iadd F hd hn hpc h
    | isub =>
      obtain ⟨rfl, hn⟩ := qm_l1_e hc
      exact qs_isub F hd hn hpc h
    | imul =>
      obtain ⟨rfl, hn⟩ := qm_l1_e hc
      exact qs_imul F hd hn hpc h
    | iand =>
      obtain ⟨rfl, hn⟩ := qm_l1_e hc
      exact qs_iand F hd hn hpc h
    | ior =>
      obtain ⟨rfl, hn⟩ := qm_l1_e hc
      exact qs_ior F hd hn hpc h
    | ixor =>
      obtain ⟨rfl, hn⟩ := qm_l1_e hc
      exact qs_ixor F hd hn hpc h
    | ishl =>
      obtain ⟨rfl, hn⟩ := qm_l1_e hc
      exact qs_ishl F hd hn hpc h
    | ishr =>
      obtain ⟨rfl, hn⟩ := qm_l1_e hc
      exact qs_ishr F hd hn hpc h
    | iushr =>
      obtain ⟨rfl, hn⟩ := qm_l1_e hc
      exact qs_iushr F hd hn hpc h
    | idiv =>
      obtain ⟨rfl, hn⟩ := qm_l1_e hc
      exact qs_idiv F hd hn hpc h
    | irem =>
      obtain ⟨rfl, hn⟩ := qm_l1_e hc
      exact qs_irem F hd hn hpc h
    | ineg =>
      obtain ⟨rfl, hn⟩ := qm_l1_e hc
      exact qs_ineg F hd hn hpc h
    | i2b =>
      obtain ⟨rfl, hn⟩ := qm_l1_e hc
      exact qs_i2b F hd hn hpc h
    | i2s =>
      obtain ⟨rfl, hn⟩ := qm_l1_e hc
      exact qs_i2s F hd hn hpc h
    | i2c =>
      obtain ⟨rfl, hn⟩ := qm_l1_e hc
      exact qs_i2c F hd hn hpc h
    | i2l =>
      obtain ⟨rfl, hn⟩ := qm_l1_e hc
      exact qs_i2l F hd hn hpc h
    | l2i =>
      obtain ⟨rfl, hn⟩ := qm_l1_e hc
      exact qs_l2i F hd hn hpc h
    | land =>
      obtain ⟨rfl, hn⟩ := qm_l1_e hc
      exact qs_land F hd hn hpc h
    | lor =>
      obtain ⟨rfl, hn⟩ := qm_l1_e hc
      exact qs_lor F hd hn hpc h
    | lshl =>
      obtain ⟨rfl, hn⟩ := qm_l1_e hc
      exact qs_lshl F hd hn hpc h
    | lcmp =>
      obtain ⟨rfl, hn⟩ := qm_l1_e hc
      exact qs_lcmp F hd hn hpc h
    | iaload =>
      obtain ⟨rfl, hn⟩ := qm_l1_e hc
      exact qs_iaload F hd hn hpc h
    | baload =>
      obtain ⟨rfl, hn⟩ := qm_l1_e hc
      exact qs_baload F hd hn hpc h
    | laload =>
      obtain ⟨rfl, hn⟩ := qm_l1_e hc
      exact qs_laload F hd hn hpc h
    | aaload =>
      obtain ⟨rfl, hn⟩ := qm_l1_e hc
      exact qs_aaload F hd hn hpc h
    | iastore =>
      obtain ⟨rfl, hn⟩ := qm_l1_e hc
      exact qs_iastore F hd hn hpc h
    | bastore =>
      obtain ⟨rfl, hn⟩ := qm_l1_e hc
      exact qs_bastore F hd hn hpc h
    | lastore =>
      obtain ⟨rfl, hn⟩ := qm_l1_e hc
      exact qs_lastore F hd hn hpc h
    | dup =>
      obtain ⟨rfl, hn⟩ := qm_l1_e hc
      exact qs_dup F hd hn hpc h
    | dup2 =>
      obtain ⟨rfl, hn⟩ := qm_l1_e hc
      exact qs_dup2 F hd hn hpc h
    | pop =>
      obtain ⟨rfl, hn⟩ := qm_l1_e hc
      exact qs_pop F hd hn hpc h
    | arraylength =>
      obtain ⟨rfl, hn⟩ := qm_l1_e hc
      exact qs_alen F hd hn hpc h
    | iconst z =>
      simp only [Bool.and_eq_true, decide_eq_true_eq, Nat.beq_eq, Nat.blt_eq] at hc
      obtain ⟨rfl, hn⟩ := qm_l1_e hc.1
      exact qs_iconst F hd hc.2 hn hpc h
    | bipush z =>
      simp only [Bool.and_eq_true, decide_eq_true_eq, Nat.beq_eq, Nat.blt_eq] at hc
      obtain ⟨rfl, hn⟩ := qm_l2_e hc.1
      exact qs_bipush F hd hc.2 hn hpc h
    | sipush z =>
      simp only [Bool.and_eq_true, decide_eq_true_eq, Nat.beq_eq, Nat.blt_eq] at hc
      obtain ⟨rfl, hn⟩ := qm_l3_e hc.1
      exact qs_sipush F hd hc.2 hn hpc h
    | lconst z =>
      simp only [Bool.and_eq_true, decide_eq_true_eq, Nat.beq_eq, Nat.blt_eq] at hc
      obtain ⟨rfl, hn⟩ := qm_l1_e hc.1
      exact qs_lconst F hd hc.2 hn hpc h
    | ldc_w z =>
      simp only [Bool.and_eq_true, decide_eq_true_eq, Nat.beq_eq, Nat.blt_eq] at hc
      obtain ⟨rfl, hn⟩ := qm_l3_e hc.1
      exact qs_ldcw F hd (qm_gt_tb hc.2 rfl) hn hpc h
    | ldc2_w z =>
      simp only [Bool.and_eq_true] at hc
      obtain ⟨rfl, hn⟩ := qm_l3_e hc.1
      have h2 := hc.2
      split at h2
      · exact qs_ldc2 F hd (qm_gt_tb (of_decide_eq_true h2) rfl) hn hpc h
      · cases h2
    | ldc z =>
      simp only [Bool.and_eq_true, decide_eq_true_eq, Nat.beq_eq, Nat.blt_eq] at hc
      obtain ⟨⟨⟨h1, h2⟩, h3⟩, h4⟩ := hc
      obtain ⟨rfl, hn⟩ := qm_l2_e h1
      exact qs_ldc F hd hn h2 h3 h4 hpc h
    | iload_n z =>
      simp only [Bool.and_eq_true, decide_eq_true_eq, Nat.beq_eq, Nat.blt_eq] at hc
      obtain ⟨rfl, hn⟩ := qm_l1_e hc.1
      exact qs_iload_n F hd hc.2 hn hpc h
    | lload_n z =>
      simp only [Bool.and_eq_true, decide_eq_true_eq, Nat.beq_eq, Nat.blt_eq] at hc
      obtain ⟨rfl, hn⟩ := qm_l1_e hc.1
      exact qs_lload_n F hd hc.2 hn hpc h
    | aload_n z =>
      simp only [Bool.and_eq_true, decide_eq_true_eq, Nat.beq_eq, Nat.blt_eq] at hc
      obtain ⟨rfl, hn⟩ := qm_l1_e hc.1
      exact qs_aload_n F hd hc.2 hn hpc h
    | istore_n z =>
      simp only [Bool.and_eq_true, decide_eq_true_eq, Nat.beq_eq, Nat.blt_eq] at hc
      obtain ⟨rfl, hn⟩ := qm_l1_e hc.1
      exact qs_istore_n F hd hc.2 hn hpc h
    | astore_n z =>
      simp only [Bool.and_eq_true, decide_eq_true_eq, Nat.beq_eq, Nat.blt_eq] at hc
      obtain ⟨rfl, hn⟩ := qm_l1_e hc.1
      exact qs_astore_n F hd hc.2 hn hpc h
    | iload z =>
      simp only [Bool.and_eq_true, decide_eq_true_eq, Nat.beq_eq, Nat.blt_eq] at hc
      obtain ⟨rfl, hn⟩ := qm_l2_e hc.1
      exact qs_iload F hd hc.2 hn hpc h
    | aload z =>
      simp only [Bool.and_eq_true, decide_eq_true_eq, Nat.beq_eq, Nat.blt_eq] at hc
      obtain ⟨rfl, hn⟩ := qm_l2_e hc.1
      exact qs_aload F hd hc.2 hn hpc h
    | istore z =>
      simp only [Bool.and_eq_true, decide_eq_true_eq, Nat.beq_eq, Nat.blt_eq] at hc
      obtain ⟨rfl, hn⟩ := qm_l2_e hc.1
      exact qs_istore F hd hc.2 hn hpc h
    | astore z =>
      simp only [Bool.and_eq_true, decide_eq_true_eq, Nat.beq_eq, Nat.blt_eq] at hc
      obtain ⟨rfl, hn⟩ := qm_l2_e hc.1
      exact qs_astore F hd hc.2 hn hpc h
    | iinc z y =>
      simp only [Bool.and_eq_true, decide_eq_true_eq, Nat.beq_eq, Nat.blt_eq] at hc
      obtain ⟨⟨h1, h2⟩, h3⟩ := hc
      obtain ⟨rfl, hn⟩ := qm_l3_e h1
      exact qs_iinc F hd h2 h3 hn hpc h
    | ifCond cd off =>
      simp only [Bool.and_eq_true] at hc
      obtain ⟨rfl, hn⟩ := qm_l3_e hc.1
      have ht := qm_tgt_e hc.2
      cases cd with
      | eq => exact qs_if_eq F hd hn ht hpc h
      | ne => exact qs_if_ne F hd hn ht hpc h
      | lt => exact qs_if_lt F hd hn ht hpc h
      | ge => exact qs_if_ge F hd hn ht hpc h
      | gt => exact qs_if_gt F hd hn ht hpc h
      | le => exact qs_if_le F hd hn ht hpc h
    | if_icmp cd off =>
      simp only [Bool.and_eq_true] at hc
      obtain ⟨rfl, hn⟩ := qm_l3_e hc.1
      have ht := qm_tgt_e hc.2
      cases cd with
      | eq => exact qs_icmp_eq F hd hn ht hpc h
      | ne => exact qs_icmp_ne F hd hn ht hpc h
      | lt => exact qs_icmp_lt F hd hn ht hpc h
      | ge => exact qs_icmp_ge F hd hn ht hpc h
      | gt => exact qs_icmp_gt F hd hn ht hpc h
      | le => exact qs_icmp_le F hd hn ht hpc h
    | goto off =>
      simp only [Bool.and_eq_true, Nat.beq_eq] at hc
      obtain ⟨rfl, h2⟩ := hc
      exact qs_goto F hd (qm_tgt_e h2) hpc h
    | tableswitch dflt lo hi offs =>
      simp only [Bool.and_eq_true, decide_eq_true_eq] at hc
      exact qs_table F hd (qm_tgt_e hc.1.1) hc.1.2 hc.2 hpc h
    | lookupswitch dflt ps =>
      rw [Bool.and_eq_true, Bool.and_eq_true] at hc
      exact qs_lookup F hd (qm_tgt_e hc.1.1) hc.1.2 hc.2 hpc h
    | getfield idx =>
      rw [Bool.and_eq_true] at hc
      obtain ⟨rfl, hn⟩ := qm_l3_e hc.1
      exact qs_getfield F hd hn hc.2 hpc h
    | putfield idx =>
      rw [Bool.and_eq_true] at hc
      obtain ⟨rfl, hn⟩ := qm_l3_e hc.1
      exact qs_putfield F hd hn hc.2 hpc h
    | instanceof idx =>
      rw [Bool.and_eq_true] at hc
      obtain ⟨rfl, hn⟩ := qm_l3_e hc.1
      have h2 := hc.2
      split at h2
      · rename_i o i C htb
        simp only [Bool.and_eq_true, decide_eq_true_eq, Nat.beq_eq] at h2
        obtain ⟨⟨rfl, rfl⟩, h3⟩ := h2
        exact qs_instanceof F hd hn (qm_gt_tb htb rfl) h3 hpc h
      · cases h2
    | getstatic idx =>
      rw [Bool.and_eq_true] at hc
      obtain ⟨rfl, hn⟩ := qm_l3_e hc.1
      have h2 := hc.2
      split at h2
      · cases hb : Nat.beq ax 0 <;> rw [hb] at h h2
        · exact qs_gets1 F hd hn (qm_gt_tb (of_decide_eq_true h2) rfl) hpc h
        · exact qs_gets0 F hd hn (qm_gt_tb (of_decide_eq_true h2) rfl) hpc h
      · cases h2
    | invokevirtual idx =>
      rw [Bool.and_eq_true] at hc
      obtain ⟨rfl, hn⟩ := qm_l3_e hc.1
      obtain ⟨f, r, hst, hlen, h1⟩ := qm_pop_e _ _ _ h
      rw [List.append_nil] at h1
      split at h1
      · rename_i t i tl hfr
        obtain ⟨id, hid, h2⟩ := qm_dsp_e _ _ h1
        obtain ⟨h8, h3⟩ := qm_bifT h2
        rcases qm_bool2 (List.all_eq_true.mp hc.2 _ hid) with hq | hq
        · exact qm_callOKv hR F hd hn hpc hSd hst hlen hfr hq (Nat.ble_eq.mp h8) h3
        · exact qm_callOKu hR F hd hn hpc hSd hst hlen hfr hq (Nat.ble_eq.mp h8) h3
      · exact h1.elim
    | invokespecial idx =>
      rw [Bool.and_eq_true] at hc
      obtain ⟨hc1, hc2⟩ := hc
      have hc1 := Nat.beq_eq.mp hc1
      subst hc1
      obtain ⟨f, r, hst, hlen, h1⟩ := qm_pop_e _ _ _ h
      rw [List.append_nil] at h1
      split at h1
      · rename_i t i tl hfr
        obtain ⟨id, hid, h2⟩ := qm_dsp_e _ _ h1
        obtain ⟨h8, h3⟩ := qm_bifT h2
        have hq := List.all_eq_true.mp hc2 _ hid
        rw [Bool.and_eq_true] at hq
        exact qm_callOKp hR F hd (qm_nxt_e hq.1) hpc hSd hst hlen hfr hq.2 (Nat.ble_eq.mp h8) h3
      · exact h1.elim
    | invokestatic idx =>
      rw [Bool.and_eq_true] at hc
      obtain ⟨hc1, hc2⟩ := hc
      have hc1 := Nat.beq_eq.mp hc1
      subst hc1
      match dp, hc2, h with
      | [], hc2, h =>
        simp only [Bool.and_eq_true, decide_eq_true_eq] at hc2
        dsimp only at h
        split at h
        · rename_i n9 b9 t9 i9 a9 t8 i8 r9 x9
          obtain ⟨h8, h⟩ := qm_bifT h
          cases hb : (Nat.beq (qm_cK t8) 20 && Nat.beq (qm_cK t9) 20) <;> rw [hb] at h
          · obtain ⟨hb2, h⟩ := qm_bifT h
            simp only [Bool.and_eq_true, Nat.beq_eq] at hb2
            exact qs_copyl F hd (qm_nxt_e hc2.1) hR1 (qm_gt_tb hc2.2 rfl) (Nat.ble_eq.mp h8) hb2.1 hb2.2 rfl hpc h
          · simp only [Bool.and_eq_true, Nat.beq_eq] at hb
            exact qs_copyi F hd (qm_nxt_e hc2.1) hR1 (qm_gt_tb hc2.2 rfl) (Nat.ble_eq.mp h8) hb.1 hb.2 rfl hpc h
        · exact h.elim
      | (1, _) :: _, hc2, h =>
        simp only [Bool.and_eq_true, decide_eq_true_eq] at hc2
        exact qs_max F hd (qm_nxt_e hc2.1) hR1 (qm_gt_tb hc2.2 rfl) hpc h
      | (2, _) :: _, hc2, h =>
        simp only [Bool.and_eq_true, decide_eq_true_eq] at hc2
        exact qs_min F hd (qm_nxt_e hc2.1) hR1 (qm_gt_tb hc2.2 rfl) hpc h
      | (0, id) :: _, hc2, h =>
        obtain ⟨h9, h⟩ := qm_bifF h
        rcases qm_bool2 hc2 with hq | hq
        · rw [hq] at h9; cases h9
        · rw [Bool.and_eq_true] at hq
          exact qm_callOKs hR F hd (qm_nxt_e hq.1) hpc hq.2 hSd h
      | (z + 3, id) :: _, hc2, h =>
        obtain ⟨h9, h⟩ := qm_bifF h
        rcases qm_bool2 hc2 with hq | hq
        · rw [hq] at h9; cases h9
        · rw [Bool.and_eq_true] at hq
          exact qm_callOKs hR F hd (qm_nxt_e hq.1) hpc hq.2 hSd h
    | ireturn =>
      simp only [Bool.and_eq_true, Nat.beq_eq, decide_eq_true_eq] at hc
      obtain ⟨rfl, hrt⟩ := hc
      dsimp only at h
      split at h
      · rename_i x
        intro H locs ls hP hS hEs hL hoL hoS
        rw [hpc]
        unfold qm_nar at h
        cases hb : Nat.beq ax 0 <;> rw [hb] at h
        · exact hI hd hrt h.1 h.2 hEs hP hS
        · have : ax = 0 := Nat.beq_eq.mp hb
          subst this
          exact hI hd hrt rfl h hEs hP hS
      · exact h.elim
    | lreturn =>
      simp only [Bool.and_eq_true, Nat.beq_eq, decide_eq_true_eq] at hc
      obtain ⟨rfl, hrt⟩ := hc
      dsimp only at h
      split at h
      · intro H locs ls hP hS hEs hL hoL hoS
        rw [hpc]
        exact hJ hd hrt h hEs hP hS
      · exact h.elim
    | return_ =>
      simp only [Bool.and_eq_true, Nat.beq_eq, decide_eq_true_eq] at hc
      obtain ⟨rfl, hrt⟩ := hc
      dsimp only at h
      split at h
      · intro H locs ls hP hS hEs hL hoL hoS
        rw [hpc]
        exact hV hd hrt h hEs hP hS
      · exact h.elim
    | _ => exact h.elim
  · cases hok
theorem qm_nth_mem {e0 : qm_En} (h : qm_nth K n = some e0) : ∃ l9 ∈ K, e0 ∈ l9 := by
  unfold qm_nth at h
  split at h
  · rename_i l9 hl
    exact ⟨l9, qm_nt_mem _ _ _ hl, qm_nt_mem _ _ _ h⟩
  · cases h
theorem qm_soundW (hR : d + 1 ≤ R.frames ∧ 60 * (d + 1) ≤ R.locals ∧ cells ≤ R.cells ∧ slots ≤ R.slots) (F : qm_Fx p s m args c G own nL cc) (hSd : qm_Sd l G d)
    (hI : ∀ {H : Heap} {locs : List Loc} {ls : Array Slot} {σ : qm_Sg} {pc : Nat} {ty : FieldType} {x : Int32}, decode cc pc = .ok (.ireturn, 1) → ret9 = some ty → narrow ty (.int x) = .int x → Q σ (some (vI x)) → qm_Es G σ → va_P (gD G) vwCl (qm_ws G σ) H → va_S (gA G) s.heap H locs → W p l e R s m args below meth c H locs cells slots Z (F0 m pc ls [.int x]))
    (hJ : ∀ {H : Heap} {locs : List Loc} {ls : Array Slot} {σ : qm_Sg} {pc : Nat} {x : Int64}, decode cc pc = .ok (.lreturn, 1) → ret9 = some .long → Q σ (some (vL x)) → qm_Es G σ → va_P (gD G) vwCl (qm_ws G σ) H → va_S (gA G) s.heap H locs → W p l e R s m args below meth c H locs cells slots Z (F0 m pc ls [.long x]))
    (hV : ∀ {H : Heap} {locs : List Loc} {ls : Array Slot} {σ : qm_Sg} {pc : Nat}, decode cc pc = .ok (.return_, 1) → ret9 = none → Q σ none → qm_Es G σ → va_P (gD G) vwCl (qm_ws G σ) H → va_S (gA G) s.heap H locs → W p l e R s m args below meth c H locs cells slots Z (F0 m pc ls []))
    (hok : ∀ l9 ∈ K, l9.all (qm_okE own cc ret9 K) = true) (h : qm_Wp (qm_M d) K Q n L st σ) : qm_Gd p l e R s m args below meth c cells slots Z G nL K n L st σ := by
  refine h _ (fun n L st σ hF => ?_)
  unfold qm_F at hF
  cases hnt : qm_nth K n with
  | none => rw [hnt] at hF; exact hF.elim
  | some e0 =>
    rw [hnt] at hF
    obtain ⟨l9, h1, h2⟩ := qm_nth_mem hnt
    exact qm_step hR F hSd hI hJ hV (List.all_eq_true.mp (hok l9 h1) e0 h2) hnt hF
end STEP
theorem qm_zip_e : ∀ (l : List qm_Mi) (ks : List (List (List qm_En))) (i : Nat) (y : MethodName) (b : ByteArray) (n : Nat) (r : Option FieldType) (o p q : Nat), qm_zip l ks → qm_nt l i = some (y, b, n, r, o, p, q) → ∃ k, qm_nt ks i = some k ∧ qm_okK o b r k = true
  | [], _, _, _, _, _, _, _, _, _, _, h => by cases h
  | (y', b', n', r', o', p', q') :: l, k :: ks, 0, y, b, n, r, o, p, q, hz, h => by
    cases h
    exact ⟨k, rfl, hz.1⟩
  | (y', b', n', r', o', p', q') :: l, k :: ks, i + 1, y, b, n, r, o, p, q, hz, h => qm_zip_e l ks i y b n r o p q hz.2 h
  | _ :: _, [], _, _, _, _, _, _, _, _, hz, _ => hz.elim
theorem qm_nt_map {α β : Type} (f : α → β) (tl : List β) : ∀ (l : List α) (i : Nat) (a : α), qm_nt l i = some a → qm_nt (l.map f ++ tl) i = some (f a)
  | [], _, _, h => by cases h
  | _ :: _, 0, _, h => by cases h; rfl
  | _ :: l, i + 1, a, h => qm_nt_map f tl l i a h
theorem qm_fl_at {G : qm_Pr} (hU : (gU G = .null) ∨ ∃ t, gU G = .ref t) : ∀ (as : List qm_AV) (k i : Nat) (v : qm_AV), (qm_fl as)[i]? = some (some v) → (k + i, qm_cv G v) ∈ lv_args k (as.map (qm_cv G))
  | [], _, _, _, h => by cases h
  | w :: as, k, i, v, h => by
    have hcat := qm_cat_cv hU w
    show _ ∈ (k, qm_cv G w) :: lv_args (if (qm_cv G w).category = 2 then k + 2 else k + 1) (as.map (qm_cv G))
    rcases w with (x | x) | x
    · rw [if_neg (by rw [hcat]; exact (by decide : ¬ (1 : Nat) = 2))]
      cases i with
      | zero => cases h; exact List.mem_cons_self
      | succ i =>
        refine List.mem_cons_of_mem _ ?_
        have := qm_fl_at hU as (k + 1) i v h
        rwa [show k + 1 + i = k + (i + 1) by omega] at this
    · rw [if_pos (by rw [hcat]; rfl)]
      cases i with
      | zero => cases h; exact List.mem_cons_self
      | succ i =>
        refine List.mem_cons_of_mem _ ?_
        cases i with
        | zero => cases h
        | succ i =>
          have := qm_fl_at hU as (k + 2) i v h
          rwa [show k + 2 + i = k + (i + 1 + 1) by omega] at this
    · rw [if_neg (by rw [hcat]; exact (by decide : ¬ (1 : Nat) = 2))]
      cases i with
      | zero => cases h; exact List.mem_cons_self
      | succ i =>
        refine List.mem_cons_of_mem _ ?_
        have := qm_fl_at hU as (k + 1) i v h
        rwa [show k + 1 + i = k + (i + 1) by omega] at this
theorem qm_fl_len {G : qm_Pr} (hU : (gU G = .null) ∨ ∃ t, gU G = .ref t) : ∀ as : List qm_AV, (lg_sl (as.map (qm_cv G))).length = (qm_fl as).length
  | [] => rfl
  | w :: as => by
    have hcat := qm_cat_cv hU w
    have ih := qm_fl_len hU as
    unfold lg_sl at ih ⊢
    rw [List.map_cons, List.flatMap_cons, List.length_append, ih]
    rcases w with (x | x) | x
    · rw [if_neg (by rw [hcat]; exact (by decide : ¬ (1 : Nat) = 2))]; show 1 + _ = _ + 1; omega
    · rw [if_pos (by rw [hcat]; rfl)]; show 2 + _ = _ + 1 + 1; omega
    · rw [if_neg (by rw [hcat]; exact (by decide : ¬ (1 : Nat) = 2))]; show 1 + _ = _ + 1; omega
theorem qm_fl_ok {as : List qm_AV} (h : qm_okS as) : qm_okL (qm_fl as) := by
  induction as with
  | nil => intro v hv; cases hv
  | cons w as ih =>
    have ih := ih (qm_oT h)
    intro v hv
    rcases w with (x | x) | x
    · rcases List.mem_cons.mp hv with e | e
      · cases e; trivial
      · exact ih v e
    · rcases List.mem_cons.mp hv with e | e
      · cases e; trivial
      · rcases List.mem_cons.mp e with e | e
        · cases e
        · exact ih v e
    · rcases List.mem_cons.mp hv with e | e
      · cases e; exact qm_oH h
      · exact ih v e
theorem qm_in_ok {as : List qm_AV} {n : Nat} (h : qm_okS as) : qm_okL (qm_in n as) := by
  intro v hv
  unfold qm_in at hv
  rcases List.mem_append.mp hv with e | e
  · exact qm_fl_ok h v e
  · cases (List.mem_replicate.mp e).2
theorem qm_in_LV {G : qm_Pr} (hU : (gU G = .null) ∨ ∃ t, gU G = .ref t) {as : List qm_AV} {n : Nat} (hlen : (qm_fl as).length ≤ n) {ls : Array Slot} (h : lv_has ls n (lv_args 0 (as.map (qm_cv G)))) : qm_LV G ls n (qm_in n as) := by
  obtain ⟨h1, h2, h3⟩ := h
  refine ⟨?_, h1, h2, fun i v hi => ?_⟩
  · unfold qm_in
    rw [List.length_append, List.length_replicate]
    omega
  · unfold qm_in at hi
    by_cases hl : i < (qm_fl as).length
    · rw [List.getElem?_append_left hl] at hi
      have := qm_fl_at hU as 0 i v hi
      rw [Nat.zero_add] at this
      exact h3 _ this
    · rw [List.getElem?_append_right (by omega)] at hi
      have := List.mem_of_getElem? hi
      cases (List.mem_replicate.mp this).2
set_option maxRecDepth 100000 in
theorem qm_mL_e {id : Nat} {y : MethodName} {b : ByteArray} {n : Nat} {r : Option FieldType} {o p q : Nat} (h : qm_nt qm_mi id = some (y, b, n, r, o, p, q)) : qm_mL id = n := by
  unfold qm_mL
  rw [qm_LL_ok, qm_nt_map _ _ _ _ _ h]
theorem qm_Sd_all (l : Launch) (G : qm_Pr) (hG : qm_Ga G) : ∀ d : Nat, qm_Sd l G d
  | 0 => fun _ _ _ _ _ _ _ _ _ _ _ _ _ _ _ h => h.elim
  | d + 1 => by
    intro id y b n r o p9 q9 hid ho as σ Q hoA hEs h
    have hSd := qm_Sd_all l G hG d
    obtain ⟨m1, m2, m3, m4, m5, m6⟩ := qm_mi_e hid
    obtain ⟨hlen, h⟩ := qm_bifT h
    have hlen := Nat.ble_eq.mp hlen
    rw [qm_mL_e hid] at h hlen
    obtain ⟨k, hk, hkok⟩ := qm_zip_e _ _ _ _ _ _ _ _ _ _ qm_zip_ok hid
    have hKk : qm_K id = k := by unfold qm_K; rw [hk]
    rw [hKk] at h
    unfold qm_okK at hkok
    rw [Bool.and_eq_true] at hkok
    refine Met.ofW (cc := b) (maxL := n) (ret := r) (m6 ho) rfl ?_
    intro p e s m args below meth c s₁ B hml hv
    obtain ⟨rfl, hP, hK, hE⟩ := hv
    have hx := B.exec
    have hb := B.bytes
    have hr := B.returns
    have hts0 := atoms_spec (ws := qm_Wm y b n r) B.pre
    have hts : ∀ w ∈ qm_gt, w.before _ s = true := fun w hw => hts0 w (List.mem_cons_of_mem _ hw)
    have hown : s.vm.findClass (qm_oS o) = some m.cls := by rw [← m3]; exact findClass_of_methodNamed B.named
    have hlocks := B.notSynchronized
    have hS : va_S (gA G) s.heap s.heap [] := va_S.rf
    have hl := lv_entry (as.map (qm_cv G)) (n := n) (by rw [qm_fl_len hG.2.2.1]; exact hlen)
    rw [lg_entry_eq]
    generalize (lg_sl (as.map (qm_cv G)) ++ List.replicate (n - (lg_sl (as.map (qm_cv G))).length) Slot.unset).toArray = ls at hl ⊢
    have hW := qm_soundW (p := p) (l := l) (e := e) (R := (headSpec (qm_Wm y b n r) (qm_rm (d + 1))).room) (s := s) (m := m) (args := (as.map (qm_cv G)).toArray) (below := below) (meth := meth) (c := c) (cells := 0) (slots := 0) (Z := MQ below (qm_Qc G Q) (as.map (qm_cv G)).toArray s 0 0 (gA G)) (G := G) (own := o) (nL := n) (d := d) (cc := b) (K := k) (n := 0) (L := qm_in n as) (st := []) (σ := σ) (Q := Q) (ret9 := r)
      ⟨Nat.le_refl _, Nat.le_refl _, Nat.le_refl _, Nat.le_refl _⟩ ⟨hx, hb, hml, hown, hts, hK, hE, hG⟩ hSd
      (fun {H locs ls σ pc ty x} hd hrt hna hq hes hP hS => W.zret hx hb (hr.trans hrt) hna (fun t ht hW => ⟨⟨σ, some (vI x), hq, hes, (fun v hv => by cases hv; trivial), rfl, by rw [ht]; exact hP⟩, hS.F ht⟩) hS.2.2 hd)
      (fun {H locs ls σ pc x} hd hrt hq hes hP hS => W.lret hx hb (hr.trans hrt) (fun t ht hW => ⟨⟨σ, some (vL x), hq, hes, (fun v hv => by cases hv; trivial), rfl, by rw [ht]; exact hP⟩, hS.F ht⟩) hS.2.2 hd)
      (fun {H locs ls σ pc} hd hrt hq hes hP hS => W.vret hx hb (hr.trans hrt) (fun t ht hW => ⟨⟨σ, none, hq, hes, (fun v hv => by cases hv), rfl, by rw [ht]; exact hP⟩, hS.F ht⟩) hS.2.2 hd)
      (fun l9 hl9 => List.all_eq_true.mp hkok.2 l9 hl9) h
    have h2 := hW s.heap [] ls hP hS hEs (qm_in_LV hG.2.2.1 hlen hl) (qm_in_ok hoA) (fun v hv => by cases hv)
    rw [Nat.beq_eq.mp hkok.1] at h2
    exact h2
