def R_law : String := "SnoozeRowLaw"
def lw_P (b : Addr) (xs : List Int32) (args : Array Value) (s : State) : Prop := args = #[.ref b] ∧ s.IntsAt b xs ∧ xs.length ≤ 3072 ∧ (Jvm.Cond.and given_1 narrow_1).before args s = true
def lw_Q (_ : Array Value) (s : State) (o : Outcome) (t : State) : Prop := o = .returned (some (.int 1)) ∧ Framed s o t [] 600000 7302250
def lw_Z (below : List Frame) (a : Array Value) (s : State) : State → Prop := fun t => ∃ o, t.status = .running ∧ Ended t below o ∧ lw_Q a s o t
/-- the law's own end, with 1 on the stack, nothing written that was there before, its room as the claim has it -/
theorem lw_ret {p : Program} {l : Launch} {e : Env} {s : State} {m : MethodId} {below : List Frame} {meth : Method} {c : Code} {b : Nat} (hx : p.tables.exec = Jvm.exec) (hb : c.code = code) (hr : meth.sig.returnType = ret) (hlocks : meth.locks = false) {pc : Nat} {H : Heap} {ls : Array Slot} (hdg : decode code pc = .ok (.ireturn, 1)) : W p l e room_1 s m #[Value.ref b] below meth c H [] 600000 7302250 (lw_Z below #[Value.ref b] s) (F0 m pc ls [.int 1]) := by
  intro T hT X
  obtain ⟨fs, hret, hrun, hended, hW, hframe⟩ := X.leave (v := some (.int 1)) (hlocks := hlocks) (fun h => by rw [hr] at h; cases h)
  have hmeth' : T.vm.method? m = some meth := X.method'
  refine ⟨T.setFrames fs, ?_, .returned (some (.int 1)), hrun, hended, rfl, ⟨_, rfl⟩, hW, hframe⟩
  jvm_step X.here [X.here.top, hx, hb, hdg, hmeth', hr, ret, narrow_b1]
  (try refine ⟨rfl, ?_⟩); (try refine ⟨rfl, ?_⟩)
  first | (intro acts; rw [hret _ acts rfl rfl rfl]) | rw [hret _ _ rfl rfl rfl]
  exact Steps.refl _
/-- what holds at the law's entry: the machine, the code, the tables' words (any of lw_tbl by 'hts w (by decide +kernel)'), the script of L ints xs at the cell b, what the Statement gives of the start (any of its parts by flat_of_before) -/
def lw_At (p : Program) (s : State) (m : MethodId) (meth : Method) (c : Code) (b L : Nat) (xs : Nat → Int32) : Prop :=
  p.tables.exec = Jvm.exec ∧ c.code = code ∧ meth.sig.returnType = ret ∧ c.maxLocals = 4 ∧ s.vm.findClass R_law = some m.cls ∧ (∀ w ∈ lw_tbl, w.before #[Value.ref b] s = true) ∧ va_X b L xs s s.heap ∧ b < s.heap.size ∧ meth.locks = false ∧ (Jvm.Cond.and given_1 narrow_1).before #[Value.ref b] s = true
set_option maxRecDepth 100000 in
theorem kb_law {p : Program} {e : Env} {s : State} {m : MethodId} {below : List Frame} {meth : Method} {c : Code} (l : Launch) {b L : Nat} {xs : Nat → Int32} (hL : L ≤ 3072) (C0 : lw_At p s m meth c b L xs) {D : va_G} {ty : Nat → ClassId} {adK adV : Nat → Nat} {U : Value} (hK : va_K D vwCl (kbT ty) s) (hU : (U = .null) ∨ ∃ t, U = .ref t) (hEx : ∀ (D : va_G) (ty : Nat → ClassId) (ad : List Nat), qm_Ex (kbG D ty (fun q => s.heap.size ≤ q) ad adK adV U b L xs) s) {ad : List Nat} {h2 : List kbC} {H : Heap} {locs : List Loc} {cells slots : Nat} (hc : cells ≤ 600000) (hs : slots ≤ 7302250) (hr : kbR D ty (fun q => s.heap.size ≤ q) ad h2 H) (hS : va_S (fun q => s.heap.size ≤ q) s.heap H locs) (e5 : h2.length = 154) (e6 : ∀ q ∈ qm_cells, kbM h2 q = true) {ls : Array Slot} (hl : lv_has ls 4 [(3, .int 0), (2, .ref (ad.getD 112 0)), (1, .ref (ad.getD 0 0)), (0, .ref b)]) : W p l e room_1 s m #[Value.ref b] below meth c H locs cells slots (lw_Z below #[Value.ref b] s) (F0 m 18 ls []) := by
  obtain ⟨hx, hb, hret, hml, hown, hts, hX, hbs, hlk, hgv⟩ := C0
  have hin : ∀ w ∈ qm_gt, w.before #[Value.ref b] s = true := fun w hw => hts w (List.mem_filter.mp hw).1
  have hG : qm_Ga (kbG D ty (fun q => s.heap.size ≤ q) ad adK adV U b L xs) := kb_Ga hr e5 hU hL
  have hW := qm_soundW (p := p) (l := l) (e := e) (R := room_1) (s := s) (m := m) (args := #[Value.ref b]) (below := below) (meth := meth) (c := c) (cells := cells) (slots := slots) (Z := lw_Z below #[Value.ref b] s) (G := kbG D ty (fun q => s.heap.size ≤ q) ad adK adV U b L xs) (own := 19) (nL := 4) (d := 40) (cc := code) (K := qk_197) (n := 10) (L := [some (vR 100 0), some (vR 0 0), some (vR 50 0), some (vI (nI 0))]) (st := []) (σ := kbσ xs L) (Q := fun _ r => r = some (vI 1)) (ret9 := ret)
    ⟨by decide, by decide, hc, hs⟩ ⟨hx, hb, hml, hown, hin, hK, hEx D ty ad, hG⟩ (qm_Sd_all l _ hG 40)
    (fun {H1 locs1 ls1 σ1 pc1 ty1 x1} hd hrt hna hq hes hP hS1 => by
      have ex : x1 = 1 := by cases hq; rfl
      subst ex
      exact va_forget (fun q hq => hS1.2.2 q hq) (W.widen hc hs (lw_ret hx hb hret hlk hd)))
    (fun {H1 locs1 ls1 σ1 pc1 x1} hd hrt hq hes hP hS1 => by cases hq)
    (fun {H1 locs1 ls1 σ1 pc1} hd hrt hq hes hP hS1 => by cases hq)
    qo_law (law_l (d := 40) (Q := fun _ r => r = some (vI 1)) (by decide) hL (fun _ => rfl) 512 0 (kbσ xs L) kbZ0 (by omega) (by omega) (kb_cI xs L) (kb_mI xs L) kb_wS rfl)
  have k := hW H locs ls (kb_world hr e6) hS kb_Es (kb_LV rfl rfl hl) kb_okL0 (fun v hv => by cases hv)
  rw [show qm_pc qk_197 10 = 18 by decide +kernel] at k
  exact k
set_option maxRecDepth 100000 in
theorem kb_dec : decode code 0 = .ok (.new 7, 3) ∧ decode code (0 + 3) = .ok (.dup, 1) ∧ decode code (0 + 3 + 1) = .ok (.invokespecial 9, 3) ∧ decode code 7 = .ok (.astore_n 1, 1) ∧ decode code 8 = .ok (.new 10, 3) ∧ decode code (8 + 3) = .ok (.dup, 1) ∧ decode code (8 + 3 + 1) = .ok (.invokespecial 12, 3) ∧ decode code 15 = .ok (.astore_n 2, 1) ∧ decode code 16 = .ok (.iconst 0, 1) ∧ decode code 17 = .ok (.istore_n 3, 1) := ⟨rfl, rfl, rfl, rfl, rfl, rfl, rfl, rfl, rfl, rfl⟩
theorem whole_start {p : Program} {e : Env} {s : State} {m : MethodId} {below : List Frame} {meth : Method} {c : Code} (l : Launch) (hflags : l.flags = flags0) {b L : Nat} {xs : Nat → Int32} (hL : L ≤ 3072) (C0 : lw_At p s m meth c b L xs) : W p l e room_1 s m #[Value.ref b] below meth c s.heap [] 0 0 (lw_Z below #[Value.ref b] s) (entryFrame m ([Value.ref b] : List Value).toArray 4) := by
  have C1 := C0
  obtain ⟨hx, hb, hret, hml, hown, hts, hX, hbs, hlk, hgv⟩ := C1
  have hin : ∀ w ∈ qm_gt, w.before #[Value.ref b] s = true := fun w hw => hts w (List.mem_filter.mp hw).1
  obtain ⟨D, ty, hK, hE⟩ := kb_entry hts
  obtain ⟨adK, adV, U, hU, hEx⟩ := kb_out hts hgv hX hbs hE.2.2.2.1
  obtain ⟨h, h2, e1, e2, e3, e4, e5, e6⟩ := kb_end
  obtain ⟨d0, d3, d4, d7, d8, d11, d12, d15, d16, d17⟩ := kb_dec
  rw [lg_entry_eq]
  have hl := lv_entry [Value.ref b] (n := 4) (show 1 ≤ 4 by decide)
  generalize (lg_sl [Value.ref b] ++ List.replicate (4 - (lg_sl [Value.ref b]).length) Slot.unset).toArray = ls at hl ⊢
  have hl : lv_has ls 4 [(0, .ref b)] := hl
  have hS : va_S (fun q => s.heap.size ≤ q) s.heap s.heap [] := va_S.rf
  have hr0 : kbR D ty (fun q => s.heap.size ≤ q) [] [] s.heap := ⟨rfl, (fun k q h => by cases h), (fun i j x y h => by cases h), (fun k q h => by cases h)⟩
  have e1 : kbX 400 12 111 1906 0 0 0 (kb_as (kbN 12) [.inr ([] : List kbC).length]) [] ([] ++ [.inl (11, kb_nl 11)]) = some h := e1
  refine kb_make (R := room_1) (own := "SnoozeRowLaw") (cc := code) (nL := 4) (idx1 := 7) (idx2 := 9) ⟨hx, hb, hml, hown, hin⟩ hK hE (fun _ h => h) hr0 hS rfl (ci := 11) rfl (id := 12) (mc := 111) (ms := 1906) (by decide) e1 (by decide) (by decide) (qm_gt_tb (p := 23) (by decide +kernel) rfl) (qm_gt_tb (p := 1) (by decide +kernel) rfl) (qm_gt_tb (p := 25) (by decide +kernel) rfl) (qm_gt_tb (p := 26) (by decide +kernel) rfl) (by decide +kernel) hl.1 (by decide) d0 d3 d4 (by decide) (fun q1 qs1 H1 locs1 hr1 hS1 => ?_)
  refine lv_astore_n (i := 1) hx hb d7 rfl hl (by decide) rfl (fun ls1 hl1 => ?_)
  have hl1 : lv_has ls1 4 [(1, .ref q1), (0, .ref b)] := hl1
  have e4 : kbX 400 13 41 1821 0 0 0 (kb_as (kbN 13) [.inr h.length]) [] (h ++ [.inl (12, kb_nl 12)]) = some h2 := by rw [e2]; exact e4
  refine kb_make (R := room_1) (own := "SnoozeRowLaw") (cc := code) (nL := 4) (idx1 := 10) (idx2 := 12) ⟨hx, hb, hml, hown, hin⟩ hK hE (fun _ h => h) hr1 hS1 e3 (ci := 12) rfl (id := 13) (mc := 41) (ms := 1821) (by decide) e4 (by decide) (by decide) (qm_gt_tb (p := 837) (by decide +kernel) rfl) (qm_gt_tb (p := 14) (by decide +kernel) rfl) (qm_gt_tb (p := 839) (by decide +kernel) rfl) (qm_gt_tb (p := 840) (by decide +kernel) rfl) (by decide +kernel) hl1.1 (by decide) d8 d11 d12 (by decide) (fun q2 qs2 H2 locs2 hr2 hS2 => ?_)
  refine lv_astore_n (i := 2) hx hb d15 rfl hl1 (by decide) rfl (fun ls2 hl2 => ?_)
  have hl2 : lv_has ls2 4 [(2, .ref q2), (1, .ref q1), (0, .ref b)] := hl2
  refine lv_iconst hx hb d16 (show Int32.ofInt 0 = 0 by decide) ?_
  refine lv_istore_n (i := 3) hx hb d17 rfl hl2 (by decide) rfl (fun ls3 hl3 => ?_)
  have hl3 : lv_has ls3 4 [(3, .int 0), (2, .ref q2), (1, .ref q1), (0, .ref b)] := hl3
  have z1 : ([] ++ [q1] ++ qs1 ++ [q2] ++ qs2).getD 0 0 = q1 := rfl
  have z2 : ([] ++ [q1] ++ qs1 ++ [q2] ++ qs2).getD 112 0 = q2 := by
    have z3 : ([] ++ [q1] ++ qs1).length = 112 := hr1.1.trans e2
    rw [gd_app (by rw [List.length_append, z3]; show 112 < 112 + 1; omega)]
    exact kb_last z3
  exact kb_law l hL C0 hK hU hEx (by decide) (by decide) hr2 hS2 e5 e6 (by rw [z1, z2]; exact hl3)
set_option maxHeartbeats 4000000 in
theorem lw_walk (l : Launch) (hflags : l.flags = flags0) (b : Addr) (xs : List Int32) : MetFree l x (headSpec (Jvm.Cond.code x code maxLocals ret :: tables_1) room_1) (lw_P b xs) (fun _ _ _ _ _ => True) lw_Q := by
  refine MetFree.of_bodyS (code := code) (maxLocals := maxLocals) (ret := ret) (by decide) ?_ ?_
  · intro args s m h hn
    obtain ⟨meth, c, h1, h2, h3, h4, h5, h6, -, -⟩ := Cond.code_spec hn (atoms_spec (ws := Jvm.Cond.code x code maxLocals ret :: tables_1) h _ List.mem_cons_self)
    exact ⟨meth, c, h1, h2, h3, h4, h5, h6⟩
  · intro p e s m args below meth c s₁ B hml0 hP _
    obtain ⟨rfl, hx, hbd, hgv⟩ := hP
    obtain ⟨scr, harrAt, hlist, hof, hsmall⟩ := hx
    obtain ⟨hcb, hkn, -, -⟩ := State.arrayAt?_spec harrAt
    have hown : s.vm.findClass R_law = some m.cls := findClass_of_methodNamed B.named
    have hts0 : ∀ c ∈ (Jvm.Cond.code x code maxLocals ret :: tables_1), c.before #[Value.ref b] s = true := atoms_spec (ws := Jvm.Cond.code x code maxLocals ret :: tables_1) B.pre
    have hts : ∀ w ∈ lw_tbl, w.before #[Value.ref b] s = true := k2_hts_sels lw_privs (fun w hw => hts0 w (List.mem_cons_of_mem _ hw)) lw_privs_ok
    have hml : c.maxLocals = 4 := B.maxLocals_eq (hts0 _ List.mem_cons_self)
    have X₀ : Stand p l e room_1 s m #[Value.ref b] below meth c s₁ [] 0 0 := Stand.of_body B
    have hh0 : s₁.heap = s.heap := by rw [B.state]; rfl
    have hsz : scr.slots.size = xs.length := by rw [← Array.length_toList, hlist, List.length_map]
    have hval : ∀ j : Nat, j < xs.length → scr.slots[j]? = some (.int (xs.getD j 0)) := fun j hj => by
      rw [← Array.getElem?_toList, hlist]
      simp [hj]
    have hbl : b < s.heap.size := (Array.getElem?_eq_some_iff.mp hcb).1
    have hX : va_X b xs.length (fun j => xs.getD j 0) s s.heap := ⟨scr, hcb, hof, hkn, hsz, hval⟩
    have K : W p l e room_1 s m #[Value.ref b] below meth c s₁.heap [] 0 0 (lw_Z below #[Value.ref b] s) (entryFrame m ([Value.ref b] : List Value).toArray 4) := by
      rw [hh0]
      exact whole_start l hflags hbd ⟨B.exec, B.bytes, B.returns, hml, hown, hts, hX, hbl, B.notSynchronized, hgv⟩
    obtain ⟨t, a1, o, b1, b2, b3⟩ := K s₁ rfl X₀
    exact ⟨t, o, a1, b1, b2, b3⟩
theorem lw_pre_spec {args : Array Value} {s : State} (h : (Jvm.Cond.and given_1 narrow_1).before args s = true) (hr : rest_1_c.before args s = true) : ∃ (b : Addr) (xs : List Int32), lw_P b xs args s := by
  have hs := flat_of_before _ h
  have hq := flat_of_before _ hr
  have hc : (Cond.count 1).before args s = true := hs _ (by decide +kernel)
  have harr : (Cond.arrayOf (.arg 0) .int).before args s = true := hs _ (by decide +kernel)
  have hle : (Cond.le (.length (.arg 0)) (.int 3072)).before args s = true := hs _ (by decide +kernel)
  have hlen : (Cond.isInt (.length (.arg 0))).before args s = true := hq _ (by decide +kernel)
  have hall : (Cond.all (.arg 0) (.isInt (.elem (.arg 0) (.index 0)))).before args s = true := hq _ (by decide +kernel)
  obtain ⟨b, xs, hb, hx⟩ := State.ints_of_pre rfl harr hlen hall
  have hsm : xs.length < 2 ^ 31 := hx.choose_spec.2.2.2
  have hev : (Term.length (.arg 0)).eval args s none [] s = some (.int xs.length.toInt32) := hx.length_eval hb
  have hv := Cond.le_ints hev (show (Term.int 3072).eval args s none [] s = some (.int 3072) from rfl)
  have hd : xs.length.toInt32 ≤ 3072 := by
    simpa [Cond.before, Cond.holds, hv] using hle
  have hN : xs.length ≤ 3072 := (Int32.ofNat_le_ofNat hsm (by decide)).mp (show Int32.ofNat xs.length ≤ Int32.ofNat 3072 from hd)
  exact ⟨b, xs, Cond.one_arg hc (show args[0]? = some (.ref b) from hb), hx, hN, h⟩
theorem lw_comes (l : Launch) (hflags : l.flags = flags0) : Comes l x (Jvm.Cond.code x code maxLocals ret :: tables_1) room_1 (fun tb e args s => Calls_1 tb e args s ∧ rest_1 tb e args s ∧ Pre_1 tb e args s)
    (fun _ _ args s o t => lw_Q args s o t) := by
  intro p e ha hc hk s m args below hf hfit hheap happ hpre
  obtain ⟨b, xs, hP⟩ := lw_pre_spec hpre.2.2 hpre.2.1
  obtain ⟨k, o, h1, h2, h3, hQ⟩ := lw_walk l hflags b xs p e ha hc hk s m args below hf ((Spec.applies_iff_loose hf).mp happ).1 hP trivial
  exact ⟨k, o, h1, h2, h3, hQ⟩
theorem lw_frame {s t : State} {o : Outcome} {args : Array Value} (h : Framed s o t [] 600000 7302250) :
    Framed s o t (fieldLocs frame_1_writes args s ++ arrayLocs frame_1_arrays args s ++ staticLocs frame_1_statics s) 600000 7302250 := h
theorem lw_limb (L : Cond) (hL : ∀ (args : Array Value) (s t : State), L.after args s (.returned (some (.int 1))) t = true) :
    ArmFor flags0 classFile x code maxLocals ret World_1 tables_1 room_1 Calls_1 rest_1 Pre_1
      (fun tb e a s o t => postC L tb e a s o t ∧ Framed s o t (fieldLocs frame_1_writes a s ++ arrayLocs frame_1_arrays a s ++ staticLocs frame_1_statics s) 600000 7302250) := by
  intro l hflags _ _ p e ha hc hk s m args below hf hfit hheap happ hpre
  obtain ⟨k, o, h1, h2, h3, rfl, hF⟩ := lw_comes l hflags p e ha hc hk s m args below hf hfit hheap happ hpre
  exact ⟨k, _, h1, h2, h3, hL args s _, lw_frame hF⟩
theorem i_vc : Claimed_1_1 ∧ Claimed_1_2 := ⟨lw_limb limb_1_1 (fun args s t => by simp [limb_1_1, Cond.after, Cond.holds, Cond.value]), lw_limb limb_1_2 (fun args s t => Cond.after_iff.mpr (by
  first | (rw [show limb_1_2 = Cond.eq .result (.int 1) from rfl, Cond.eq_ints (x := 1) (y := 1) rfl rfl]; simp; done) | (simp [limb_1_2, Cond.value, Term.eval]; done)))⟩
