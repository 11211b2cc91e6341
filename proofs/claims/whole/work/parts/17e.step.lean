theorem kbEx_next {s U : State} (h : kbEx s) (hW : s.WarmedH U.vm) : kbEx U := by
  obtain ⟨h1, h2, h3, h4, h5⟩ := h
  exact ⟨va_AO.moved hW.alike h1, va_AO.moved hW.alike h2, arrayOver_alikeB hW.alike h3, fun q hq => va_Nw.warmC hW (h4 q hq), va_Nw.warmM hW h5⟩
theorem kbEx_call {U : State} (g : JFrame) (mk : MethodId) (a : Array Value) (h : kbEx U) : kbEx (U.calling g mk a) := by
  obtain ⟨h1, h2, h3, h4, h5⟩ := h
  have hvm : U.vm.Alike (U.calling g mk a).vm := Vm.Alike.refl U.vm
  exact ⟨va_AO.moved hvm h1, va_AO.moved hvm h2, arrayOver_alikeB hvm h3, fun q hq => va_Nw.same rfl rfl (h4 q hq), va_Nw.same rfl rfl h5⟩
theorem kbBlind {D : va_G} {ty : Nat → ClassId} {A : Nat → Prop} {ad : List Nat} {h : List kbC} {av : List Value} : FrameBlind (va_Pc av (kbWd D ty A ad h)) := fun a U g mk h => ⟨h.1, h.2.1, va_K.moved (u := U) (U := U.calling g mk a) (Vm.Alike.refl U.vm) h.2.2.1, kbEx_call g mk a h.2.2.2.1, h.2.2.2.2⟩
theorem kb_bif {α : Type} {b : Bool} {x : Option α} {y : α} (h : (bif b then x else none) = some y) : b = true ∧ x = some y := by
  cases b
  · cases h
  · exact ⟨rfl, h⟩
theorem kb_stk {ad qs : List Nat} {n : Nat} (hn : n ≤ ad.length) {st : List kbV} (h : st.all (kb_ok1 n) = true) : st.map (kv (ad ++ qs)) = st.map (kv ad) :=
  List.map_congr_left (fun v hv => kv_app hn (List.all_eq_true.mp h v hv))
theorem kb_sum (ad : List Nat) : ∀ st : List kbV, ((st.map (kv ad)).map fun v => v.category).sum = st.length
  | [] => rfl
  | v :: r => by
    show (kv ad v).category + ((r.map (kv ad)).map fun v => v.category).sum = r.length + 1
    rw [kv_cat, kb_sum ad r]
    omega
theorem kb_last {ad : List Nat} {q k : Nat} (h : ad.length = k) : (ad ++ [q]).getD k 0 = q := by
  rw [List.getD_eq_getElem?_getD, List.getElem?_append_right (by omega), show k - ad.length = 0 by omega]
  rfl
theorem kb_all3 {L : List kbF} {st : List kbV} {h : List kbC} (hk : kb_okA L st h = true) : L.all (kb_okF h.length) = true ∧ st.all (kb_ok1 h.length) = true ∧ h.all (kb_okC h.length) = true := by
  unfold kb_okA at hk
  rw [Bool.and_eq_true, Bool.and_eq_true] at hk
  exact ⟨hk.1.1, hk.1.2, hk.2⟩
section KBS
variable {p : Program} {l : Launch} {e : Env} {R : Room} {s : State} {m : MethodId} {args : Array Value} {below : List Frame} {meth : Method} {c : Code} {Z : State → Prop} {D : va_G} {ty : Nat → ClassId} {A : Nat → Prop} {id mc ms n : Nat} {h1 : List kbC}
def kbFx (p : Program) (s : State) (m : MethodId) (args : Array Value) (meth : Method) (c : Code) (D : va_G) (ty : Nat → ClassId) (A : Nat → Prop) (id : Nat) : Prop := p.tables.exec = Jvm.exec ∧ c.code = kbc id ∧ c.maxLocals = kbN id ∧ s.vm.findClass (qm_oS (kbo id)) = some m.cls ∧ (∀ w ∈ qm_gt, w.before args s = true) ∧ va_K D vwCl (kbT ty) s ∧ kbEx s ∧ (id ≠ 11 → meth.name = "<init>") ∧ ∀ q, s.heap.size ≤ q → A q
def kbRet (p : Program) (l : Launch) (e : Env) (R : Room) (s : State) (m : MethodId) (args : Array Value) (below : List Frame) (meth : Method) (c : Code) (Z : State → Prop) (D : va_G) (ty : Nat → ClassId) (A : Nat → Prop) (id mc ms : Nat) (h1 : List kbC) (ad : List Nat) : Prop := ∀ (qs : List Nat) (nc1 ns1 : Nat) (H1 : Heap) (locs1 : List Loc) (pc1 : Nat) (ls1 : Array Slot), nc1 ≤ mc → ns1 ≤ ms → kbR D ty A (ad ++ qs) h1 H1 → va_S A s.heap H1 locs1 → decode (kbc id) pc1 = .ok (.return_, 1) → W p l e R s m args below meth c H1 locs1 nc1 ns1 Z (F0 m pc1 ls1 [])
theorem kbRet.app {ad : List Nat} (h : kbRet p l e R s m args below meth c Z D ty A id mc ms h1 ad) (qs : List Nat) : kbRet p l e R s m args below meth c Z D ty A id mc ms h1 (ad ++ qs) := by
  intro qs2 nc1 ns1 H1 locs1 pc1 ls1 g1 g2 g3 g4 g5
  rw [List.append_assoc] at g3
  exact h _ _ _ _ _ _ _ g1 g2 g3 g4 g5
def kbC9 (p : Program) (l : Launch) (e : Env) (R : Room) (s : State) (m : MethodId) (args : Array Value) (below : List Frame) (meth : Method) (c : Code) (Z : State → Prop) (D : va_G) (ty : Nat → ClassId) (A : Nat → Prop) (id mc ms : Nat) (h1 : List kbC) (n : Nat) : Prop := ∀ (i nc ns : Nat) (L : List kbF) (st : List kbV) (h : List kbC), kbX n id mc ms i nc ns L st h = some h1 → ∀ (ad : List Nat) (H : Heap) (locs : List Loc) (ls : Array Slot), kbR D ty A ad h H → va_S A s.heap H locs → kbLV ad ls (kbN id) L → kbRet p l e R s m args below meth c Z D ty A id mc ms h1 ad → W p l e R s m args below meth c H locs nc ns Z (F0 m (kbpc (kbK id) i) ls (st.map (kv ad)))
theorem kbPre {ad : List Nat} {h : List kbC} {H : Heap} {locs : List Loc} (hK : va_K D vwCl (kbT ty) s) (hE : kbEx s) (hA : ∀ q, s.heap.size ≤ q → A q) (hr : kbR D ty A ad h H) (hS : va_S A s.heap H locs) {av : List Value} : ∀ U : State, U.heap = H → s.WarmedH U.vm → va_Pc av (kbWd D ty A ad h) av.toArray U :=
  fun U hU hW => ⟨rfl, by rw [hU]; exact hr, va_K.moved hW.alike hK, kbEx_next hE hW, fun q hq => hA q (Nat.le_trans hS.1 (by rw [← hU]; exact hq))⟩
theorem kb_callK {H : Heap} {locs : List Loc} {cells slots mc2 ms2 pc : Nat} {ls : Array Slot} {st0 rest : List Value} {a : Array Value} {ad : List Nat} {h2 : List kbC} (hr : va_Run p l e R s m args below meth c H locs cells slots mc2 ms2 (F0 m pc ls st0) rest (kbQc D ty A ad h2 a) A) (hS : va_S A s.heap H locs)
    (kk : ∀ (qs : List Nat) (H1 : Heap) (locs1 : List Loc), kbR D ty A (ad ++ qs) h2 H1 → va_S A s.heap H1 locs1 → W p l e R s m args below meth c H1 locs1 (cells + mc2) (slots + ms2) Z (F0 m (pc + 3) ls rest)) : W p l e R s m args below meth c H locs cells slots Z (F0 m pc ls st0) := by
  intro T hT X
  obtain ⟨v, st₀, t, T', L, h0, X', hL, e1, e2, ⟨⟨ho, qs, hp⟩, hz, hk⟩, st⟩ := hr T hT X
  have hv : v = none := by cases ho; rfl
  subst hv
  rw [h0] at hz hk
  obtain ⟨t2, a1, b1⟩ := kk qs T'.heap (locs ++ L) (by rw [e1]; exact hp) ⟨Nat.le_trans hS.1 (by rw [e1]; exact hz), fun q h1 h2 => by rw [e1, hk q (Nat.lt_of_lt_of_le h1 hS.1) h2]; exact hS.2.1 q h1 h2, fun q hq => by
      rcases List.mem_append.mp hq with h | h
      · exact hS.2.2 q h
      · exact hL q h⟩ T' rfl X'
  exact ⟨t2, st t2 a1, b1⟩
theorem kb_dn {ad : List Nat} {g : Nat → Nat} {f : Nat → Nat} : ∀ n : Nat, (∀ j, j < n → ad.getD (f j) 0 = g j) → dnR ad ((List.range n).reverse.map (fun j => (j, f j))) = fun j => if j < n then some (g j) else none
  | 0, _ => by funext j; show none = _; rw [if_neg (by omega)]
  | n + 1, h => by
    rw [List.range_succ, List.reverse_append, List.reverse_singleton, List.singleton_append, List.map_cons]
    show va_up (dnR ad _) n (some (ad.getD (f n) 0)) = _
    rw [kb_dn n (fun j hj => h j (by omega)), h n (by omega)]
    funext j
    unfold va_up
    by_cases e1 : j = n
    · rw [if_pos e1, if_pos (by omega), e1]
    · rw [if_neg e1]
      show (if j < n then some (g j) else none) = _
      by_cases e2 : j < n
      · rw [if_pos e2, if_pos (by omega)]
      · rw [if_neg e2, if_neg (by omega)]
theorem kb_mulW {ad : List Nat} {h : List kbC} (hl : ad.length = h.length) (hok : h.all (kb_okC h.length) = true) (q N M : Nat) : kbW ty (ad ++ (q :: (List.range N).map (fun j => q + 1 + j))) (h ++ kb_mul h N M) = kbW ty ad h ++ kb_mw q N M (ty 26) (ty 23) := by
  rw [kbW_app hl hok]
  congr 1
  unfold kb_mul kb_mw
  rw [List.zipWith_cons_cons]
  have e1 : kbE ty (ad ++ (q :: (List.range N).map (fun j => q + 1 + j))) (.inr (26, N, [], (List.range N).reverse.map (fun j => (j, h.length + 1 + j)))) = .inl (ty 26, N, .inr (.inr (.inr (.inr (kb_ro q N))))) := by
    show Sum.inl (ty 26, N, Sum.inr (Sum.inr (Sum.inr (Sum.inr (dnR _ _))))) = _
    rw [kb_dn (g := fun j => q + 1 + j) N (fun j hj => ?_)]
    · rfl
    · rw [List.getD_eq_getElem?_getD, List.getElem?_append_right (by omega), show h.length + 1 + j - ad.length = j + 1 by omega, List.getElem?_cons_succ, List.getElem?_map, List.getElem?_range hj]
      rfl
  rw [e1]
  congr 1
  apply List.ext_getElem?
  intro j
  rw [List.getElem?_zipWith, List.getElem?_map, List.getElem?_map]
  by_cases hj : j < N
  · rw [List.getElem?_range hj, List.getElem?_replicate, if_pos hj]
    rfl
  · rw [List.getElem?_eq_none (by rw [List.length_range]; omega)]
    rfl
theorem kb_cut {st : List kbV} {na b : Nat} (h : st[na]? = some (.inr b)) : ∃ tl, (st.take (na + 1)).reverse = .inr b :: tl ∧ tl.length = na ∧ st = tl.reverse ++ .inr b :: st.drop (na + 1) := by
  have e := List.take_append_drop (na + 1) st
  have e2 : st.take (na + 1) = st.take na ++ [.inr b] := by
    rw [List.take_add_one, h]
    rfl
  refine ⟨(st.take na).reverse, by rw [e2, List.reverse_append]; rfl, ?_, ?_⟩
  · rw [List.length_reverse, List.length_take]
    have := (List.getElem?_eq_some_iff.mp h).1
    omega
  · rw [e2, List.append_assoc] at e
    rw [List.reverse_reverse]
    exact e.symm
theorem kb_step (hid : id ≤ 13) (hf : n + 2 ≤ R.frames ∧ 60 * (n + 2) ≤ R.locals ∧ mc ≤ R.cells ∧ ms ≤ R.slots) (F : kbFx p s m args meth c D ty A id) (hM : kbMt l D ty A n) (ih : kbC9 p l e R s m args below meth c Z D ty A id mc ms h1 n) : kbC9 p l e R s m args below meth c Z D ty A id mc ms h1 (n + 1) := by
  obtain ⟨hx, hb, hml, hown, hts, hK, hE, hname, hA⟩ := F
  intro i nc ns L st h hX ad H locs ls hr hS hL hret
  unfold kbX at hX
  cases hq : qm_nt (kbK id) i with
  | none => rw [hq] at hX; cases hX
  | some e0 =>
    have hok := List.all_eq_true.mp (kb_chk hid) e0 (qm_nt_mem _ _ _ hq)
    obtain ⟨ins, pc, nx, ax, kc, w⟩ := e0
    have hpc : kbpc (kbK id) i = pc := by unfold kbpc; rw [hq]
    rw [hpc]
    rw [hq] at hX
    dsimp only at hX
    unfold kbOk at hok
    dsimp only at hok
    split at hok
    · rename_i i9 ln hd
      simp only [Bool.and_eq_true, decide_eq_true_eq] at hok
      obtain ⟨rfl, hc⟩ := hok
      unfold kbCk at hc
      cases i9 with
      | iconst z =>
        simp only [Bool.and_eq_true, decide_eq_true_eq] at hc
        obtain ⟨hc1, hv⟩ := hc
        obtain ⟨rfl, hn⟩ := kbn_e hc1
        have k := ih nx nc ns L (.inl kc :: st) h hX ad H locs ls hr hS hL hret
        rw [hn] at k
        exact lv_iconst hx hb hd hv k
      | bipush z =>
        simp only [Bool.and_eq_true, decide_eq_true_eq] at hc
        obtain ⟨hc1, hv⟩ := hc
        obtain ⟨rfl, hn⟩ := kbn_e hc1
        have k := ih nx nc ns L (.inl kc :: st) h hX ad H locs ls hr hS hL hret
        rw [hn] at k
        exact lv_bipush hx hb hd hv k
      | sipush z =>
        simp only [Bool.and_eq_true, decide_eq_true_eq] at hc
        obtain ⟨hc1, hv⟩ := hc
        obtain ⟨rfl, hn⟩ := kbn_e hc1
        have k := ih nx nc ns L (.inl kc :: st) h hX ad H locs ls hr hS hL hret
        rw [hn] at k
        exact lv_sipush hx hb hd hv k
      | aload_n z =>
        simp only [Bool.and_eq_true, Nat.beq_eq] at hc
        obtain ⟨hc1, hz⟩ := hc
        obtain ⟨rfl, hn⟩ := kbn_e hc1
        dsimp only at hX
        split at hX
        · rename_i k9 hl
          have k := ih nx nc ns L (.inr k9 :: st) h hX ad H locs ls hr hS hL hret
          rw [hn] at k
          exact lv_aload_n hx hb hd hz (hL.2.2.2 ax (.inr k9) hl) k
        · cases hX
      | iload_n z =>
        simp only [Bool.and_eq_true, Nat.beq_eq] at hc
        obtain ⟨hc1, hz⟩ := hc
        obtain ⟨rfl, hn⟩ := kbn_e hc1
        dsimp only at hX
        split at hX
        · rename_i x9 hl
          have k := ih nx nc ns L (.inl x9 :: st) h hX ad H locs ls hr hS hL hret
          rw [hn] at k
          exact lv_iload_n hx hb hd hz (hL.2.2.2 ax (.inl x9) hl) k
        · cases hX
      | astore_n z =>
        simp only [Bool.and_eq_true, Nat.beq_eq] at hc
        obtain ⟨hc1, hz⟩ := hc
        obtain ⟨rfl, hn⟩ := kbn_e hc1
        dsimp only at hX
        split at hX
        · rename_i k9 r9
          obtain ⟨g1, hX⟩ := kb_bif hX
          have g1 := Nat.blt_eq.mp g1
          refine lv_astore_n hx hb hd hz hL.has (by rw [← hL.1]; exact g1) rfl (fun ls' hl' => ?_)
          have k := ih nx nc ns _ r9 h hX ad H locs ls' hr hS (kbLV.st (v := .inr k9) hL.1 hl' g1) hret
          rw [hn] at k
          exact k
        · cases hX
      | istore_n z =>
        simp only [Bool.and_eq_true, Nat.beq_eq] at hc
        obtain ⟨hc1, hz⟩ := hc
        obtain ⟨rfl, hn⟩ := kbn_e hc1
        dsimp only at hX
        split at hX
        · rename_i x9 r9
          obtain ⟨g1, hX⟩ := kb_bif hX
          have g1 := Nat.blt_eq.mp g1
          refine lv_istore_n hx hb hd hz hL.has (by rw [← hL.1]; exact g1) rfl (fun ls' hl' => ?_)
          have k := ih nx nc ns _ r9 h hX ad H locs ls' hr hS (kbLV.st (v := .inl x9) hL.1 hl' g1) hret
          rw [hn] at k
          exact k
        · cases hX
      | iinc z y =>
        simp only [Bool.and_eq_true, Nat.beq_eq, decide_eq_true_eq] at hc
        obtain ⟨hc1, hz, hv⟩ := hc
        obtain ⟨rfl, hn⟩ := kbn_e hc1
        subst hz
        dsimp only at hX
        split at hX
        · rename_i x9 hl
          have g1 : z < L.length := (List.getElem?_eq_some_iff.mp hl).1
          obtain ⟨j, hj⟩ := List.getElem?_of_mem (kbs_mem (ad := ad).mpr ⟨_, hl, rfl⟩)
          refine lv_iinc hx hb hd hL.has hj (by rw [hv]) (by rw [← hL.1]; exact g1) rfl (fun ls' hl' => ?_)
          have k := ih nx nc ns _ st h hX ad H locs ls' hr hS (kbLV.st (v := .inl (x9 + kc)) hL.1 hl' g1) hret
          rw [hn] at k
          exact k
        · cases hX
      | dup =>
        obtain ⟨rfl, hn⟩ := kbn_e hc
        dsimp only at hX
        split at hX
        · rename_i v9 r9
          have k := ih nx nc ns L _ h hX ad H locs ls hr hS hL hret
          rw [hn] at k
          exact lv_dup hx hb hd (kv_cat v9) k
        · cases hX
      | goto z =>
        simp only [Bool.and_eq_true, Nat.beq_eq] at hc
        obtain ⟨rfl, ht⟩ := hc
        unfold kbtg at ht
        exact lv_goto hx hb hd (of_decide_eq_true ht) (ih ax nc ns L st h hX ad H locs ls hr hS hL hret)
      | if_icmp op z =>
        simp only [Bool.and_eq_true] at hc
        obtain ⟨hc1, ht⟩ := hc
        obtain ⟨rfl, hn⟩ := kbn_e hc1
        unfold kbtg at ht
        have ht := of_decide_eq_true ht
        cases op with
        | ge =>
          dsimp only at hX
          split at hX
          · rename_i b9 a9 r9
            refine lv_icmp_ge hx hb hd ht (fun c9 => ?_) (fun c9 => ?_)
            · rw [if_pos c9] at hX
              exact ih ax nc ns L r9 h hX ad H locs ls hr hS hL hret
            · rw [if_neg c9] at hX
              have k := ih nx nc ns L r9 h hX ad H locs ls hr hS hL hret
              rw [hn] at k
              exact k
          · cases hX
        | _ => cases hX
      | new idx =>
        dsimp only at hc
        rw [Bool.and_eq_true] at hc
        obtain ⟨hc1, hc2⟩ := hc
        obtain ⟨rfl, hn⟩ := kbn_e hc1
        obtain ⟨g1, hX⟩ := kb_bif hX
        simp only [Bool.and_eq_true, Nat.ble_eq] at g1
        obtain ⟨⟨g1, g2⟩, g3⟩ := g1
        obtain ⟨o1, o2, o3⟩ := kb_all3 g3
        split at hc2
        · rename_i C T N hcl
          simp only [Bool.and_eq_true, decide_eq_true_eq, Nat.beq_eq] at hc2
          obtain ⟨w1, w2, w3, w4⟩ := hc2
          subst w4
          obtain ⟨c1, ⟨ty0, c2⟩, c3, c4, c5⟩ := qm_cls hcl
          obtain ⟨f1, f2, f3⟩ := kb_fd hcl
          refine va_new hx hb hts c1 ty0 c2 hown (hts _ (qm_gt_tb w1 rfl)) (hts _ (qm_gt_tb w2 rfl)) (hts _ (qm_gt_tb w3 rfl)) hK hr.2.1 hr.2.2 hS hA hcl (kb_def hcl c2) (Nat.le_trans g1 hf.2.2.1) (Nat.le_trans g2 hf.2.2.2) hd (fun q H1 hP1 hD1 hS1 => ?_)
          have k := ih nx _ _ L _ _ hX (ad ++ [q]) H1 locs ls (kbR.push hr.1 o3 (by show Sum.inr (_, _) = _; rw [kb_nl_kv f2]) hP1 hD1) hS1 (hL.app (Nat.le_of_eq hr.1.symm) o1) (hret.app [q])
          rw [hn] at k
          have e1 : (Sum.inr h.length :: st : List kbV).map (kv (ad ++ [q])) = .ref q :: st.map (kv ad) := by
            show Value.ref _ :: _ = _
            rw [kb_last hr.1]
            exact congrArg (fun z => Value.ref q :: z) (kb_stk (Nat.le_of_eq hr.1.symm) o2)
          rw [e1] at k
          exact k
        · cases hc2
      | newarray t =>
        simp only [Bool.and_eq_true, decide_eq_true_eq] at hc
        obtain ⟨hc1, w1, w2⟩ := hc
        obtain ⟨rfl, hn⟩ := kbn_e hc1
        dsimp only at hX
        split at hX
        · rename_i x9 r9
          by_cases hneg : x9 < 0
          · rw [if_pos hneg] at hX; cases hX
          · rw [if_neg hneg] at hX
            obtain ⟨g1, hX⟩ := kb_bif hX
            simp only [Bool.and_eq_true, Nat.ble_eq] at g1
            obtain ⟨⟨⟨g0, g1⟩, g2⟩, g3⟩ := g1
            obtain ⟨o1, o2, o3⟩ := kb_all3 g3
            obtain ⟨j9, ft, a0, t1, t2, t3, t4, t5, t6⟩ := kbat_e w2 ty x9.toNatClampNeg
            refine va_newa hx hb (hts _ (qm_gt_tb w1 rfl)) t1 hK hr.2.1 hr.2.2 hS hA t4 hneg rfl (Nat.le_trans (Nat.mul_le_mul g0 t3) (by decide)) (Nat.le_trans g1 hf.2.2.1) (Nat.le_trans g2 hf.2.2.2) hd (fun q cA H1 hK1 hP1 hD1 hS1 => ?_)
            have hcA : cA = ty (kb_w w 1) := t6 s _ _ (hK1.2 (kbT ty).length (cA, ft) (by rw [List.getElem?_append_right (Nat.le_refl _), Nat.sub_self]; rfl)).2 (hK.2 j9 _ t2).2
            subst hcA
            have k := ih nx _ _ L _ _ hX (ad ++ [q]) H1 locs ls (kbR.push hr.1 o3 (t5 _) hP1 hD1) hS1 (hL.app (Nat.le_of_eq hr.1.symm) o1) (hret.app [q])
            rw [hn] at k
            have e1 : (Sum.inr h.length :: r9 : List kbV).map (kv (ad ++ [q])) = .ref q :: r9.map (kv ad) := by
              show Value.ref _ :: _ = _
              rw [kb_last hr.1]
              exact congrArg (fun z => Value.ref q :: z) (kb_stk (Nat.le_of_eq hr.1.symm) o2)
            rw [e1] at k
            exact k
        · cases hX
      | anewarray idx =>
        rw [Bool.and_eq_true] at hc
        obtain ⟨hc1, hc2⟩ := hc
        obtain ⟨rfl, hn⟩ := kbn_e hc1
        dsimp only at hX
        split at hX
        · rename_i x9 r9
          by_cases hneg : x9 < 0
          · rw [if_pos hneg] at hX; cases hX
          · rw [if_neg hneg] at hX
            obtain ⟨g1, hX⟩ := kb_bif hX
            simp only [Bool.and_eq_true, Nat.ble_eq] at g1
            obtain ⟨⟨⟨g0, g1⟩, g2⟩, g3⟩ := g1
            obtain ⟨o1, o2, o3⟩ := kb_all3 g3
            have fin : ∀ (q : Nat) (H1 : Heap), kbR D ty A (ad ++ [q]) (h ++ [.inr (kb_w w 1, x9.toNatClampNeg, [], [])]) H1 → va_S A s.heap H1 locs → W p l e R s m args below meth c H1 locs (nc + 1) (ns + x9.toNatClampNeg) Z (F0 m (pc + 3) ls (.ref q :: r9.map (kv ad))) := by
              intro q H1 hr1 hS1
              have k := ih nx _ _ L _ _ hX (ad ++ [q]) H1 locs ls hr1 hS1 (hL.app (Nat.le_of_eq hr.1.symm) o1) (hret.app [q])
              rw [hn] at k
              have e1 : (Sum.inr h.length :: r9 : List kbV).map (kv (ad ++ [q])) = .ref q :: r9.map (kv ad) := by
                show Value.ref _ :: _ = _
                rw [kb_last hr.1]
                exact congrArg (fun z => Value.ref q :: z) (kb_stk (Nat.le_of_eq hr.1.symm) o2)
              rw [e1] at k
              exact k
            simp only [Bool.or_eq_true, Bool.and_eq_true, decide_eq_true_eq, Nat.beq_eq] at hc2
            generalize kb_w w 1 = K9 at hc2 fin
            rcases hc2 with ⟨rfl, w1⟩ | ⟨rfl, w1⟩
            · refine va_newq hx hb hown (hts _ (qm_gt_tb w1 rfl)) hE.1 hK hr.2.1 hr.2.2 hS hA hneg rfl (by omega) (Nat.le_trans g1 hf.2.2.1) (Nat.le_trans g2 hf.2.2.2) hd (fun q cA H1 hK1 hP1 hD1 hS1 => ?_)
              have hcA : cA = ty 24 := by
                obtain ⟨-, -, -, -, -, -, a1⟩ := hK1.2 (kbT ty).length (cA, .object "SnoozeRow$Sleeper") (by rw [List.getElem?_append_right (Nat.le_refl _), Nat.sub_self]; rfl)
                obtain ⟨-, -, -, -, -, -, a2⟩ := hK.2 4 (ty 24, .object "SnoozeRow$Sleeper") rfl
                exact Option.some.inj (a1.symm.trans a2)
              subst hcA
              exact fin q H1 (kbR.push hr.1 o3 rfl hP1 hD1) hS1
            · refine va_newq hx hb hown (hts _ (qm_gt_tb w1 rfl)) hE.2.1 hK hr.2.1 hr.2.2 hS hA hneg rfl (by omega) (Nat.le_trans g1 hf.2.2.1) (Nat.le_trans g2 hf.2.2.2) hd (fun q cA H1 hK1 hP1 hD1 hS1 => ?_)
              have hcA : cA = ty 25 := by
                obtain ⟨-, -, -, -, -, -, a1⟩ := hK1.2 (kbT ty).length (cA, .object "SnoozeRow$Street") (by rw [List.getElem?_append_right (Nat.le_refl _), Nat.sub_self]; rfl)
                obtain ⟨-, -, -, -, -, -, a2⟩ := hK.2 5 (ty 25, .object "SnoozeRow$Street") rfl
                exact Option.some.inj (a1.symm.trans a2)
              subst hcA
              exact fin q H1 (kbR.push hr.1 o3 rfl hP1 hD1) hS1
        · cases hX
      | multianewarray idx d9 =>
        simp only [Bool.and_eq_true, decide_eq_true_eq, Nat.beq_eq] at hc
        obtain ⟨hc1, rfl, w1⟩ := hc
        obtain ⟨rfl, hn⟩ := kbn_e hc1
        dsimp only at hX
        split at hX
        · rename_i y9 x9 r9
          by_cases hneg : x9 < 0 ∨ y9 < 0
          · rw [if_pos hneg] at hX; cases hX
          · rw [if_neg hneg] at hX
            obtain ⟨g1, hX⟩ := kb_bif hX
            simp only [Bool.and_eq_true, Nat.ble_eq] at g1
            obtain ⟨⟨⟨⟨g0, g01⟩, g1⟩, g2⟩, g3⟩ := g1
            obtain ⟨o1, o2, o3⟩ := kb_all3 g3
            refine kb_multi hx hb hown (hts _ (qm_gt_tb w1 rfl)) (arrayOver_alikeB (Vm.Alike.refl s.vm) hE.2.2.1) (hts _ (qm_gt_tb (p := 308) rfl rfl)) hr.2.1 hr.2.2 hS hA (fun z => hneg (Or.inl z)) (fun z => hneg (Or.inr z)) rfl rfl g0 g01 (Nat.le_trans g1 hf.2.2.1) (Nat.le_trans g2 hf.2.2.2) hd (fun q cA cB H1 a1 a2 hP1 hD1 hS1 => ?_)
            have hcA : cA = ty 26 := by
              have a3 : s.vm.findClass "[[J" = some (ty 26) := (hK.2 6 (ty 26, .array .long) rfl).2
              exact Option.some.inj (a1.symm.trans a3)
            have hcB : cB = ty 23 := by
              have a3 : s.vm.findClass "[J" = some (ty 23) := (hK.2 3 (ty 23, .long) rfl).2
              exact Option.some.inj (a2.symm.trans a3)
            subst hcA
            subst hcB
            rw [← kb_mulW hr.1 o3] at hP1 hD1
            have k := ih nx _ _ L _ _ hX (ad ++ (q :: (List.range x9.toNatClampNeg).map (fun j => q + 1 + j))) H1 locs ls ⟨by unfold kb_mul; simp [hr.1], hP1, hD1⟩ hS1 (hL.app (Nat.le_of_eq hr.1.symm) o1) (hret.app _)
            rw [hn] at k
            have e1 : (Sum.inr h.length :: r9 : List kbV).map (kv (ad ++ (q :: (List.range x9.toNatClampNeg).map (fun j => q + 1 + j)))) = .ref q :: r9.map (kv ad) := by
              show Value.ref _ :: _ = _
              rw [List.getD_eq_getElem?_getD, List.getElem?_append_right (Nat.le_of_eq hr.1), show h.length - ad.length = 0 by have := hr.1; omega]
              exact congrArg (fun z => Value.ref q :: z) (kb_stk (Nat.le_of_eq hr.1.symm) o2)
            rw [e1] at k
            exact k
        · cases hX
      | putfield idx =>
        simp only [Bool.and_eq_true, Bool.not_eq_true'] at hc
        obtain ⟨hc1, hc3, hc2⟩ := hc
        obtain ⟨rfl, hn⟩ := kbn_e hc1
        dsimp only at hX
        split at hX
        · rename_i v9 a9 r9
          split at hX
          · rename_i ci fs hh
            obtain ⟨g1, hX⟩ := kb_bif hX
            simp only [Bool.and_eq_true, Nat.blt_eq, List.contains_iff_mem] at g1
            obtain ⟨⟨g1, g2⟩, g3⟩ := g1
            have hc4 := List.all_eq_true.mp hc2 ci g1
            simp only [Bool.and_eq_true, Bool.not_eq_true'] at hc4
            obtain ⟨hc4, hc5⟩ := hc4
            obtain ⟨C, T, N, h2, h3, h4, h5⟩ := kbFk_e hc4
            obtain ⟨c1, ⟨ty0, c2⟩, c3, c4, c5⟩ := qm_cls h2
            obtain ⟨f1, f2, f3⟩ := kb_fd h2
            obtain ⟨b9, f4, f5⟩ := f3 _ h3
            obtain ⟨ft, f6, f7⟩ := kbTk_e f5
            have ht : narrow ft (kv ad v9) = kv ad v9 ∧ fits ft (kv ad v9) = true := by
              rcases kbnb_e f4 with ⟨rfl, e9⟩ | ⟨rfl, e9⟩
              · rw [e9] at g3
                rcases v9 with x9 | q9
                · cases g3
                · rcases f7 with ⟨q, -⟩ | ⟨q, -⟩ | ⟨-, C, rfl⟩ | ⟨-, t, rfl⟩
                  · cases q
                  · cases q
                  · exact ⟨rfl, rfl⟩
                  · exact ⟨rfl, rfl⟩
              · rw [e9] at g3
                rcases v9 with x9 | q9
                · rcases f7 with ⟨-, rfl⟩ | ⟨-, rfl, ⟨q1, q2⟩ | ⟨q1, q2⟩⟩ | ⟨q, -⟩ | ⟨q, -⟩
                  · exact ⟨rfl, rfl⟩
                  · rw [q1, q2] at g3
                    have g3 : decide (x9 = 0) = true := g3
                    rw [of_decide_eq_true g3]
                    exact ⟨rfl, rfl⟩
                  · rw [q1, q2] at hc5
                    cases hc5
                  · cases q
                  · cases q
                · cases g3
            have hlt : a9 < h.length := (List.getElem?_eq_some_iff.mp hh).1
            have he := kbW_get (ty := ty) hr.1 hh
            have e2 : kbE ty ad (.inl (ci, fs.set (kb_w w 1) (some v9))) = .inr (ci, (fs.map (kvF ad)).set (kb_w w 1) (kv ad v9)) := by
              show Sum.inr (ci, (fs.set _ _).map _) = _
              rw [List.map_set]
              rfl
            have fin : ∀ (H1 : Heap) (locs1 : List Loc), va_P D vwCl ((kbW ty ad h).set a9 (ad.getD a9 0, .inr (ci, (fs.map (kvF ad)).set (kb_w w 1) (kv ad v9)))) H1 → va_D A ((kbW ty ad h).set a9 (ad.getD a9 0, .inr (ci, (fs.map (kvF ad)).set (kb_w w 1) (kv ad v9)))) → va_S A s.heap H1 locs1 → W p l e R s m args below meth c H1 locs1 nc ns Z (F0 m (pc + 3) ls (r9.map (kv ad))) := by
              intro H1 locs1 hP1 hD1 hS1
              rw [← e2] at hP1 hD1
              have k := ih nx nc ns L r9 _ hX ad H1 locs1 ls (kbR.set hr.1 hlt _ hP1 hD1) hS1 hL hret
              rw [hn] at k
              exact k
            cases hfin : (T (kb_w w 1)).2.2.2
            · exact va_put hx hb hts c1 ty0 c2 c3 hown hK hr.2.1 hr.2.2 hS a9 he h2 _ h3 (hts _ h4) (fun x hx9 => by rw [← h5]; exact hx9) hfin f6 ht.1 ht.2 (by rw [List.length_map]; exact g2) hd fin
            · exact va_putF hx hb hts c1 ty0 c2 c3 hown hK hr.2.1 hr.2.2 hS a9 he h2 _ h3 (hts _ h4) (fun x hx9 => by rw [← h5]; exact hx9) hfin (hname (fun q => by rw [q] at hc3; cases hc3)) h5 f6 ht.1 ht.2 (by rw [List.length_map]; exact g2) hd fin
          · cases hX
        · cases hX
      | getfield idx =>
        simp only [Bool.and_eq_true] at hc
        obtain ⟨hc1, hc2⟩ := hc
        obtain ⟨rfl, hn⟩ := kbn_e hc1
        dsimp only at hX
        split at hX
        · rename_i a9 r9
          split at hX
          · rename_i ci fs hh
            split at hX
            · rename_i v9 hv9
              obtain ⟨g1, hX⟩ := kb_bif hX
              rw [List.contains_iff_mem] at g1
              obtain ⟨C, T, N, h2, h3, h4, h5⟩ := kbFk_e (List.all_eq_true.mp hc2 ci g1)
              obtain ⟨c1, -, c3, c4, c5⟩ := qm_cls h2
              have he := kbW_get (ty := ty) hr.1 hh
              have k := ih nx nc ns L _ h hX ad H locs ls hr hS hL hret
              rw [hn] at k
              exact va_get hx hb hts c1 hown hK hr.2.1 a9 he h2 _ h3 (hts _ h4) (fun x hx9 => by rw [← h5]; exact hx9) (by rw [List.getElem?_map, hv9]; rfl) hd k
            · cases hX
          · cases hX
        · cases hX
      | iastore =>
        obtain ⟨rfl, hn⟩ := kbn_e hc
        dsimp only at hX
        split at hX
        · rename_i x9 j9 a9 r9
          split at hX
          · rename_i N is9 rs9 hh
            by_cases hneg : j9 < 0
            · rw [if_pos hneg] at hX; cases hX
            · rw [if_neg hneg] at hX
              obtain ⟨g1, hX⟩ := kb_bif hX
              have g1 := Nat.blt_eq.mp g1
              have hlt : a9 < h.length := (List.getElem?_eq_some_iff.mp hh).1
              have he := kbW_get (ty := ty) hr.1 hh
              refine va_iast hx hb hK hr.2.1 hr.2.2 hS a9 0 he rfl (fun q => q.elim hneg (fun q => by omega)) hd (fun H1 locs1 hP1 hD1 hS1 => ?_)
              have k := ih nx nc ns L r9 _ hX ad H1 locs1 ls (kbR.set hr.1 hlt _ hP1 hD1) hS1 hL hret
              rw [hn] at k
              exact k
          · cases hX
        · cases hX
      | aastore =>
        obtain ⟨rfl, hn⟩ := kbn_e hc
        dsimp only at hX
        split at hX
        · rename_i v9 j9 a9 r9
          split at hX
          · rename_i K9 N is9 rs9 ci fs hh hv
            by_cases hneg : j9 < 0
            · rw [if_pos hneg] at hX; cases hX
            · rw [if_neg hneg] at hX
              have hX9 := kb_bif hX
              clear hX
              obtain ⟨g1, hX⟩ := hX9
              simp only [Bool.and_eq_true, Bool.or_eq_true, Nat.blt_eq, Nat.beq_eq] at g1
              obtain ⟨g1, g2⟩ := g1
              have hlt : a9 < h.length := (List.getElem?_eq_some_iff.mp hh).1
              have he := kbW_get (ty := ty) hr.1 hh
              have he2 := kbW_get (ty := ty) hr.1 hv
              obtain ⟨rc, hrc, -⟩ := hr.2.1 _ _ he2
              obtain ⟨C, T, N2⟩ := rc
              obtain ⟨-, -, -, -, c5⟩ := qm_cls hrc
              have hin : vp_in j9 N := fun q => q.elim hneg (fun q => by omega)
              rcases g2 with ⟨rfl, g2⟩ | ⟨rfl, rfl⟩
              · have fin : ∀ (H1 : Heap) (locs1 : List Loc), va_P D vwCl ((kbW ty ad h).set a9 (ad.getD a9 0, .inl (ty 24, N, .inr (.inr (.inr (.inr (va_up (dnR ad rs9) j9.toNatClampNeg (some (ad.getD v9 0))))))))) H1 → va_D A ((kbW ty ad h).set a9 (ad.getD a9 0, .inl (ty 24, N, .inr (.inr (.inr (.inr (va_up (dnR ad rs9) j9.toNatClampNeg (some (ad.getD v9 0))))))))) → va_S A s.heap H1 locs1 → W p l e R s m args below meth c H1 locs1 nc ns Z (F0 m (pc + 1) ls (r9.map (kv ad))) := by
                  intro H1 locs1 hP1 hD1 hS1
                  have k := ih nx nc ns L r9 _ hX ad H1 locs1 ls (kbR.set hr.1 hlt _ hP1 hD1) hS1 hL hret
                  rw [hn] at k
                  exact k
                rcases g2 with rfl | g2
                · have c5 : C = "SnoozeRow$Sleeper" := c5
                  subst c5
                  exact va_astq hx hb hK hr.2.1 hr.2.2 hS a9 4 v9 6 he rfl he2 hrc hin hd fin
                · obtain ⟨q9, hq9, e9⟩ := List.any_eq_true.mp g2
                  simp only [Bool.and_eq_true, Nat.beq_eq] at e9
                  have hca := hE.2.2.2.1 q9 hq9
                  rw [e9.1, e9.2, ← c5] at hca
                  exact va_astqO (E := "SnoozeRow$Sleeper") hx hb hK hr.2.1 hr.2.2 hS a9 4 v9 ci he rfl hca he2 hrc hin hd fin
              · have fin : ∀ (H1 : Heap) (locs1 : List Loc), va_P D vwCl ((kbW ty ad h).set a9 (ad.getD a9 0, .inl (ty 25, N, .inr (.inr (.inr (.inr (va_up (dnR ad rs9) j9.toNatClampNeg (some (ad.getD v9 0))))))))) H1 → va_D A ((kbW ty ad h).set a9 (ad.getD a9 0, .inl (ty 25, N, .inr (.inr (.inr (.inr (va_up (dnR ad rs9) j9.toNatClampNeg (some (ad.getD v9 0))))))))) → va_S A s.heap H1 locs1 → W p l e R s m args below meth c H1 locs1 nc ns Z (F0 m (pc + 1) ls (r9.map (kv ad))) := by
                  intro H1 locs1 hP1 hD1 hS1
                  have k := ih nx nc ns L r9 _ hX ad H1 locs1 ls (kbR.set hr.1 hlt _ hP1 hD1) hS1 hL hret
                  rw [hn] at k
                  exact k
                have c5 : C = "SnoozeRow$Street" := c5
                subst c5
                exact va_astq hx hb hK hr.2.1 hr.2.2 hS a9 5 v9 8 he rfl he2 hrc hin hd fin
          · cases hX
        · cases hX
      | arraylength =>
        obtain ⟨rfl, hn⟩ := kbn_e hc
        dsimp only at hX
        split at hX
        · rename_i a9 r9
          split at hX
          · rename_i K9 N is9 rs9 hh
            obtain ⟨g1, hX⟩ := kb_bif hX
            have g1 := Nat.beq_eq.mp g1
            subst g1
            have he := kbW_get (ty := ty) hr.1 hh
            have k := ih nx nc ns L _ h hX ad H locs ls hr hS hL hret
            rw [hn] at k
            exact va_alen hx hb hK hr.2.1 a9 0 he rfl rfl hd k
          · cases hX
        · cases hX
      | invokespecial idx =>
        dsimp only at hc
        rw [Bool.and_eq_true] at hc
        obtain ⟨hc1, hc2⟩ := hc
        obtain ⟨rfl, hn⟩ := kbn_e hc1
        dsimp only at hX
        split at hc2
        · rename_i p9 t9
          have w1 := of_decide_eq_true hc2
          rcases st with _ | ⟨x9 | b9, r9⟩
          · cases hX
          · cases hX
          · have hX : (bif Nat.ble r9.length 6 then kbX n id mc ms nx nc ns L r9 h else none) = some h1 := hX
            obtain ⟨g1, hX⟩ := kb_bif hX
            have g1 := Nat.ble_eq.mp g1
            have k := ih nx nc ns L r9 h hX ad H locs ls hr hS hL hret
            rw [hn] at k
            refine W.objInit hx hb hown (hts _ (qm_gt_tb w1 rfl)) (hts _ kb_oi.1) (hts _ kb_oi.2) rfl (hL.2.1.trans hml.symm) rfl hd (by omega) ?_ k
            have := lv_room (m := m) (pc := pc) (ls := ls) (rest := (Sum.inr b9 :: r9 : List kbV).map (kv ad)) (st := r9.map (kv ad)) (by rw [kb_sum]; omega)
            omega
        · rename_i id2 na p1 p2 t9
          simp only [Bool.and_eq_true, Bool.not_eq_true', decide_eq_true_eq, Nat.ble_eq] at hc2
          obtain ⟨i1, i2, w1, w2, w3⟩ := hc2
          cases t9 with
          | nil => cases hX
          | cons mc2 t9 =>
            cases t9 with
            | nil => cases hX
            | cons ms2 t9 =>
              change (bif _ then _ else none) = some h1 at hX
              have hX9 := kb_bif hX
              clear hX
              obtain ⟨g1, hX⟩ := hX9
              simp only [Bool.and_eq_true, Nat.ble_eq] at g1
              obtain ⟨⟨⟨⟨⟨⟨g1, g2⟩, g3⟩, g4⟩, g5⟩, g6⟩, g7⟩ := g1
              split at g7
              · rename_i b9 hb9
                obtain ⟨tl, t1, t2, t3⟩ := kb_cut hb9
                obtain ⟨o1, o2, o3⟩ := kb_all3 g5
                rw [t1] at hX
                split at hX
                · rename_i h2 hcall
                  have hMt := hM id2 mc2 ms2 (.inr b9 :: tl) h h2 i1 (by rw [List.length_cons, t2]; exact g6) hcall ad
                  obtain ⟨d1, d2, d3, d4, d5, d6, d7, d8⟩ := kb_id (id := id2) i1
                  have m1 := qm_gt_tb d1 rfl
                  have m2 := qm_gt_tb d2 rfl
                  refine kb_callK (va_runI (As := tl.map (kv ad)) (rest := (st.drop (na + 1)).map (kv ad)) (bytes := kbc id2) (maxL := kbN id2) (own := qm_oS (kbo id)) ⟨hx, hb, hml, hown, hts⟩ hMt ⟨⟨rfl, rfl, by show n + 1 + 1 ≤ _; omega, by show 8 + (kbN id2 + 11) + 60 * (n + 1) ≤ _; omega, qm_hws hts m1, List.mem_cons_self, hts _ m1, hts _ m2, d5, qm_ar_e w3, hts _ (qm_gt_tb w1 rfl)⟩, d8 (fun q => by rw [q] at i2; cases i2), hts _ (qm_gt_tb w2 rfl)⟩ ⟨kbBlind, kbPre hK hE hA hr hS⟩ rfl (by rw [List.length_map]; exact t2) hL.2.1 ?_ (lv_room (by rw [kb_sum]; omega)) hd ⟨Nat.le_trans g3 hf.2.2.1, Nat.le_trans g4 hf.2.2.2⟩) hS (fun qs H1 locs1 hr1 hS1 => ?_)
                  · show st.map (kv ad) = _
                    conv => lhs; rw [t3]
                    rw [List.map_append, List.map_reverse]
                    rfl
                  · have k := ih nx _ _ L _ h2 hX (ad ++ qs) H1 locs1 ls hr1 hS1 (hL.app (Nat.le_of_eq hr.1.symm) o1) (hret.app qs)
                    rw [hn, kb_stk (Nat.le_of_eq hr.1.symm) (List.all_eq_true.mpr (fun v hv => List.all_eq_true.mp o2 v (List.mem_of_mem_drop hv)))] at k
                    exact k
                · cases hX
              · cases g7
        · rename_i id2 na p1 p2 t9
          simp only [Bool.and_eq_true, decide_eq_true_eq, Nat.beq_eq] at hc2
          obtain ⟨i1, i2, i3, w2, w3⟩ := hc2
          subst i1
          subst i3
          have w1 : va_Nw (.methodLinkNest (qm_oS (kbo id)) 11 (kby 0) "SnoozeRow") s := by rw [i2]; exact hE.2.2.2.2
          cases t9 with
          | nil => cases hX
          | cons mc2 t9 =>
            cases t9 with
            | nil => cases hX
            | cons ms2 t9 =>
              change (bif _ then _ else none) = some h1 at hX
              have hX9 := kb_bif hX
              clear hX
              obtain ⟨g1, hX⟩ := hX9
              simp only [Bool.and_eq_true, Nat.ble_eq] at g1
              obtain ⟨⟨⟨⟨⟨⟨g1, g2⟩, g3⟩, g4⟩, g5⟩, g6⟩, g7⟩ := g1
              split at g7
              · rename_i b9 hb9
                obtain ⟨tl, t1, t2, t3⟩ := kb_cut hb9
                obtain ⟨o1, o2, o3⟩ := kb_all3 g5
                rw [t1] at hX
                split at hX
                · rename_i h2 hcall
                  have hMt := hM 0 mc2 ms2 (.inr b9 :: tl) h h2 (by decide) (by rw [List.length_cons, t2]; exact g6) hcall ad
                  obtain ⟨d1, d2, d3, d4, d5, d6, d7, d8⟩ := kb_id (id := 0) (by decide)
                  have m1 := qm_gt_tb d1 rfl
                  have m2 := qm_gt_tb d2 rfl
                  refine kb_callK (va_runIN (host := "SnoozeRow") (As := tl.map (kv ad)) (rest := (st.drop (na + 1)).map (kv ad)) (bytes := kbc 0) (maxL := kbN 0) (own := qm_oS (kbo id)) ⟨hx, hb, hml, hown, hts⟩ hMt ⟨⟨⟨rfl, rfl, by show n + 1 + 1 ≤ _; omega, by show 8 + (kbN 0 + 11) + 60 * (n + 1) ≤ _; omega, qm_hws hts m1, List.mem_cons_self⟩, hts _ m1, hts _ m2, d5, qm_ar_e w3, va_Nw.use rfl w1⟩, d8 (by decide), hts _ (qm_gt_tb w2 rfl)⟩ ⟨kbBlind, kbPre hK hE hA hr hS⟩ rfl (by rw [List.length_map]; exact t2) hL.2.1 ?_ (lv_room (by rw [kb_sum]; omega)) hd ⟨Nat.le_trans g3 hf.2.2.1, Nat.le_trans g4 hf.2.2.2⟩) hS (fun qs H1 locs1 hr1 hS1 => ?_)
                  · show st.map (kv ad) = _
                    conv => lhs; rw [t3]
                    rw [List.map_append, List.map_reverse]
                    rfl
                  · have k := ih nx _ _ L _ h2 hX (ad ++ qs) H1 locs1 ls hr1 hS1 (hL.app (Nat.le_of_eq hr.1.symm) o1) (hret.app qs)
                    rw [hn, kb_stk (Nat.le_of_eq hr.1.symm) (List.all_eq_true.mpr (fun v hv => List.all_eq_true.mp o2 v (List.mem_of_mem_drop hv)))] at k
                    exact k
                · cases hX
              · cases g7
        · cases hc2
      | invokestatic idx =>
        dsimp only at hc
        rw [Bool.and_eq_true] at hc
        obtain ⟨hc1, hc2⟩ := hc
        obtain ⟨rfl, hn⟩ := kbn_e hc1
        dsimp only at hX
        split at hc2
        · rename_i id2 na p1 p2 t9
          simp only [Bool.and_eq_true, decide_eq_true_eq, Nat.ble_eq] at hc2
          obtain ⟨i1, w1, w2, w3⟩ := hc2
          cases t9 with
          | nil => cases hX
          | cons mc2 t9 =>
            cases t9 with
            | nil => cases hX
            | cons ms2 t9 =>
              dsimp only at hX
              have hX9 := kb_bif hX
              clear hX
              obtain ⟨g1, hX⟩ := hX9
              simp only [Bool.and_eq_true, Nat.ble_eq] at g1
              obtain ⟨⟨⟨⟨⟨g1, g2⟩, g3⟩, g4⟩, g5⟩, g6⟩ := g1
              obtain ⟨o1, o2, o3⟩ := kb_all3 g5
              split at hX
              · rename_i h2 hcall
                have t2 : (st.take na).reverse.length = na := by rw [List.length_reverse, List.length_take]; omega
                have hMt := hM id2 mc2 ms2 _ h h2 i1 (by rw [t2]; exact g6) hcall ad
                obtain ⟨d1, d2, d3, d4, d5, d6, d7, d8⟩ := kb_id (id := id2) i1
                have m1 := qm_gt_tb d1 rfl
                have m2 := qm_gt_tb d2 rfl
                refine kb_callK (va_runS (As := (st.take na).reverse.map (kv ad)) (rest := (st.drop na).map (kv ad)) (bytes := kbc id2) (maxL := kbN id2) (own := qm_oS (kbo id)) ⟨hx, hb, hml, hown, hts⟩ hMt ⟨⟨rfl, rfl, by show n + 1 + 1 ≤ _; omega, by show 8 + (kbN id2 + 11) + 60 * (n + 1) ≤ _; omega, qm_hws hts m1, List.mem_cons_self, hts _ m1, hts _ m2, d5, qm_ar_e w3, hts _ (qm_gt_tb w1 rfl)⟩, hts _ (qm_gt_tb w2 rfl)⟩ ⟨kbBlind, kbPre hK hE hA hr hS⟩ rfl (by rw [List.length_map]; exact t2) hL.2.1 ?_ (lv_room (by rw [kb_sum]; omega)) hd ⟨Nat.le_trans g3 hf.2.2.1, Nat.le_trans g4 hf.2.2.2⟩) hS (fun qs H1 locs1 hr1 hS1 => ?_)
                · show st.map (kv ad) = _
                  rw [List.map_reverse, List.reverse_reverse, ← List.map_append, List.take_append_drop]
                · have k := ih nx _ _ L _ h2 hX (ad ++ qs) H1 locs1 ls hr1 hS1 (hL.app (Nat.le_of_eq hr.1.symm) o1) (hret.app qs)
                  rw [hn, kb_stk (Nat.le_of_eq hr.1.symm) (List.all_eq_true.mpr (fun v hv => List.all_eq_true.mp o2 v (List.mem_of_mem_drop hv)))] at k
                  exact k
              · cases hX
        · cases hc2
      | return_ =>
        have e9 := Nat.beq_eq.mp hc
        subst e9
        dsimp only at hX
        split at hX
        · obtain ⟨g1, hX⟩ := kb_bif hX
          simp only [Bool.and_eq_true, Nat.ble_eq] at g1
          cases hX
          exact hret [] nc ns H locs pc ls g1.1 g1.2 (by rw [List.append_nil]; exact hr) hS hd
        · cases hX
      | _ => cases hX
    · cases hok
theorem kb_C9 (hid : id ≤ 13) (N : Nat) (hf : N + 2 ≤ R.frames ∧ 60 * (N + 2) ≤ R.locals ∧ mc ≤ R.cells ∧ ms ≤ R.slots) (F : kbFx p s m args meth c D ty A id) (hM : ∀ k, k ≤ N → kbMt l D ty A k) : ∀ k, k ≤ N + 1 → kbC9 p l e R s m args below meth c Z D ty A id mc ms h1 k
  | 0, _ => fun _ _ _ _ _ _ hX => by cases hX
  | k + 1, hk => kb_step hid ⟨by omega, by omega, hf.2.2⟩ F (hM k (by omega)) (kb_C9 hid N hf F hM k (by omega))
end KBS
theorem kb_Mt0 (l : Launch) (D : va_G) (ty : Nat → ClassId) (A : Nat → Prop) : kbMt l D ty A 0 := fun _ _ _ _ _ _ _ _ hX => by cases hX
theorem kb_Mt1 (l : Launch) (D : va_G) (ty : Nat → ClassId) (A : Nat → Prop) (N : Nat) (hM : ∀ k, k ≤ N → kbMt l D ty A k) : kbMt l D ty A (N + 1) := by
  intro id mc ms as h h1 hid hlen hX ad
  obtain ⟨d1, d2, d3, d4, d5, d6, d7, d8⟩ := kb_id hid
  refine Met.ofW (cc := kbc id) (maxL := kbN id) (ret := none) d3 rfl ?_
  intro p e s m args below meth c s₁ B hml hv
  obtain ⟨rfl, hr, hK, hE, hA⟩ := hv
  have hx := B.exec
  have hb := B.bytes
  have hr9 := B.returns
  have hts0 := atoms_spec (ws := kbWm id) B.pre
  have hts : ∀ w ∈ qm_gt, w.before _ s = true := fun w hw => hts0 w (List.mem_cons_of_mem _ hw)
  have hown : s.vm.findClass (qm_oS (kbo id)) = some m.cls := by rw [← d4]; exact findClass_of_methodNamed B.named
  have hlocks := B.notSynchronized
  have hS : va_S A s.heap s.heap [] := va_S.rf
  have hname : id ≠ 11 → meth.name = "<init>" := fun q => by rw [(name_of_methodNamed B.named B.method).1]; exact d8 q
  rw [lg_entry_eq]
  have hl := kbLV.entry (ad := ad) (n := kbN id) (as := as) hlen
  generalize (lg_sl (as.map (kv ad)) ++ List.replicate (kbN id - (lg_sl (as.map (kv ad))).length) Slot.unset).toArray = ls at hl ⊢
  have k := kb_C9 (p := p) (l := l) (e := e) (R := (headSpec (kbWm id) (kbrm (N + 1 + 1) mc ms)).room) (s := s) (m := m) (args := (as.map (kv ad)).toArray) (below := below) (meth := meth) (c := c) (Z := MQ below (kbQc D ty A ad h1) (as.map (kv ad)).toArray s mc ms A) (D := D) (ty := ty) (A := A) (id := id) (mc := mc) (ms := ms) (h1 := h1) hid N ⟨Nat.le_refl _, Nat.le_refl _, Nat.le_refl _, Nat.le_refl _⟩ ⟨hx, hb, hml, hown, hts, hK, hE, hname, hA⟩ hM (N + 1) (Nat.le_refl _) 0 0 0 _ [] h hX ad s.heap [] ls hr hS hl
    (fun qs nc1 ns1 H1 locs1 pc1 ls1 g1 g2 g3 g4 g5 => W.widen g1 g2 (W.vret hx hb hr9 (fun t ht hW => ⟨⟨rfl, qs, by rw [ht]; exact g3⟩, g4.F ht⟩) g4.2.2 g5))
  rw [d7] at k
  exact k
theorem kb_Mt (l : Launch) (D : va_G) (ty : Nat → ClassId) (A : Nat → Prop) : ∀ N k : Nat, k ≤ N → kbMt l D ty A k
  | 0, k, hk => by
    have : k = 0 := by omega
    subst this
    exact kb_Mt0 l D ty A
  | N + 1, k, hk => by
    by_cases q : k ≤ N
    · exact kb_Mt l D ty A N k q
    · have : k = N + 1 := by omega
      subst this
      exact kb_Mt1 l D ty A N (kb_Mt l D ty A N)
