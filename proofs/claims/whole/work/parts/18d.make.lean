theorem kb_make {p : Program} {l : Launch} {e : Env} {R : Room} {s : State} {m : MethodId} {args : Array Value} {below : List Frame} {meth : Method} {c : Code} {Z : State → Prop} {D : va_G} {ty : Nat → ClassId} {A : Nat → Prop} {H : Heap} {locs : List Loc} {cells slots : Nat} {cc : ByteArray} {nL : Nat} {own : String} (S : p.tables.exec = Jvm.exec ∧ c.code = cc ∧ c.maxLocals = nL ∧ s.vm.findClass own = some m.cls ∧ ∀ w ∈ qm_gt, w.before args s = true) (hK : va_K D vwCl (kbT ty) s) (hE : kbEx s) (hA : ∀ q, s.heap.size ≤ q → A q) {ad : List Nat} {h h2 : List kbC} (hr : kbR D ty A ad h H) (hS : va_S A s.heap H locs) (hok : h.all (kb_okC h.length) = true) {ci : Nat} {C : String} {T : u_T} {N : Nat} (hcl : vwCl[ci]? = some (C, T, N)) {id mc ms idx1 idx2 : Nat} (hid : id ≤ 13) (hX : kbX 400 id mc ms 0 0 0 (kb_as (kbN id) [.inr h.length]) [] (h ++ [.inl (ci, kb_nl ci)]) = some h2) (hn1 : 1 ≤ kbN id) (hi11 : id ≠ 11) (w1 : Cond.classLink own idx1 C ∈ qm_gt) (w2 : Cond.initialized C ∈ qm_gt) (w3 : Cond.methodLink own idx2 (kby id) ∈ qm_gt) (w4 : Cond.instanceMethod (kby id) ∈ qm_gt) (w5 : qm_ar (kby id).desc 0 = true) {ls : Array Slot} (hls : ls.size = nL) {pc : Nat} {rest : List Value} (hrs : (rest.map fun v => v.category).sum ≤ 6) (d1 : decode cc pc = .ok (.new idx1, 3)) (d2 : decode cc (pc + 3) = .ok (.dup, 1)) (d3 : decode cc (pc + 3 + 1) = .ok (.invokespecial idx2, 3)) (hf : 402 ≤ R.frames ∧ 24120 ≤ R.locals ∧ cells + 1 + mc ≤ R.cells ∧ slots + N + ms ≤ R.slots)
    (kk : ∀ (q : Nat) (qs : List Nat) (H1 : Heap) (locs1 : List Loc), kbR D ty A (ad ++ [q] ++ qs) h2 H1 → va_S A s.heap H1 locs1 → W p l e R s m args below meth c H1 locs1 (cells + 1 + mc) (slots + N + ms) Z (F0 m (pc + 3 + 1 + 3) ls (.ref q :: rest))) : W p l e R s m args below meth c H locs cells slots Z (F0 m pc ls rest) := by
  obtain ⟨hx, hb, hml, hown, hts⟩ := S
  obtain ⟨c1, ⟨ty0, c2⟩, c3, c4, c5⟩ := qm_cls hcl
  obtain ⟨f1, f2, f3⟩ := kb_fd hcl
  refine va_new hx hb hts c1 ty0 c2 hown (hts _ w1) (hts _ (kb_inst hcl)) (hts _ w2) hK hr.2.1 hr.2.2 hS hA hcl (kb_def hcl c2) (by omega) (by omega) d1 (fun q H1 hP1 hD1 hS1 => ?_)
  have hr1 : kbR D ty A (ad ++ [q]) (h ++ [.inl (ci, kb_nl ci)]) H1 := kbR.push hr.1 hok (by show Sum.inr (_, _) = _; rw [kb_nl_kv f2]) hP1 hD1
  refine lv_dup hx hb d2 rfl ?_
  have hMt := kb_Mt l D ty A 400 400 (Nat.le_refl _) id mc ms [.inr h.length] _ h2 hid hn1 hX (ad ++ [q])
  have eav : ([Sum.inr h.length] : List kbV).map (kv (ad ++ [q])) = [.ref q] := by
    show [Value.ref _] = _
    rw [kb_last hr.1]
  rw [eav] at hMt
  obtain ⟨g1, g2, g3, g4, g5, g6, g7, g8⟩ := kb_id hid
  have m1 := qm_gt_tb g1 rfl
  have m2 := qm_gt_tb g2 rfl
  refine kb_callK (va_runI (As := []) (rest := .ref q :: rest) (b := q) (bytes := kbc id) (maxL := kbN id) (own := own) ⟨hx, hb, hml, hown, hts⟩ hMt ⟨⟨rfl, rfl, by show 401 + 1 ≤ _; omega, by show 8 + (kbN id + 11) + 60 * 401 ≤ _; omega, qm_hws hts m1, List.mem_cons_self, hts _ m1, hts _ m2, g5, qm_ar_e w5, hts _ w3⟩, g8 hi11, hts _ w4⟩ ⟨kbBlind, kbPre hK hE hA hr1 hS1⟩ rfl rfl hls rfl (lv_room ?_) d3 ⟨by omega, by omega⟩) hS1 (fun qs H2 locs2 hr2 hS2 => kk q qs H2 locs2 hr2 hS2)
  show 1 + (rest.map fun v => v.category).sum ≤ 8
  omega
theorem kb_LV {D : va_G} {ty : Nat → ClassId} {A : Nat → Prop} {ad : List Nat} {adK adV : Nat → Nat} {U : Value} {b L : Nat} {xs : Nat → Int32} {ls : Array Slot} {q1 q2 : Nat} (h1 : ad.getD 0 0 = q1) (h2 : ad.getD 112 0 = q2) (hl : lv_has ls 4 [(3, .int 0), (2, .ref q2), (1, .ref q1), (0, .ref b)]) : qm_LV (kbG D ty A ad adK adV U b L xs) ls 4 [some (vR 100 0), some (vR 0 0), some (vR 50 0), some (vI (nI 0))] := by
  obtain ⟨a1, a2, a3⟩ := hl
  refine ⟨rfl, a1, a2, fun i v hi => ?_⟩
  match i, hi with
  | 0, hi => cases hi; exact a3 (0, .ref b) (by simp)
  | 1, hi =>
    cases hi
    show _ = some (Slot.val (Value.ref (ad.getD (kbx 0 0) 0)))
    rw [show kbx 0 0 = 0 by decide +kernel, h1]
    exact a3 (1, .ref q1) (by simp)
  | 2, hi =>
    cases hi
    show _ = some (Slot.val (Value.ref (ad.getD (kbx 50 0) 0)))
    rw [show kbx 50 0 = 112 by decide +kernel, h2]
    exact a3 (2, .ref q2) (by simp)
  | 3, hi => cases hi; exact a3 (3, .int 0) (by simp)
  | k + 4, hi => simp at hi
theorem kb_okL0 : qm_okL [some (vR 100 0), some (vR 0 0), some (vR 50 0), some (vI (nI 0))] := by
  intro v hv
  rcases List.mem_cons.mp hv with e9 | hv
  · cases e9; show qm_ok 100 0 = true; decide +kernel
  · rcases List.mem_cons.mp hv with e9 | hv
    · cases e9; show qm_ok 0 0 = true; decide +kernel
    · rcases List.mem_cons.mp hv with e9 | hv
      · cases e9; show qm_ok 50 0 = true; decide +kernel
      · rcases List.mem_cons.mp hv with e9 | hv
        · cases e9; trivial
        · cases hv
