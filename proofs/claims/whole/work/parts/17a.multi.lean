section MULTI
variable {p : Program} {l : Launch} {e : Env} {R : Room} {s : State} {m : MethodId} {args : Array Value} {below : List Frame} {meth : Method} {c : Code} {H : Heap} {locs : List Loc} {cells slots : Nat} {Q : State → Prop} {cc : ByteArray} {pc : Nat} {ls : Array Slot} {rest : List Value} {D : va_G} {cl : List vw_C} {ws : va_W} {A : Nat → Prop} {H0 : Heap}
def kb_ro (q N : Nat) (j : Nat) : Option Nat := if j < N then some (q + 1 + j) else none
def kb_mw (q N M : Nat) (cA cB : ClassId) : va_W := (q, .inl (cA, N, .inr (.inr (.inr (.inr (kb_ro q N)))))) :: (List.range N).map (fun j => (q + 1 + j, .inl (cB, M, .inr (.inl (fun _ => (0 : Int64))))))
theorem kb_oc (cA : ClassId) (N q : Nat) : ∀ i : Nat, Jvm.Free.Multi.outerC cA N q i = { cls := cA, slots := (Jvm.Free.Multi.outerC cA N q i).slots, vm := .none }
  | 0 => rfl
  | i + 1 => congrArg (fun o => Cell.setSlot o i (.ref (q + 1 + i))) (kb_oc cA N q i)
theorem kb_outer (cA : ClassId) (N q : Nat) : Jvm.Free.Multi.outerC cA N q N = vp_cell cA (N, .inr (.inr (.inr (.inr (kb_ro q N))))) := by
  have hs := Jvm.Free.Multi.outerC_slot cA N q N
  have hz := (Jvm.Free.Multi.outerC_facts cA N q N).2.2
  have e : (Jvm.Free.Multi.outerC cA N q N).slots = (arrV cA N (fun j => va_rf (kb_ro q N j))).slots := by
    apply Array.ext_getElem?
    intro j
    by_cases hj : j < N
    · rw [arrV_read _ _ hj, hs j hj, if_pos hj]
      unfold kb_ro
      rw [if_pos hj]
      rfl
    · rw [Array.getElem?_eq_none (by omega), Array.getElem?_eq_none (by rw [arrV_size]; omega)]
  rw [kb_oc, e]
  rfl
theorem kb_mw_at {q N M : Nat} {cA cB : ClassId} {k : Nat} {x : Nat × va_E} (h : (kb_mw q N M cA cB)[k]? = some x) : x.1 = q + k ∧ k < N + 1 ∧ ((k = 0 ∧ x.2 = .inl (cA, N, .inr (.inr (.inr (.inr (kb_ro q N)))))) ∨ (∃ j, k = j + 1 ∧ j < N ∧ x.2 = .inl (cB, M, .inr (.inl (fun _ => (0 : Int64)))))) := by
  unfold kb_mw at h
  cases k with
  | zero =>
    rw [List.getElem?_cons_zero] at h
    cases h
    exact ⟨rfl, by omega, Or.inl ⟨rfl, rfl⟩⟩
  | succ j =>
    rw [List.getElem?_cons_succ, List.getElem?_map] at h
    by_cases hj : j < N
    · rw [List.getElem?_range hj] at h
      cases h
      exact ⟨by show q + 1 + j = q + (j + 1); omega, by omega, Or.inr ⟨j, rfl, hj, rfl⟩⟩
    · rw [List.getElem?_eq_none (by rw [List.length_range]; omega)] at h
      cases h
theorem kb_multi (hexec : p.tables.exec = Jvm.exec) (hb : c.code = cc) {own : String} {index : Nat} (hown : s.vm.findClass own = some m.cls) (hclink : (Cond.classLink own index "[[J").before args s = true) (hover : (Cond.arrayOver (.array .long)).before args s = true) (harr : (Cond.arrayClass .long).before args s = true) (hP : va_P D cl ws H) (hD : va_D A ws) (hS : va_S A H0 H locs) (hA : ∀ q, H0.size ≤ q → A q) {n k : Int32} {N M : Nat} (hn : ¬ n < 0) (hk : ¬ k < 0) (hN : n.toNatClampNeg = N) (hM : k.toNatClampNeg = M) (hNb : N ≤ 1000) (hMb : M ≤ 1000) (hcells : cells + (1 + N) ≤ R.cells) (hslots : slots + (N + N * M) ≤ R.slots) (hdg : decode cc pc = .ok (.multianewarray index 2, 4))
    (kk : ∀ (q : Nat) (cA cB : ClassId) (H1 : Heap), s.vm.findClass "[[J" = some cA → s.vm.findClass "[J" = some cB → va_P D cl (ws ++ kb_mw q N M cA cB) H1 → va_D A (ws ++ kb_mw q N M cA cB) → va_S A H0 H1 locs → W p l e R s m args below meth c H1 locs (cells + (1 + N)) (slots + (N + N * M)) Q (F0 m (pc + 4) ls (.ref q :: rest))) : W p l e R s m args below meth c H locs cells slots Q (F0 m pc ls (.int k :: .int n :: rest)) := by
  subst hN
  subst hM
  subst hb
  intro T hT X
  subst hT
  obtain ⟨vm₁, cA, comp, hW, hfA, hfC, hO, hI, X1, step⟩ := X.multianewarray2F hexec hown (ty := .long) hclink hover harr (g := F0 m pc ls (.int k :: .int n :: rest)) rfl hdg (n := n) (k := k) (rest := rest) rfl hn hk (by omega) (by show k.toNatClampNeg * 8 ≤ 536870912; omega) (by omega) rfl rfl hcells hslots
  obtain ⟨f1, f2, f3, f4⟩ := Jvm.Free.Multi.fill_facts (T.setVm vm₁) cA comp n.toNatClampNeg k.toNatClampNeg (defaultValue .long) n.toNatClampNeg
  have fo := fun (a : Addr) (ha : a < T.heap.size) => Jvm.Free.Multi.fill_old (T.setVm vm₁) cA comp n.toNatClampNeg k.toNatClampNeg (defaultValue .long) (a := a) ha n.toNatClampNeg
  have fi := fun (j : Nat) (hj : j < n.toNatClampNeg) => Jvm.Free.Multi.fill_inner (T.setVm vm₁) cA comp n.toNatClampNeg k.toNatClampNeg (defaultValue .long) n.toNatClampNeg j hj
  have fo : ∀ a : Nat, a < T.heap.size → (Jvm.Free.Multi.fill (T.setVm vm₁) cA comp n.toNatClampNeg k.toNatClampNeg (defaultValue .long) n.toNatClampNeg).heap[a]? = T.heap[a]? := fo
  have f1 : (Jvm.Free.Multi.fill (T.setVm vm₁) cA comp n.toNatClampNeg k.toNatClampNeg (defaultValue .long) n.toNatClampNeg).heap.size = T.heap.size + 1 + n.toNatClampNeg := f1
  have f2 : (Jvm.Free.Multi.fill (T.setVm vm₁) cA comp n.toNatClampNeg k.toNatClampNeg (defaultValue .long) n.toNatClampNeg).heap[T.heap.size]? = some (Jvm.Free.Multi.outerC cA n.toNatClampNeg T.heap.size n.toNatClampNeg) := f2
  have fi : ∀ j : Nat, j < n.toNatClampNeg → (Jvm.Free.Multi.fill (T.setVm vm₁) cA comp n.toNatClampNeg k.toNatClampNeg (defaultValue .long) n.toNatClampNeg).heap[T.heap.size + 1 + j]? = some (Jvm.Free.Multi.innerC comp k.toNatClampNeg (defaultValue .long)) := fi
  generalize Jvm.Free.Multi.fill (T.setVm vm₁) cA comp n.toNatClampNeg k.toNatClampNeg (defaultValue .long) n.toNatClampNeg = T' at f1 f2 fo fi X1 step
  have hold : ∀ (i : Nat) (x : Nat × va_E), ws[i]? = some x → T'.heap[x.1]? = T.heap[x.1]? := fun i x hx => fo x.1 ((hP i x hx).lt)
  have hP1 : va_P D cl (ws ++ kb_mw T.heap.size n.toNatClampNeg k.toNatClampNeg cA comp) T'.heap := by
    refine (hP.kept hold).app (fun i x hx => ?_)
    obtain ⟨e1, e2, h⟩ := kb_mw_at hx
    obtain ⟨x1, x2⟩ := x
    have e1 : x1 = T.heap.size + i := e1
    subst e1
    rcases h with ⟨rfl, e3⟩ | ⟨j, rfl, hj, e3⟩
    · have e3 : x2 = _ := e3
      subst e3
      show T'.heap[T.heap.size + 0]? = some (vp_cell _ _)
      rw [Nat.add_zero, f2, kb_outer]
    · have e3 : x2 = _ := e3
      subst e3
      show T'.heap[T.heap.size + (j + 1)]? = some (vp_cell _ _)
      rw [show T.heap.size + (j + 1) = T.heap.size + 1 + j by omega, fi j hj]
      show some ({ cls := comp, slots := Array.replicate k.toNatClampNeg (.long 0), vm := .none } : Cell) = some (arrV comp k.toNatClampNeg (fun _ => .long 0))
      rw [arrV_new]
  have hD1 : va_D A (ws ++ kb_mw T.heap.size n.toNatClampNeg k.toNatClampNeg cA comp) := by
    refine ⟨fun i j x y hi hj he => ?_, fun i x hx => ?_⟩
    · by_cases h1 : i < ws.length
      · rw [List.getElem?_append_left h1] at hi
        by_cases h2 : j < ws.length
        · rw [List.getElem?_append_left h2] at hj
          exact hD.1 i j x y hi hj he
        · rw [List.getElem?_append_right (by omega)] at hj
          have := (kb_mw_at hj).1
          have hl := (hP i x hi).lt
          omega
      · rw [List.getElem?_append_right (by omega)] at hi
        have e1 := (kb_mw_at hi).1
        by_cases h2 : j < ws.length
        · rw [List.getElem?_append_left h2] at hj
          have hl := (hP j y hj).lt
          omega
        · rw [List.getElem?_append_right (by omega)] at hj
          have e2 := (kb_mw_at hj).1
          omega
    · by_cases h1 : i < ws.length
      · rw [List.getElem?_append_left h1] at hx
        exact hD.2 i x hx
      · rw [List.getElem?_append_right (by omega)] at hx
        have e1 := (kb_mw_at hx).1
        exact hA _ (by have := hS.1; omega)
  have hS1 : va_S A H0 T'.heap locs := ⟨Nat.le_trans hS.1 (by omega), fun x h1 h2 => (fo x (Nat.lt_of_lt_of_le h1 hS.1)).trans (hS.2.1 x h1 h2), hS.2.2⟩
  obtain ⟨t2, a1, b1⟩ := kk T.heap.size cA comp T'.heap hfA hfC hP1 hD1 hS1 T' rfl (stand_widen X1 (by omega) (by omega))
  exact ⟨t2, step t2 a1, b1⟩
end MULTI
