def qm_gt : List Cond := lw_tbl.filter goodWord
theorem qm_gt_tb {p : Nat} {w : Cond} (h : qm_tb p = some w) (hg : goodWord w = true) : w ∈ qm_gt := List.mem_filter.mpr ⟨List.mem_append_right _ (List.mem_of_getElem? h), hg⟩
theorem qm_gt_priv {p : Nat} {y : MethodName} (h : (lw_privs[p]?).map (fun r => r.1) = some y) : Cond.selects y.cls y y ∈ qm_gt := by
  cases hq : lw_privs[p]? with
  | none => rw [hq] at h; cases h
  | some q =>
    rw [hq] at h
    cases h
    exact List.mem_filter.mpr ⟨List.mem_append_left _ (List.mem_map.mpr ⟨q, List.mem_of_getElem? hq, rfl⟩), rfl⟩
theorem qm_gt_good {w : Cond} (h : w ∈ qm_gt) : (w.onTables && w.keeps) = true ∨ ∃ ty, w = .arrayClass ty := good_of_word (List.mem_filter.mp h).2
theorem qm_Ex_next {G : qm_Pr} {s U : State} {H : Heap} {locs : List Loc} (hE : qm_Ex G s) (hS : va_S (gA G) s.heap H locs) (hU : U.heap = H) (hW : s.WarmedH U.vm) : qm_Ex G U := by
  obtain ⟨h1, h2, h3, h4, ⟨h5, h6, h7⟩, h8, h9⟩ := hE
  have hq : ∀ a : Nat, a < s.heap.size → ¬ gA G a → U.heap[a]? = s.heap[a]? := fun a ha hA => by rw [hU]; exact hS.2.1 a ha hA
  refine ⟨fun i hi => ?_, vk_S.moved hW.alike (vk_S.kept h2 hq), va_Z.moved hW.alike (va_Z.kept h3 hq), va_Z.moved hW.alike (va_Z.kept h4 hq), ⟨va_X.moved hW.alike (va_X.kept h5 (hq _ h6 h7)), Nat.lt_of_lt_of_le h6 (by rw [hU]; exact hS.1), h7⟩, fun q hq => va_Nc.moved hW.alike (h8 q hq), fun q hq => va_Nw.warmC hW (h9 q hq)⟩
  obtain ⟨tx, h⟩ := h1 i hi
  exact ⟨tx, vk_R.warm hW h⟩
theorem qm_Ex_call {G : qm_Pr} {U : State} (g : JFrame) (mk : MethodId) (a : Array Value) (hE : qm_Ex G U) : qm_Ex G (U.calling g mk a) := by
  obtain ⟨h1, h2, h3, h4, ⟨h5, h6, h7⟩, h8, h9⟩ := hE
  have hvm : U.vm.Alike (U.calling g mk a).vm := Vm.Alike.refl U.vm
  refine ⟨fun i hi => ?_, vk_S.moved hvm h2, va_Z.moved hvm h3, va_Z.moved hvm h4, ⟨va_X.moved hvm h5, h6, h7⟩, fun q hq => va_Nc.moved hvm (h8 q hq), fun q hq => va_Nw.same rfl rfl (h9 q hq)⟩
  obtain ⟨tx, h⟩ := h1 i hi
  exact ⟨tx, vk_R.same rfl h⟩
def qm_LV (G : qm_Pr) (ls : Array Slot) (nL : Nat) (L : qm_Lo) : Prop := L.length = nL ∧ ls.size = nL ∧ lv_wf ls ∧ ∀ (i : Nat) (v : qm_AV), L[i]? = some (some v) → ls[i]? = some (.val (qm_cv G v))
def qm_as (G : qm_Pr) (L : qm_Lo) : List (Nat × Value) := (List.range L.length).filterMap (fun j => match L[j]? with
  | some (some v) => some (j, qm_cv G v)
  | _ => none)
theorem qm_as_mem {G : qm_Pr} {L : qm_Lo} {j : Nat} {x : Value} : (j, x) ∈ qm_as G L ↔ ∃ v, L[j]? = some (some v) ∧ x = qm_cv G v := by
  unfold qm_as
  rw [List.mem_filterMap]
  constructor
  · rintro ⟨i, -, h⟩
    cases hi : L[i]? with
    | none => rw [hi] at h; cases h
    | some o =>
      rw [hi] at h
      cases o with
      | none => cases h
      | some v => cases h; exact ⟨v, hi, rfl⟩
  · rintro ⟨v, h, rfl⟩
    exact ⟨j, List.mem_range.mpr (List.getElem?_eq_some_iff.mp h).1, by rw [h]⟩
theorem qm_LV_has {G : qm_Pr} {ls : Array Slot} {nL : Nat} {L : qm_Lo} (h : qm_LV G ls nL L) : lv_has ls nL (qm_as G L) := by
  obtain ⟨h1, h2, h3, h4⟩ := h
  refine ⟨h2, h3, fun q hq => ?_⟩
  obtain ⟨v, e1, e2⟩ := qm_as_mem.mp (show (q.1, q.2) ∈ qm_as G L from hq)
  rw [e2]
  exact h4 _ _ e1
theorem qm_ld_e {k : qm_AV → Prop} : ∀ (L : qm_Lo) (n : Nat), qm_ld L n k → ∃ v, L[n]? = some (some v) ∧ k v
  | [], _, h => h.elim
  | none :: _, 0, h => h.elim
  | some v :: _, 0, h => ⟨v, rfl, h⟩
  | none :: l, n + 1, h => qm_ld_e l n h
  | some _ :: l, n + 1, h => qm_ld_e l n h
theorem qm_ldI_e {L : qm_Lo} {n : Nat} {k : Int32 → Prop} (h : qm_ldI L n k) : ∃ x, L[n]? = some (some (vI x)) ∧ k x := by
  obtain ⟨v, h1, h2⟩ := qm_ld_e L n h
  rcases v with (x | x) | x
  · exact ⟨x, h1, h2⟩
  · exact h2.elim
  · exact h2.elim
theorem qm_ldL_e {L : qm_Lo} {n : Nat} {k : Int64 → Prop} (h : qm_ldL L n k) : ∃ x, L[n]? = some (some (vL x)) ∧ k x := by
  obtain ⟨v, h1, h2⟩ := qm_ld_e L n h
  rcases v with (x | x) | x
  · exact h2.elim
  · exact ⟨x, h1, h2⟩
  · exact h2.elim
theorem qm_ldR_e {L : qm_Lo} {n : Nat} {k : Nat → Nat → Prop} (h : qm_ldR L n k) : ∃ t i, L[n]? = some (some (vR t i)) ∧ k t i := by
  obtain ⟨v, h1, h2⟩ := qm_ld_e L n h
  rcases v with (x | x) | ⟨t, i⟩
  · exact h2.elim
  · exact h2.elim
  · exact ⟨t, i, h1, h2⟩
theorem qm_st_e {v : qm_AV} : ∀ (L : qm_Lo) (n : Nat) {k : qm_Lo → Prop}, qm_st L n v k → n < L.length ∧ k (L.set n (some v)) ∧ ∀ (j : Nat) (x : Int64), j + 1 = n → L[j]? ≠ some (some (vL x))
  | [], _, _, h => by unfold qm_st at h; exact h.elim
  | a :: l, 0, k, h => by
    unfold qm_st at h
    exact ⟨Nat.succ_pos _, h, fun j x hj => by omega⟩
  | a :: l, n + 1, k, h => by
    have key : qm_st l n v (fun l' => k (a :: l')) ∧ (n = 0 → ∀ x : Int64, a ≠ some (vL x)) := by
      cases n with
      | zero =>
        rcases a with _ | ((x | x) | x) <;> unfold qm_st at h
        · exact ⟨h, fun _ y e => nomatch e⟩
        · exact ⟨h, fun _ y e => nomatch e⟩
        · exact h.elim
        · exact ⟨h, fun _ y e => nomatch e⟩
      | succ n =>
        refine ⟨?_, fun e => absurd e (Nat.succ_ne_zero _)⟩
        rcases a with _ | ((x | x) | x) <;> unfold qm_st at h <;> exact h
    obtain ⟨h1, h2, h3⟩ := qm_st_e l n key.1
    refine ⟨Nat.succ_lt_succ h1, h2, fun j x hj => ?_⟩
    cases j with
    | zero =>
      have : n = 0 := by omega
      intro e
      rw [List.getElem?_cons_zero] at e
      exact key.2 this x (Option.some.inj e)
    | succ j =>
      rw [List.getElem?_cons_succ]
      exact h3 j x (by omega)
theorem qm_LV_st {G : qm_Pr} {ls' : Array Slot} {nL : Nat} {L : qm_Lo} {n : Nat} {v : qm_AV} {lv' : List (Nat × Value)} (hlen : L.length = nL) (h : lv_has ls' nL lv') (he : (n, qm_cv G v) :: (qm_as G L).filter (fun q => !(q.1 == n) && !(q.1 + 1 == n && q.2.category == 2)) = lv') (hn : n < L.length) (hj : ∀ (j : Nat) (x : Int64), j + 1 = n → L[j]? ≠ some (some (vL x))) (hcat : (v : qm_AV) = v) (hU : (gU G = .null) ∨ ∃ t, gU G = .ref t) : qm_LV G ls' nL (L.set n (some v)) := by
  obtain ⟨h1, h2, h3⟩ := h
  refine ⟨by rw [List.length_set]; exact hlen, h1, h2, fun i w hi => ?_⟩
  by_cases e : i = n
  · subst e
    rw [List.getElem?_set_self hn] at hi
    cases hi
    exact h3 (i, qm_cv G v) (by rw [← he]; exact List.mem_cons_self)
  · rw [List.getElem?_set_ne (Ne.symm e)] at hi
    refine h3 (i, qm_cv G w) ?_
    rw [← he]
    refine List.mem_cons_of_mem _ (List.mem_filter.mpr ⟨qm_as_mem.mpr ⟨w, hi, rfl⟩, ?_⟩)
    simp only [Bool.and_eq_true, Bool.not_eq_true', beq_eq_false_iff_ne, Bool.and_eq_false_iff]
    refine ⟨e, ?_⟩
    by_cases e2 : i + 1 = n
    · right
      rcases w with (x | x) | ⟨t, k⟩
      · exact fun q => by cases q
      · exact absurd hi (hj i x e2)
      · intro q
        revert q
        show ¬ (qm_rv G t k).category = 2
        unfold qm_rv
        cases Nat.blt t 100 <;> cases Nat.beq t 100 <;> cases Nat.beq t 101 <;> cases Nat.beq t 102 <;> first | (intro q; cases q; done) | (show ¬ (gU G).category = 2; rcases hU with hU | ⟨a, hU⟩ <;> rw [hU] <;> intro q <;> cases q)
    · left; exact e2
