/-! 13a -/
def pzS (tx : Nat → Nat) (L a : Nat) : Nat := if a < L then tx a else 999
def pzM (g : Nat → Nat) : Nat → List Nat → Nat × Bool
  | a, [] => (a, true)
  | a, c :: l => if g a = c then pzM g (a + 1) l else (a, false)
def pzD (c : Nat) : Prop := 48 ≤ c ∧ c ≤ 57
def pzN (g : Nat → Nat) (a : Nat) : Option (Nat × Nat) := if 48 ≤ g a ∧ g a ≤ 57 then (if 48 ≤ g (a + 1) ∧ g (a + 1) ≤ 57 then some (10 * (g a - 48) + (g (a + 1) - 48), a + 2) else some (g a - 48, a + 1)) else none
def pzX (c : Nat) : List Nat → Nat → Option Nat
  | [], _ => none
  | x :: l, j => if x = c then some j else pzX c l (j + 1)
def pzI (r : Option Nat) : Int32 := match r with
  | none => -1
  | some j => nI j
def pzT (g : Nat → Nat) (a : Nat) : Nat × Option Nat := match pzX (g a) [112, 107, 118, 111, 108, 109] 0 with
  | none => (a, none)
  | some f => match pzX (g (a + 1)) [60, 61, 62] 0 with
    | none => (a + 1, none)
    | some y => match pzN g (a + 2) with
      | none => (a + 2, none)
      | some q => (q.2, some (3 + ((f * 3 + y) * 100 + q.1)))
def pzW : List Nat → Int32 → List Nat → List Nat × Int32 × List Nat
  | [], op, out => ([], op, out)
  | c :: w, op, out => if c = 33 then pzW w (op - 1) (out ++ [0]) else (c :: w, op, out)
def pzE (s : Nat) : List Nat → List Nat → List Nat × List Nat
  | [], out => ([], out)
  | c :: w, out => if c = 38 then pzE s w (out ++ [1]) else if c = 124 ∧ ¬ s = 38 then pzE s w (out ++ [2]) else (c :: w, out)
abbrev PR9 : Type := Nat × Option (List Nat)
def pzR (g : Nat → Nat) : Nat → Bool → Nat → List Nat → Int32 → List Nat → Option PR9
  | 0, _, _, _, _, _ => none
  | k + 1, true, a, w, op, out => if g a = 33 ∨ g a = 40 then (if op = 4 then some (a, none) else pzR g k true (a + 1) (g a :: w) (op + 1) out)
    else match pzT g a with
      | (b, none) => some (b, none)
      | (b, some t) => pzR g k false b (pzW w op (out ++ [t])).1 (pzW w op (out ++ [t])).2.1 (pzW w op (out ++ [t])).2.2
  | k + 1, false, a, w, op, out => if g a = 38 ∨ g a = 124 then pzR g k true (a + 1) (g a :: (pzE (g a) w out).1) op (pzE (g a) w out).2
    else match (pzE 124 w out).1 with
      | [] => some (a, some (pzE 124 w out).2)
      | _ :: w' => if g a = 41 then pzR g k false (a + 1) (pzW w' (op - 1) (pzE 124 w out).2).1 (pzW w' (op - 1) (pzE 124 w out).2).2.1 (pzW w' (op - 1) (pzE 124 w out).2).2.2 else some (a, none)
def pzG (g : Nat → Nat) (wt : Bool) (a : Nat) (w : List Nat) (op : Int32) (out : List Nat) (r : PR9) : Prop := ∃ k, pzR g k wt a w op out = some r
theorem pzG_opn {g : Nat → Nat} {a : Nat} {w : List Nat} {op : Int32} {out : List Nat} {r : PR9} (h : g a = 33 ∨ g a = 40) (ho : ¬ op = 4) (k : pzG g true (a + 1) (g a :: w) (op + 1) out r) : pzG g true a w op out r := by
  obtain ⟨n, k⟩ := k
  refine ⟨n + 1, ?_⟩
  unfold pzR
  rw [if_pos h, if_neg ho]
  exact k
theorem pzG_deep {g : Nat → Nat} {a : Nat} {w : List Nat} {out : List Nat} (h : g a = 33 ∨ g a = 40) : pzG g true a w 4 out (a, none) := by
  refine ⟨1, ?_⟩
  unfold pzR
  rw [if_pos h, if_pos rfl]
theorem pzG_bad {g : Nat → Nat} {a b : Nat} {w : List Nat} {op : Int32} {out : List Nat} (h : ¬ (g a = 33 ∨ g a = 40)) (ht : pzT g a = (b, none)) : pzG g true a w op out (b, none) := by
  refine ⟨1, ?_⟩
  unfold pzR
  rw [if_neg h, ht]
theorem pzG_test {g : Nat → Nat} {a b t : Nat} {w : List Nat} {op : Int32} {out : List Nat} {r : PR9} (h : ¬ (g a = 33 ∨ g a = 40)) (ht : pzT g a = (b, some t)) (k : pzG g false b (pzW w op (out ++ [t])).1 (pzW w op (out ++ [t])).2.1 (pzW w op (out ++ [t])).2.2 r) : pzG g true a w op out r := by
  obtain ⟨n, k⟩ := k
  refine ⟨n + 1, ?_⟩
  unfold pzR
  rw [if_neg h, ht]
  exact k
theorem pzG_op {g : Nat → Nat} {a : Nat} {w : List Nat} {op : Int32} {out : List Nat} {r : PR9} (h : g a = 38 ∨ g a = 124) (k : pzG g true (a + 1) (g a :: (pzE (g a) w out).1) op (pzE (g a) w out).2 r) : pzG g false a w op out r := by
  obtain ⟨n, k⟩ := k
  refine ⟨n + 1, ?_⟩
  unfold pzR
  rw [if_pos h]
  exact k
theorem pzG_end {g : Nat → Nat} {a : Nat} {w : List Nat} {op : Int32} {out o2 : List Nat} (h : ¬ (g a = 38 ∨ g a = 124)) (he : pzE 124 w out = ([], o2)) : pzG g false a w op out (a, some o2) := by
  refine ⟨1, ?_⟩
  unfold pzR
  rw [if_neg h, he]
theorem pzG_miss {g : Nat → Nat} {a c : Nat} {w w' : List Nat} {op : Int32} {out o2 : List Nat} (h : ¬ (g a = 38 ∨ g a = 124)) (he : pzE 124 w out = (c :: w', o2)) (hg : ¬ g a = 41) : pzG g false a w op out (a, none) := by
  refine ⟨1, ?_⟩
  unfold pzR
  rw [if_neg h, he]
  show (if g a = 41 then _ else _) = _
  rw [if_neg hg]
theorem pzG_close {g : Nat → Nat} {a c : Nat} {w w' : List Nat} {op : Int32} {out o2 : List Nat} {r : PR9} (h : ¬ (g a = 38 ∨ g a = 124)) (he : pzE 124 w out = (c :: w', o2)) (hg : g a = 41) (k : pzG g false (a + 1) (pzW w' (op - 1) o2).1 (pzW w' (op - 1) o2).2.1 (pzW w' (op - 1) o2).2.2 r) : pzG g false a w op out r := by
  obtain ⟨n, k⟩ := k
  refine ⟨n + 1, ?_⟩
  unfold pzR
  rw [if_neg h, he]
  show (if g a = 41 then _ else _) = _
  rw [if_pos hg]
  exact k
theorem chr_a : ∀ c, c < 128 → ((nI c &&& 255).toUInt32 % 65536).toInt32 = nI c := by decide +kernel
theorem chr_b : ∀ c, c < 128 → (nI c).toInt8.toInt32 = nI c := by decide +kernel
theorem chr_c : ∀ c, c < 128 → ((nI c).toUInt32 % 65536).toInt32 = nI c := by decide +kernel
theorem shr0 (x : Int32) : x >>> ((0 : Int32) &&& 31) = x := by
  apply i_eq.mpr
  rw [pk_shr _ _ 0 (by decide)]
  exact Int.shiftRight_zero _
def sE (σ : qm_Sg) : Prop := (∀ i : Nat, σ.1 101 i 1 = 0) ∧ ∀ i j : Nat, i < 8 → σ.1 102 i j = (qm_sB.getD i []).getD j 0
theorem sE.fr {T : Nat → Nat → Nat → Prop} {σ σ' : qm_Sg} (h : sE σ) (hF : Fr T σ σ') (hT : ∀ t i j, 100 ≤ t → ¬ T t i j) : sE σ' := ⟨fun i => by rw [hF.1 _ _ _ (hT _ _ _ (by omega))]; exact h.1 i, fun i j hi => by rw [hF.1 _ _ _ (hT _ _ _ (by omega))]; exact h.2 i j hi⟩
theorem c_coder {d : Nat} (hd : 1 ≤ d) {σ : qm_Sg} {Q : qm_Po} {k : Nat} (he : σ.1 101 k 1 = 0) (h : Q σ (some (vI 0))) : qm_M d 7 [vR 101 k] σ Q := by
  obtain ⟨d, rfl, hd⟩ := qm_dn hd
  show qm_Wp (qm_M d) qk_7 Q 0 [some (vR 101 k)] [] σ
  refine qm_go 2 (fun P hP => And.intro (fun c => absurd c (by decide)) (fun _ => hP ?_))
  refine qm_go 2 (fun P hP => hP ?_)
  rw [he]
  refine qm_go 2 (fun P hP => And.intro rfl h)
theorem c_latin {d : Nat} (hd : 1 ≤ d) {σ : qm_Sg} {Q : qm_Po} {k : Nat} (he : σ.1 101 k 1 = 0) (h : Q σ (some (vI 1))) : qm_M d 8 [vR 101 k] σ Q := by
  obtain ⟨d, rfl, hd⟩ := qm_dn hd
  show qm_Wp (qm_M d) qk_8 Q 0 [some (vR 101 k)] [] σ
  refine qm_go 2 (fun P hP => And.intro (fun c => absurd c (by decide)) (fun _ => hP ?_))
  refine qm_go 3 (fun P hP => And.intro (fun c => absurd he c) (fun _ => hP ?_))
  refine qm_go 3 (fun P hP => And.intro rfl h)
theorem c_canE {d : Nat} (hd : 1 ≤ d) {σ : qm_Sg} {Q : qm_Po} {c : Nat} (hc : c < 128) (h : Q σ (some (vI 1))) : qm_M d 11 [vI (nI c)] σ Q := by
  obtain ⟨d, rfl, hd⟩ := qm_dn hd
  show qm_Wp (qm_M d) qk_11 Q 0 [some (vI (nI c))] [] σ
  refine qm_go 2 (fun P hP => And.intro (fun c => absurd c (nI_pos (by omega))) (fun _ => hP ?_))
  refine qm_go 3 (fun P hP => And.intro (fun c => absurd c (nI_nlt (a := 255) (by omega) (by omega))) (fun _ => hP ?_))
  refine qm_go 3 (fun P hP => And.intro rfl h)
theorem c_ckB {d : Nat} (hd : 1 ≤ d) {σ : qm_Sg} {Q : qm_Po} {j n : Nat} (hj : j < n) (hn : n < 2 ^ 31) (h : Q σ (some (vI (nI j)))) : qm_M d 16 [vI (nI j), vI (nI n), vR 105 0] σ Q := by
  obtain ⟨d, rfl, hd⟩ := qm_dn hd
  show qm_Wp (qm_M d) qk_16 Q 0 [some (vI (nI j)), some (vI (nI n)), some (vR 105 0)] [] σ
  refine qm_go 2 (fun P hP => And.intro (fun c => absurd c (nI_pos (by omega))) (fun _ => hP ?_))
  refine qm_go 3 (fun P hP => And.intro (fun _ => hP ?_) (fun c => absurd (nI_lt hj hn) c))
  refine qm_go 2 (fun P hP => h)
theorem c_ckA {d : Nat} (hd : 2 ≤ d) {σ : qm_Sg} {Q : qm_Po} {j n : Nat} (hj : j < n) (hn : n < 2 ^ 31) (h : Q σ none) : qm_M d 9 [vI (nI j), vI (nI n)] σ Q := by
  obtain ⟨d, rfl, hd⟩ := qm_dn hd
  show qm_Wp (qm_M d) qk_9 Q 0 [some (vI (nI j)), some (vI (nI n))] [] σ
  refine qm_go 4 (fun P hP => c_ckB (by omega) hj hn (hP ?_))
  refine qm_go 2 (fun P hP => h)
theorem ix_step {α : Type} {l r : List α} {j : Nat} {c : α} (h : l.drop j = c :: r) : l[j]? = some c ∧ l.drop (j + 1) = r ∧ j < l.length := by
  have h1 : j < l.length := by
    by_cases e : j < l.length
    · exact e
    · rw [List.drop_eq_nil_of_le (by omega)] at h; cases h
  rw [List.drop_eq_getElem_cons h1] at h
  injection h with a b
  exact ⟨by rw [List.getElem?_eq_getElem h1, a], b, h1⟩
theorem sE_0 {σ : qm_Sg} (h : sE σ) : ∀ (j c : Nat), ([108, 115, 98] : List Nat)[j]? = some c → σ.1 102 0 j = nI c ∧ c < 128 ∧ j < 3
  | 0, c, e => by cases e; exact ⟨by rw [h.2 0 0 (by omega)]; rfl, by omega, by omega⟩
  | 1, c, e => by cases e; exact ⟨by rw [h.2 0 1 (by omega)]; rfl, by omega, by omega⟩
  | 2, c, e => by cases e; exact ⟨by rw [h.2 0 2 (by omega)]; rfl, by omega, by omega⟩
  | j + 3, c, e => by cases e
theorem c_len0 {d : Nat} (hd : 2 ≤ d) {σ : qm_Sg} {Q : qm_Po}  (hE : sE σ) (h : Q σ (some (vI (nI 3)))) : qm_M d 3 [vR 101 0] σ Q := by
  obtain ⟨d, rfl, hd⟩ := qm_dn hd
  show qm_Wp (qm_M d) qk_3 Q 0 [some (vR 101 0)] [] σ
  refine qm_go 5 (fun P hP => c_coder (by omega) (hE.1 _) (hP ?_))
  refine qm_go 1 (fun P hP => hP ?_)
  rw [shr0]
  refine qm_go 1 (fun P hP => h)
theorem c_ixl0 {d : Nat} {σ : qm_Sg} {Q : qm_Po} {c : Nat} (hE : sE σ) (hc : c < 128) : ∀ (l : List Nat) (j : Nat), ([108, 115, 98] : List Nat).drop j = l → j ≤ 3 → Q σ (some (vI (pzI (pzX c l j)))) → qm_Wp (qm_M d) qk_13 Q 5 [some (vR 102 0), some (vI (nI c)), some (vI 0), some (vI (nI 3)), some (vI (nI c)), some (vI (nI j))] [] σ
  | [], j, hl, hj, h => by
    have hj2 : j = 3 := by
      have := List.drop_eq_nil_iff.mp hl
      simp only [List.length_cons, List.length_nil] at this
      omega
    subst hj2
    refine qm_go 3 (fun P hP => And.intro (fun _ => hP ?_) (fun q => absurd (by decide) q))
    refine qm_go 2 (fun P hP => h)
  | x :: l, j, hl, hj, h => by
    obtain ⟨h1, h2, h3⟩ := ix_step hl
    obtain ⟨e1, e2, e3⟩ := sE_0 hE j x h1
    refine qm_go 3 (fun P hP => And.intro (fun q => absurd q (nI_ge e3 (by decide))) (fun _ => hP ?_))
    refine qm_go 3 (fun P hP => Exists.intro (j) (And.intro (And.intro (rfl) (e3)) (hP ?_)))
    rw [e1]
    unfold pzX at h
    by_cases q : x = c
    · rw [if_pos q] at h
      refine qm_go 2 (fun P hP => And.intro (fun z => absurd (by rw [q]) z) (fun _ => hP ?_))
      exact qm_go 2 (fun P hP => h)
    · rw [if_neg q] at h
      refine qm_go 2 (fun P hP => And.intro (fun _ => hP ?_) (fun z => absurd ((nI_eq (by omega) (by omega)).mp z) q))
      refine qm_go 2 (fun P hP => hP ?_)
      rw [nI_1]
      exact c_ixl0 hE hc l (j + 1) h2 (by omega) h
theorem c_ixc0 {d : Nat} (hd : 1 ≤ d) {σ : qm_Sg} {Q : qm_Po} {c : Nat} (hE : sE σ) (hc : c < 128) (h : Q σ (some (vI (pzI (pzX c [108, 115, 98] 0))))) : qm_M d 13 [vR 102 0, vI (nI c), vI 0, vI (nI 3)] σ Q := by
  obtain ⟨d, rfl, hd⟩ := qm_dn hd
  show qm_Wp (qm_M d) qk_13 Q 0 [some (vR 102 0), some (vI (nI c)), some (vI 0), some (vI (nI 3)), none, none] [] σ
  refine qm_go 2 (fun P hP => hP ?_)
  rw [chr_b c hc]
  refine qm_go 3 (fun P hP => hP ?_)
  exact c_ixl0 hE hc _ 0 rfl (by omega) h
theorem c_ixb0 {d : Nat} (hd : 2 ≤ d) {σ : qm_Sg} {Q : qm_Po} {c : Nat} (hE : sE σ) (hc : c < 128) (h : Q σ (some (vI (pzI (pzX c [108, 115, 98] 0))))) : qm_M d 12 [vR 102 0, vI (nI c), vI 0, vI (nI 3)] σ Q := by
  obtain ⟨d, rfl, hd⟩ := qm_dn hd
  show qm_Wp (qm_M d) qk_12 Q 0 [some (vR 102 0), some (vI (nI c)), some (vI 0), some (vI (nI 3))] [] σ
  refine qm_go 2 (fun P hP => c_canE (by omega) hc (hP ?_))
  refine qm_go 1 (fun P hP => And.intro (fun _ => hP ?_) (fun c => absurd c (by decide)))
  refine qm_go 3 (fun P hP => hP ?_)
  rw [show (if (0 : Int32) < 0 then (0 : Int32) else 0) = 0 from by decide]
  refine qm_go 5 (fun P hP => hP ?_)
  rw [show (if nI (qm_cN 102 0) < nI 3 then nI (qm_cN 102 0) else nI 3) = nI 3 from by decide]
  refine qm_go 4 (fun P hP => And.intro (fun _ => hP ?_) (fun c => absurd (by decide) c))
  refine qm_go 5 (fun P hP => c_ixc0 (by omega) hE hc (hP ?_))
  refine qm_go 1 (fun P hP => h)
theorem c_ixa0 {d : Nat} (hd : 3 ≤ d) {σ : qm_Sg} {Q : qm_Po} {c : Nat} (hE : sE σ) (hc : c < 128) (h : Q σ (some (vI (pzI (pzX c [108, 115, 98] 0))))) : qm_M d 6 [vR 101 0, vI (nI c), vI 0] σ Q := by
  obtain ⟨d, rfl, hd⟩ := qm_dn hd
  show qm_Wp (qm_M d) qk_6 Q 0 [some (vR 101 0), some (vI (nI c)), some (vI 0)] [] σ
  refine qm_go 2 (fun P hP => c_latin (by omega) (hE.1 _) (hP ?_))
  refine qm_go 1 (fun P hP => And.intro (fun c => absurd c (by decide)) (fun _ => hP ?_))
  refine qm_go 6 (fun P hP => c_len0 (by omega) hE (hP ?_))
  refine qm_go 1 (fun P hP => c_ixb0 (by omega) hE hc (hP ?_))
  refine qm_go 2 (fun P hP => h)
theorem c_ix0 {d : Nat} (hd : 4 ≤ d) {σ : qm_Sg} {Q : qm_Po} {c : Nat} (hE : sE σ) (hc : c < 128) (h : Q σ (some (vI (pzI (pzX c [108, 115, 98] 0))))) : qm_M d 5 [vR 101 0, vI (nI c)] σ Q := by
  obtain ⟨d, rfl, hd⟩ := qm_dn hd
  show qm_Wp (qm_M d) qk_5 Q 0 [some (vR 101 0), some (vI (nI c))] [] σ
  refine qm_go 4 (fun P hP => c_ixa0 (by omega) hE hc (hP ?_))
  refine qm_go 1 (fun P hP => h)
theorem sE_1 {σ : qm_Sg} (h : sE σ) : ∀ (j c : Nat), ([108, 97, 116, 101, 32] : List Nat)[j]? = some c → σ.1 102 1 j = nI c ∧ c < 128 ∧ j < 5
  | 0, c, e => by cases e; exact ⟨by rw [h.2 1 0 (by omega)]; rfl, by omega, by omega⟩
  | 1, c, e => by cases e; exact ⟨by rw [h.2 1 1 (by omega)]; rfl, by omega, by omega⟩
  | 2, c, e => by cases e; exact ⟨by rw [h.2 1 2 (by omega)]; rfl, by omega, by omega⟩
  | 3, c, e => by cases e; exact ⟨by rw [h.2 1 3 (by omega)]; rfl, by omega, by omega⟩
  | 4, c, e => by cases e; exact ⟨by rw [h.2 1 4 (by omega)]; rfl, by omega, by omega⟩
  | j + 5, c, e => by cases e
theorem c_len1 {d : Nat} (hd : 2 ≤ d) {σ : qm_Sg} {Q : qm_Po}  (hE : sE σ) (h : Q σ (some (vI (nI 5)))) : qm_M d 3 [vR 101 1] σ Q := by
  obtain ⟨d, rfl, hd⟩ := qm_dn hd
  show qm_Wp (qm_M d) qk_3 Q 0 [some (vR 101 1)] [] σ
  refine qm_go 5 (fun P hP => c_coder (by omega) (hE.1 _) (hP ?_))
  refine qm_go 1 (fun P hP => hP ?_)
  rw [shr0]
  refine qm_go 1 (fun P hP => h)
theorem c_cha1 {d : Nat} (hd : 3 ≤ d) {σ : qm_Sg} {Q : qm_Po} {j c : Nat} (hj : j < 5) (hc : c < 128) (hv : σ.1 102 1 j = nI c) (h : Q σ (some (vI (nI c)))) : qm_M d 10 [vR 102 1, vI (nI j)] σ Q := by
  obtain ⟨d, rfl, hd⟩ := qm_dn hd
  show qm_Wp (qm_M d) qk_10 Q 0 [some (vR 102 1), some (vI (nI j))] [] σ
  refine qm_go 4 (fun P hP => c_ckA (by omega) hj (by decide) (hP ?_))
  refine qm_go 3 (fun P hP => Exists.intro (j) (And.intro (And.intro (rfl) (hj)) (hP ?_)))
  rw [hv]
  refine qm_go 3 (fun P hP => hP ?_)
  rw [chr_a c hc]
  refine qm_go 1 (fun P hP => And.intro (pk_charN (by omega)).1 h)
theorem c_chr1 {d : Nat} (hd : 4 ≤ d) {σ : qm_Sg} {Q : qm_Po} {j c : Nat} (hE : sE σ) (hj : ([108, 97, 116, 101, 32] : List Nat)[j]? = some c) (h : Q σ (some (vI (nI c)))) : qm_M d 4 [vR 101 1, vI (nI j)] σ Q := by
  obtain ⟨d, rfl, hd⟩ := qm_dn hd
  show qm_Wp (qm_M d) qk_4 Q 0 [some (vR 101 1), some (vI (nI j))] [] σ
  refine qm_go 2 (fun P hP => c_latin (by omega) (hE.1 _) (hP ?_))
  refine qm_go 1 (fun P hP => And.intro (fun c => absurd c (by decide)) (fun _ => hP ?_))
  refine qm_go 4 (fun P hP => c_cha1 (by omega) (sE_1 hE j c hj).2.2 (sE_1 hE j c hj).2.1 (sE_1 hE j c hj).1 (hP ?_))
  refine qm_go 1 (fun P hP => And.intro (pk_charN (Nat.lt_trans (sE_1 hE j c hj).2.1 (by decide))).1 h)
theorem sE_2 {σ : qm_Sg} (h : sE σ) : ∀ (j c : Nat), ([98, 101, 97, 114, 32] : List Nat)[j]? = some c → σ.1 102 2 j = nI c ∧ c < 128 ∧ j < 5
  | 0, c, e => by cases e; exact ⟨by rw [h.2 2 0 (by omega)]; rfl, by omega, by omega⟩
  | 1, c, e => by cases e; exact ⟨by rw [h.2 2 1 (by omega)]; rfl, by omega, by omega⟩
  | 2, c, e => by cases e; exact ⟨by rw [h.2 2 2 (by omega)]; rfl, by omega, by omega⟩
  | 3, c, e => by cases e; exact ⟨by rw [h.2 2 3 (by omega)]; rfl, by omega, by omega⟩
  | 4, c, e => by cases e; exact ⟨by rw [h.2 2 4 (by omega)]; rfl, by omega, by omega⟩
  | j + 5, c, e => by cases e
theorem c_len2 {d : Nat} (hd : 2 ≤ d) {σ : qm_Sg} {Q : qm_Po}  (hE : sE σ) (h : Q σ (some (vI (nI 5)))) : qm_M d 3 [vR 101 2] σ Q := by
  obtain ⟨d, rfl, hd⟩ := qm_dn hd
  show qm_Wp (qm_M d) qk_3 Q 0 [some (vR 101 2)] [] σ
  refine qm_go 5 (fun P hP => c_coder (by omega) (hE.1 _) (hP ?_))
  refine qm_go 1 (fun P hP => hP ?_)
  rw [shr0]
  refine qm_go 1 (fun P hP => h)
theorem c_cha2 {d : Nat} (hd : 3 ≤ d) {σ : qm_Sg} {Q : qm_Po} {j c : Nat} (hj : j < 5) (hc : c < 128) (hv : σ.1 102 2 j = nI c) (h : Q σ (some (vI (nI c)))) : qm_M d 10 [vR 102 2, vI (nI j)] σ Q := by
  obtain ⟨d, rfl, hd⟩ := qm_dn hd
  show qm_Wp (qm_M d) qk_10 Q 0 [some (vR 102 2), some (vI (nI j))] [] σ
  refine qm_go 4 (fun P hP => c_ckA (by omega) hj (by decide) (hP ?_))
  refine qm_go 3 (fun P hP => Exists.intro (j) (And.intro (And.intro (rfl) (hj)) (hP ?_)))
  rw [hv]
  refine qm_go 3 (fun P hP => hP ?_)
  rw [chr_a c hc]
  refine qm_go 1 (fun P hP => And.intro (pk_charN (by omega)).1 h)
theorem c_chr2 {d : Nat} (hd : 4 ≤ d) {σ : qm_Sg} {Q : qm_Po} {j c : Nat} (hE : sE σ) (hj : ([98, 101, 97, 114, 32] : List Nat)[j]? = some c) (h : Q σ (some (vI (nI c)))) : qm_M d 4 [vR 101 2, vI (nI j)] σ Q := by
  obtain ⟨d, rfl, hd⟩ := qm_dn hd
  show qm_Wp (qm_M d) qk_4 Q 0 [some (vR 101 2), some (vI (nI j))] [] σ
  refine qm_go 2 (fun P hP => c_latin (by omega) (hE.1 _) (hP ?_))
  refine qm_go 1 (fun P hP => And.intro (fun c => absurd c (by decide)) (fun _ => hP ?_))
  refine qm_go 4 (fun P hP => c_cha2 (by omega) (sE_2 hE j c hj).2.2 (sE_2 hE j c hj).2.1 (sE_2 hE j c hj).1 (hP ?_))
  refine qm_go 1 (fun P hP => And.intro (pk_charN (Nat.lt_trans (sE_2 hE j c hj).2.1 (by decide))).1 h)
theorem sE_3 {σ : qm_Sg} (h : sE σ) : ∀ (j c : Nat), ([115, 111, 111, 110, 32] : List Nat)[j]? = some c → σ.1 102 3 j = nI c ∧ c < 128 ∧ j < 5
  | 0, c, e => by cases e; exact ⟨by rw [h.2 3 0 (by omega)]; rfl, by omega, by omega⟩
  | 1, c, e => by cases e; exact ⟨by rw [h.2 3 1 (by omega)]; rfl, by omega, by omega⟩
  | 2, c, e => by cases e; exact ⟨by rw [h.2 3 2 (by omega)]; rfl, by omega, by omega⟩
  | 3, c, e => by cases e; exact ⟨by rw [h.2 3 3 (by omega)]; rfl, by omega, by omega⟩
  | 4, c, e => by cases e; exact ⟨by rw [h.2 3 4 (by omega)]; rfl, by omega, by omega⟩
  | j + 5, c, e => by cases e
theorem c_len3 {d : Nat} (hd : 2 ≤ d) {σ : qm_Sg} {Q : qm_Po}  (hE : sE σ) (h : Q σ (some (vI (nI 5)))) : qm_M d 3 [vR 101 3] σ Q := by
  obtain ⟨d, rfl, hd⟩ := qm_dn hd
  show qm_Wp (qm_M d) qk_3 Q 0 [some (vR 101 3)] [] σ
  refine qm_go 5 (fun P hP => c_coder (by omega) (hE.1 _) (hP ?_))
  refine qm_go 1 (fun P hP => hP ?_)
  rw [shr0]
  refine qm_go 1 (fun P hP => h)
theorem c_cha3 {d : Nat} (hd : 3 ≤ d) {σ : qm_Sg} {Q : qm_Po} {j c : Nat} (hj : j < 5) (hc : c < 128) (hv : σ.1 102 3 j = nI c) (h : Q σ (some (vI (nI c)))) : qm_M d 10 [vR 102 3, vI (nI j)] σ Q := by
  obtain ⟨d, rfl, hd⟩ := qm_dn hd
  show qm_Wp (qm_M d) qk_10 Q 0 [some (vR 102 3), some (vI (nI j))] [] σ
  refine qm_go 4 (fun P hP => c_ckA (by omega) hj (by decide) (hP ?_))
  refine qm_go 3 (fun P hP => Exists.intro (j) (And.intro (And.intro (rfl) (hj)) (hP ?_)))
  rw [hv]
  refine qm_go 3 (fun P hP => hP ?_)
  rw [chr_a c hc]
  refine qm_go 1 (fun P hP => And.intro (pk_charN (by omega)).1 h)
theorem c_chr3 {d : Nat} (hd : 4 ≤ d) {σ : qm_Sg} {Q : qm_Po} {j c : Nat} (hE : sE σ) (hj : ([115, 111, 111, 110, 32] : List Nat)[j]? = some c) (h : Q σ (some (vI (nI c)))) : qm_M d 4 [vR 101 3, vI (nI j)] σ Q := by
  obtain ⟨d, rfl, hd⟩ := qm_dn hd
  show qm_Wp (qm_M d) qk_4 Q 0 [some (vR 101 3), some (vI (nI j))] [] σ
  refine qm_go 2 (fun P hP => c_latin (by omega) (hE.1 _) (hP ?_))
  refine qm_go 1 (fun P hP => And.intro (fun c => absurd c (by decide)) (fun _ => hP ?_))
  refine qm_go 4 (fun P hP => c_cha3 (by omega) (sE_3 hE j c hj).2.2 (sE_3 hE j c hj).2.1 (sE_3 hE j c hj).1 (hP ?_))
  refine qm_go 1 (fun P hP => And.intro (pk_charN (Nat.lt_trans (sE_3 hE j c hj).2.1 (by decide))).1 h)
theorem sE_4 {σ : qm_Sg} (h : sE σ) : ∀ (j c : Nat), ([32] : List Nat)[j]? = some c → σ.1 102 4 j = nI c ∧ c < 128 ∧ j < 1
  | 0, c, e => by cases e; exact ⟨by rw [h.2 4 0 (by omega)]; rfl, by omega, by omega⟩
  | j + 1, c, e => by cases e
theorem c_len4 {d : Nat} (hd : 2 ≤ d) {σ : qm_Sg} {Q : qm_Po}  (hE : sE σ) (h : Q σ (some (vI (nI 1)))) : qm_M d 3 [vR 101 4] σ Q := by
  obtain ⟨d, rfl, hd⟩ := qm_dn hd
  show qm_Wp (qm_M d) qk_3 Q 0 [some (vR 101 4)] [] σ
  refine qm_go 5 (fun P hP => c_coder (by omega) (hE.1 _) (hP ?_))
  refine qm_go 1 (fun P hP => hP ?_)
  rw [shr0]
  refine qm_go 1 (fun P hP => h)
theorem c_cha4 {d : Nat} (hd : 3 ≤ d) {σ : qm_Sg} {Q : qm_Po} {j c : Nat} (hj : j < 1) (hc : c < 128) (hv : σ.1 102 4 j = nI c) (h : Q σ (some (vI (nI c)))) : qm_M d 10 [vR 102 4, vI (nI j)] σ Q := by
  obtain ⟨d, rfl, hd⟩ := qm_dn hd
  show qm_Wp (qm_M d) qk_10 Q 0 [some (vR 102 4), some (vI (nI j))] [] σ
  refine qm_go 4 (fun P hP => c_ckA (by omega) hj (by decide) (hP ?_))
  refine qm_go 3 (fun P hP => Exists.intro (j) (And.intro (And.intro (rfl) (hj)) (hP ?_)))
  rw [hv]
  refine qm_go 3 (fun P hP => hP ?_)
  rw [chr_a c hc]
  refine qm_go 1 (fun P hP => And.intro (pk_charN (by omega)).1 h)
theorem c_chr4 {d : Nat} (hd : 4 ≤ d) {σ : qm_Sg} {Q : qm_Po} {j c : Nat} (hE : sE σ) (hj : ([32] : List Nat)[j]? = some c) (h : Q σ (some (vI (nI c)))) : qm_M d 4 [vR 101 4, vI (nI j)] σ Q := by
  obtain ⟨d, rfl, hd⟩ := qm_dn hd
  show qm_Wp (qm_M d) qk_4 Q 0 [some (vR 101 4), some (vI (nI j))] [] σ
  refine qm_go 2 (fun P hP => c_latin (by omega) (hE.1 _) (hP ?_))
  refine qm_go 1 (fun P hP => And.intro (fun c => absurd c (by decide)) (fun _ => hP ?_))
  refine qm_go 4 (fun P hP => c_cha4 (by omega) (sE_4 hE j c hj).2.2 (sE_4 hE j c hj).2.1 (sE_4 hE j c hj).1 (hP ?_))
  refine qm_go 1 (fun P hP => And.intro (pk_charN (Nat.lt_trans (sE_4 hE j c hj).2.1 (by decide))).1 h)
theorem sE_5 {σ : qm_Sg} (h : sE σ) : ∀ (j c : Nat), ([112, 107, 118, 111, 108, 109] : List Nat)[j]? = some c → σ.1 102 5 j = nI c ∧ c < 128 ∧ j < 6
  | 0, c, e => by cases e; exact ⟨by rw [h.2 5 0 (by omega)]; rfl, by omega, by omega⟩
  | 1, c, e => by cases e; exact ⟨by rw [h.2 5 1 (by omega)]; rfl, by omega, by omega⟩
  | 2, c, e => by cases e; exact ⟨by rw [h.2 5 2 (by omega)]; rfl, by omega, by omega⟩
  | 3, c, e => by cases e; exact ⟨by rw [h.2 5 3 (by omega)]; rfl, by omega, by omega⟩
  | 4, c, e => by cases e; exact ⟨by rw [h.2 5 4 (by omega)]; rfl, by omega, by omega⟩
  | 5, c, e => by cases e; exact ⟨by rw [h.2 5 5 (by omega)]; rfl, by omega, by omega⟩
  | j + 6, c, e => by cases e
theorem c_len5 {d : Nat} (hd : 2 ≤ d) {σ : qm_Sg} {Q : qm_Po}  (hE : sE σ) (h : Q σ (some (vI (nI 6)))) : qm_M d 3 [vR 101 5] σ Q := by
  obtain ⟨d, rfl, hd⟩ := qm_dn hd
  show qm_Wp (qm_M d) qk_3 Q 0 [some (vR 101 5)] [] σ
  refine qm_go 5 (fun P hP => c_coder (by omega) (hE.1 _) (hP ?_))
  refine qm_go 1 (fun P hP => hP ?_)
  rw [shr0]
  refine qm_go 1 (fun P hP => h)
theorem c_ixl5 {d : Nat} {σ : qm_Sg} {Q : qm_Po} {c : Nat} (hE : sE σ) (hc : c < 128) : ∀ (l : List Nat) (j : Nat), ([112, 107, 118, 111, 108, 109] : List Nat).drop j = l → j ≤ 6 → Q σ (some (vI (pzI (pzX c l j)))) → qm_Wp (qm_M d) qk_13 Q 5 [some (vR 102 5), some (vI (nI c)), some (vI 0), some (vI (nI 6)), some (vI (nI c)), some (vI (nI j))] [] σ
  | [], j, hl, hj, h => by
    have hj2 : j = 6 := by
      have := List.drop_eq_nil_iff.mp hl
      simp only [List.length_cons, List.length_nil] at this
      omega
    subst hj2
    refine qm_go 3 (fun P hP => And.intro (fun _ => hP ?_) (fun q => absurd (by decide) q))
    refine qm_go 2 (fun P hP => h)
  | x :: l, j, hl, hj, h => by
    obtain ⟨h1, h2, h3⟩ := ix_step hl
    obtain ⟨e1, e2, e3⟩ := sE_5 hE j x h1
    refine qm_go 3 (fun P hP => And.intro (fun q => absurd q (nI_ge e3 (by decide))) (fun _ => hP ?_))
    refine qm_go 3 (fun P hP => Exists.intro (j) (And.intro (And.intro (rfl) (e3)) (hP ?_)))
    rw [e1]
    unfold pzX at h
    by_cases q : x = c
    · rw [if_pos q] at h
      refine qm_go 2 (fun P hP => And.intro (fun z => absurd (by rw [q]) z) (fun _ => hP ?_))
      exact qm_go 2 (fun P hP => h)
    · rw [if_neg q] at h
      refine qm_go 2 (fun P hP => And.intro (fun _ => hP ?_) (fun z => absurd ((nI_eq (by omega) (by omega)).mp z) q))
      refine qm_go 2 (fun P hP => hP ?_)
      rw [nI_1]
      exact c_ixl5 hE hc l (j + 1) h2 (by omega) h
theorem c_ixc5 {d : Nat} (hd : 1 ≤ d) {σ : qm_Sg} {Q : qm_Po} {c : Nat} (hE : sE σ) (hc : c < 128) (h : Q σ (some (vI (pzI (pzX c [112, 107, 118, 111, 108, 109] 0))))) : qm_M d 13 [vR 102 5, vI (nI c), vI 0, vI (nI 6)] σ Q := by
  obtain ⟨d, rfl, hd⟩ := qm_dn hd
  show qm_Wp (qm_M d) qk_13 Q 0 [some (vR 102 5), some (vI (nI c)), some (vI 0), some (vI (nI 6)), none, none] [] σ
  refine qm_go 2 (fun P hP => hP ?_)
  rw [chr_b c hc]
  refine qm_go 3 (fun P hP => hP ?_)
  exact c_ixl5 hE hc _ 0 rfl (by omega) h
theorem c_ixb5 {d : Nat} (hd : 2 ≤ d) {σ : qm_Sg} {Q : qm_Po} {c : Nat} (hE : sE σ) (hc : c < 128) (h : Q σ (some (vI (pzI (pzX c [112, 107, 118, 111, 108, 109] 0))))) : qm_M d 12 [vR 102 5, vI (nI c), vI 0, vI (nI 6)] σ Q := by
  obtain ⟨d, rfl, hd⟩ := qm_dn hd
  show qm_Wp (qm_M d) qk_12 Q 0 [some (vR 102 5), some (vI (nI c)), some (vI 0), some (vI (nI 6))] [] σ
  refine qm_go 2 (fun P hP => c_canE (by omega) hc (hP ?_))
  refine qm_go 1 (fun P hP => And.intro (fun _ => hP ?_) (fun c => absurd c (by decide)))
  refine qm_go 3 (fun P hP => hP ?_)
  rw [show (if (0 : Int32) < 0 then (0 : Int32) else 0) = 0 from by decide]
  refine qm_go 5 (fun P hP => hP ?_)
  rw [show (if nI (qm_cN 102 5) < nI 6 then nI (qm_cN 102 5) else nI 6) = nI 6 from by decide]
  refine qm_go 4 (fun P hP => And.intro (fun _ => hP ?_) (fun c => absurd (by decide) c))
  refine qm_go 5 (fun P hP => c_ixc5 (by omega) hE hc (hP ?_))
  refine qm_go 1 (fun P hP => h)
theorem c_ixa5 {d : Nat} (hd : 3 ≤ d) {σ : qm_Sg} {Q : qm_Po} {c : Nat} (hE : sE σ) (hc : c < 128) (h : Q σ (some (vI (pzI (pzX c [112, 107, 118, 111, 108, 109] 0))))) : qm_M d 6 [vR 101 5, vI (nI c), vI 0] σ Q := by
  obtain ⟨d, rfl, hd⟩ := qm_dn hd
  show qm_Wp (qm_M d) qk_6 Q 0 [some (vR 101 5), some (vI (nI c)), some (vI 0)] [] σ
  refine qm_go 2 (fun P hP => c_latin (by omega) (hE.1 _) (hP ?_))
  refine qm_go 1 (fun P hP => And.intro (fun c => absurd c (by decide)) (fun _ => hP ?_))
  refine qm_go 6 (fun P hP => c_len5 (by omega) hE (hP ?_))
  refine qm_go 1 (fun P hP => c_ixb5 (by omega) hE hc (hP ?_))
  refine qm_go 2 (fun P hP => h)
theorem c_ix5 {d : Nat} (hd : 4 ≤ d) {σ : qm_Sg} {Q : qm_Po} {c : Nat} (hE : sE σ) (hc : c < 128) (h : Q σ (some (vI (pzI (pzX c [112, 107, 118, 111, 108, 109] 0))))) : qm_M d 5 [vR 101 5, vI (nI c)] σ Q := by
  obtain ⟨d, rfl, hd⟩ := qm_dn hd
  show qm_Wp (qm_M d) qk_5 Q 0 [some (vR 101 5), some (vI (nI c))] [] σ
  refine qm_go 4 (fun P hP => c_ixa5 (by omega) hE hc (hP ?_))
  refine qm_go 1 (fun P hP => h)
theorem sE_6 {σ : qm_Sg} (h : sE σ) : ∀ (j c : Nat), ([60, 61, 62] : List Nat)[j]? = some c → σ.1 102 6 j = nI c ∧ c < 128 ∧ j < 3
  | 0, c, e => by cases e; exact ⟨by rw [h.2 6 0 (by omega)]; rfl, by omega, by omega⟩
  | 1, c, e => by cases e; exact ⟨by rw [h.2 6 1 (by omega)]; rfl, by omega, by omega⟩
  | 2, c, e => by cases e; exact ⟨by rw [h.2 6 2 (by omega)]; rfl, by omega, by omega⟩
  | j + 3, c, e => by cases e
theorem c_len6 {d : Nat} (hd : 2 ≤ d) {σ : qm_Sg} {Q : qm_Po}  (hE : sE σ) (h : Q σ (some (vI (nI 3)))) : qm_M d 3 [vR 101 6] σ Q := by
  obtain ⟨d, rfl, hd⟩ := qm_dn hd
  show qm_Wp (qm_M d) qk_3 Q 0 [some (vR 101 6)] [] σ
  refine qm_go 5 (fun P hP => c_coder (by omega) (hE.1 _) (hP ?_))
  refine qm_go 1 (fun P hP => hP ?_)
  rw [shr0]
  refine qm_go 1 (fun P hP => h)
theorem c_ixl6 {d : Nat} {σ : qm_Sg} {Q : qm_Po} {c : Nat} (hE : sE σ) (hc : c < 128) : ∀ (l : List Nat) (j : Nat), ([60, 61, 62] : List Nat).drop j = l → j ≤ 3 → Q σ (some (vI (pzI (pzX c l j)))) → qm_Wp (qm_M d) qk_13 Q 5 [some (vR 102 6), some (vI (nI c)), some (vI 0), some (vI (nI 3)), some (vI (nI c)), some (vI (nI j))] [] σ
  | [], j, hl, hj, h => by
    have hj2 : j = 3 := by
      have := List.drop_eq_nil_iff.mp hl
      simp only [List.length_cons, List.length_nil] at this
      omega
    subst hj2
    refine qm_go 3 (fun P hP => And.intro (fun _ => hP ?_) (fun q => absurd (by decide) q))
    refine qm_go 2 (fun P hP => h)
  | x :: l, j, hl, hj, h => by
    obtain ⟨h1, h2, h3⟩ := ix_step hl
    obtain ⟨e1, e2, e3⟩ := sE_6 hE j x h1
    refine qm_go 3 (fun P hP => And.intro (fun q => absurd q (nI_ge e3 (by decide))) (fun _ => hP ?_))
    refine qm_go 3 (fun P hP => Exists.intro (j) (And.intro (And.intro (rfl) (e3)) (hP ?_)))
    rw [e1]
    unfold pzX at h
    by_cases q : x = c
    · rw [if_pos q] at h
      refine qm_go 2 (fun P hP => And.intro (fun z => absurd (by rw [q]) z) (fun _ => hP ?_))
      exact qm_go 2 (fun P hP => h)
    · rw [if_neg q] at h
      refine qm_go 2 (fun P hP => And.intro (fun _ => hP ?_) (fun z => absurd ((nI_eq (by omega) (by omega)).mp z) q))
      refine qm_go 2 (fun P hP => hP ?_)
      rw [nI_1]
      exact c_ixl6 hE hc l (j + 1) h2 (by omega) h
theorem c_ixc6 {d : Nat} (hd : 1 ≤ d) {σ : qm_Sg} {Q : qm_Po} {c : Nat} (hE : sE σ) (hc : c < 128) (h : Q σ (some (vI (pzI (pzX c [60, 61, 62] 0))))) : qm_M d 13 [vR 102 6, vI (nI c), vI 0, vI (nI 3)] σ Q := by
  obtain ⟨d, rfl, hd⟩ := qm_dn hd
  show qm_Wp (qm_M d) qk_13 Q 0 [some (vR 102 6), some (vI (nI c)), some (vI 0), some (vI (nI 3)), none, none] [] σ
  refine qm_go 2 (fun P hP => hP ?_)
  rw [chr_b c hc]
  refine qm_go 3 (fun P hP => hP ?_)
  exact c_ixl6 hE hc _ 0 rfl (by omega) h
theorem c_ixb6 {d : Nat} (hd : 2 ≤ d) {σ : qm_Sg} {Q : qm_Po} {c : Nat} (hE : sE σ) (hc : c < 128) (h : Q σ (some (vI (pzI (pzX c [60, 61, 62] 0))))) : qm_M d 12 [vR 102 6, vI (nI c), vI 0, vI (nI 3)] σ Q := by
  obtain ⟨d, rfl, hd⟩ := qm_dn hd
  show qm_Wp (qm_M d) qk_12 Q 0 [some (vR 102 6), some (vI (nI c)), some (vI 0), some (vI (nI 3))] [] σ
  refine qm_go 2 (fun P hP => c_canE (by omega) hc (hP ?_))
  refine qm_go 1 (fun P hP => And.intro (fun _ => hP ?_) (fun c => absurd c (by decide)))
  refine qm_go 3 (fun P hP => hP ?_)
  rw [show (if (0 : Int32) < 0 then (0 : Int32) else 0) = 0 from by decide]
  refine qm_go 5 (fun P hP => hP ?_)
  rw [show (if nI (qm_cN 102 6) < nI 3 then nI (qm_cN 102 6) else nI 3) = nI 3 from by decide]
  refine qm_go 4 (fun P hP => And.intro (fun _ => hP ?_) (fun c => absurd (by decide) c))
  refine qm_go 5 (fun P hP => c_ixc6 (by omega) hE hc (hP ?_))
  refine qm_go 1 (fun P hP => h)
theorem c_ixa6 {d : Nat} (hd : 3 ≤ d) {σ : qm_Sg} {Q : qm_Po} {c : Nat} (hE : sE σ) (hc : c < 128) (h : Q σ (some (vI (pzI (pzX c [60, 61, 62] 0))))) : qm_M d 6 [vR 101 6, vI (nI c), vI 0] σ Q := by
  obtain ⟨d, rfl, hd⟩ := qm_dn hd
  show qm_Wp (qm_M d) qk_6 Q 0 [some (vR 101 6), some (vI (nI c)), some (vI 0)] [] σ
  refine qm_go 2 (fun P hP => c_latin (by omega) (hE.1 _) (hP ?_))
  refine qm_go 1 (fun P hP => And.intro (fun c => absurd c (by decide)) (fun _ => hP ?_))
  refine qm_go 6 (fun P hP => c_len6 (by omega) hE (hP ?_))
  refine qm_go 1 (fun P hP => c_ixb6 (by omega) hE hc (hP ?_))
  refine qm_go 2 (fun P hP => h)
theorem c_ix6 {d : Nat} (hd : 4 ≤ d) {σ : qm_Sg} {Q : qm_Po} {c : Nat} (hE : sE σ) (hc : c < 128) (h : Q σ (some (vI (pzI (pzX c [60, 61, 62] 0))))) : qm_M d 5 [vR 101 6, vI (nI c)] σ Q := by
  obtain ⟨d, rfl, hd⟩ := qm_dn hd
  show qm_Wp (qm_M d) qk_5 Q 0 [some (vR 101 6), some (vI (nI c))] [] σ
  refine qm_go 4 (fun P hP => c_ixa6 (by omega) hE hc (hP ?_))
  refine qm_go 1 (fun P hP => h)
theorem sE_7 {σ : qm_Sg} (h : sE σ) : ∀ (j c : Nat), ([41] : List Nat)[j]? = some c → σ.1 102 7 j = nI c ∧ c < 128 ∧ j < 1
  | 0, c, e => by cases e; exact ⟨by rw [h.2 7 0 (by omega)]; rfl, by omega, by omega⟩
  | j + 1, c, e => by cases e
theorem c_len7 {d : Nat} (hd : 2 ≤ d) {σ : qm_Sg} {Q : qm_Po}  (hE : sE σ) (h : Q σ (some (vI (nI 1)))) : qm_M d 3 [vR 101 7] σ Q := by
  obtain ⟨d, rfl, hd⟩ := qm_dn hd
  show qm_Wp (qm_M d) qk_3 Q 0 [some (vR 101 7)] [] σ
  refine qm_go 5 (fun P hP => c_coder (by omega) (hE.1 _) (hP ?_))
  refine qm_go 1 (fun P hP => hP ?_)
  rw [shr0]
  refine qm_go 1 (fun P hP => h)
theorem c_cha7 {d : Nat} (hd : 3 ≤ d) {σ : qm_Sg} {Q : qm_Po} {j c : Nat} (hj : j < 1) (hc : c < 128) (hv : σ.1 102 7 j = nI c) (h : Q σ (some (vI (nI c)))) : qm_M d 10 [vR 102 7, vI (nI j)] σ Q := by
  obtain ⟨d, rfl, hd⟩ := qm_dn hd
  show qm_Wp (qm_M d) qk_10 Q 0 [some (vR 102 7), some (vI (nI j))] [] σ
  refine qm_go 4 (fun P hP => c_ckA (by omega) hj (by decide) (hP ?_))
  refine qm_go 3 (fun P hP => Exists.intro (j) (And.intro (And.intro (rfl) (hj)) (hP ?_)))
  rw [hv]
  refine qm_go 3 (fun P hP => hP ?_)
  rw [chr_a c hc]
  refine qm_go 1 (fun P hP => And.intro (pk_charN (by omega)).1 h)
theorem c_chr7 {d : Nat} (hd : 4 ≤ d) {σ : qm_Sg} {Q : qm_Po} {j c : Nat} (hE : sE σ) (hj : ([41] : List Nat)[j]? = some c) (h : Q σ (some (vI (nI c)))) : qm_M d 4 [vR 101 7, vI (nI j)] σ Q := by
  obtain ⟨d, rfl, hd⟩ := qm_dn hd
  show qm_Wp (qm_M d) qk_4 Q 0 [some (vR 101 7), some (vI (nI j))] [] σ
  refine qm_go 2 (fun P hP => c_latin (by omega) (hE.1 _) (hP ?_))
  refine qm_go 1 (fun P hP => And.intro (fun c => absurd c (by decide)) (fun _ => hP ?_))
  refine qm_go 4 (fun P hP => c_cha7 (by omega) (sE_7 hE j c hj).2.2 (sE_7 hE j c hj).2.1 (sE_7 hE j c hj).1 (hP ?_))
  refine qm_go 1 (fun P hP => And.intro (pk_charN (Nat.lt_trans (sE_7 hE j c hj).2.1 (by decide))).1 h)
