def kbxL : List (List Nat) := [[0], [1], [2], [3], [12], [11], [103], [104, 105, 106, 107, 108, 109], [110], [111], [49, 67, 85], [50, 68, 86], [51, 69, 87], [52, 70, 88], [53, 71, 89], [54, 72, 90], [55, 73, 91], [56, 74, 92], [57, 75, 93], [58, 76, 94], [59, 77, 95], [60, 78, 96], [61, 79, 97], [62, 80, 98], [63, 81, 99], [64, 82, 100], [65, 83, 101], [66, 84, 102], [13, 19, 25, 31, 37, 43], [14, 20, 26, 32, 38, 44], [15, 21, 27, 33, 39, 45], [16, 22, 28, 34, 40, 46], [17, 23, 29, 35, 41, 47], [18, 24, 30, 36, 42, 48], [4], [5], [6], [7], [8], [9], [10], [], [], [], [], [], [], [], [], [], [112], [113], [114], [115], [116], [117], [118], [119], [120], [121], [122], [123], [124], [125], [126], [127], [128], [129], [130], [131], [132], [133], [134], [135], [136], [137], [138], [139], [140], [141], [142], [143], [144], [145], [146], [147], [148], [149], [150], [151], [152], [153]]
def kbx (t i : Nat) : Nat := (kbxL.getD t []).getD i 0
def kbz (t i : Nat) : List (Nat × Int32) := match t with
  | 8 => [(5, (-1)), (4, (-1)), (3, (-1)), (2, (-1)), (1, (-1)), (0, (-1))]
  | 10 => [(11, (-1))]
  | 16 => [(0, 5)]
  | 20 => [(0, 10)]
  | 24 => [(0, 8)]
  | 50 => [(10, (-1)), (43, (-1))]
  | 64 => [(11, 114), (10, 97), (9, 101), (8, 98), (7, 110), (6, 111), (5, 111), (4, 115), (3, 101), (2, 116), (1, 97), (0, 108)]
  | 88 => [(5, (-1)), (4, (-1)), (3, (-1)), (2, (-1)), (1, (-1)), (0, (-1))]
  | _ => []
def dnK (rs : List (Nat × Nat)) (j : Nat) : Option Nat := match rs with
  | [] => none
  | (k, v) :: l => bif Nat.beq j k then some v else dnK l j
theorem dnK_e (ad : List Nat) : ∀ (rs : List (Nat × Nat)) (j : Nat), dnR ad rs j = (dnK rs j).map (fun k => ad.getD k 0)
  | [], _ => rfl
  | (k, v) :: l, j => by
    show va_up (dnR ad l) k _ j = (bif Nat.beq j k then some v else dnK l j).map _
    unfold va_up
    by_cases e : j = k
    · rw [if_pos e, Nat.beq_eq.mpr e]
      rfl
    · rw [if_neg e, dnK_e ad l j]
      cases hb : Nat.beq j k
      · rfl
      · exact absurd (Nat.beq_eq.mp hb) e
def kbM (h : List kbC) (q : Nat × Nat) : Bool := match h[kbx q.1 q.2]? with
  | some (.inl (ci, fs)) => Nat.beq (qm_cK q.1) ci && (Nat.ble ci 12 && (Nat.beq fs.length (qm_cN q.1 q.2) && (List.range fs.length).all (fun j => match qm_cR q.1 q.2 j, fs[j]? with
    | some r, some (some (.inr k)) => Nat.beq k (kbx r.1 r.2) && Nat.blt r.1 100
    | none, some (some (.inl x)) => decide (x = dnI (kbz q.1 q.2) j)
    | _, _ => false)))
  | some (.inr (K, N, is, rs)) => Nat.beq (qm_cK q.1) K && (Nat.beq N (qm_cN q.1 q.2) && (Nat.ble 20 K && (Nat.ble K 26 && (bif Nat.ble K 22 then decide (is = kbz q.1 q.2) else bif Nat.beq K 23 then true else (List.range N).all (fun j => match qm_cR q.1 q.2 j, dnK rs j with
    | some r, some k => Nat.beq k (kbx r.1 r.2)
    | _, _ => false)))))
  | none => false
def kbHc (h : List kbC) : Bool := Nat.beq h.length 154 && qm_cells.all (kbM h)
def kbH1 (h : List kbC) : Bool := Nat.beq h.length 112 && h.all (kb_okC h.length)
set_option maxRecDepth 100000 in
theorem kb_fin1 : (match kb_h1 with
  | some h => kbH1 h
  | none => false) = true := by decide +kernel
set_option maxRecDepth 100000 in
theorem kb_fin2 : (match kb_h2 with
  | some h => kbHc h
  | none => false) = true := by decide +kernel
set_option maxRecDepth 100000 in
theorem kbx_lt : ∀ q ∈ qm_cells, kbx q.1 q.2 < 154 ∧ q.1 < 100 := by decide +kernel
set_option maxRecDepth 100000 in
theorem kbx_nd : (qm_cells.map (fun q => kbx q.1 q.2)).Nodup := by decide +kernel
theorem kb_end : ∃ h h2, kb_h1 = some h ∧ h.length = 112 ∧ h.all (kb_okC h.length) = true ∧ kbX 400 13 41 1821 0 0 0 (kb_as 1 [.inr 112]) [] (h ++ [.inl (12, kb_nl 12)]) = some h2 ∧ h2.length = 154 ∧ ∀ q ∈ qm_cells, kbM h2 q = true := by
  have h1 := kb_fin1
  have h2 := kb_fin2
  cases e1 : kb_h1 with
  | none => rw [e1] at h1; cases h1
  | some h =>
    rw [e1] at h1
    unfold kb_h2 at h2
    rw [e1] at h2
    cases e2 : kbX 400 13 41 1821 0 0 0 (kb_as 1 [.inr 112]) [] (h ++ [.inl (12, kb_nl 12)]) with
    | none => dsimp only at h2; rw [e2] at h2; cases h2
    | some h9 =>
      dsimp only at h2
      rw [e2] at h2
      have h1 : kbH1 h = true := h1
      have h2 : kbHc h9 = true := h2
      unfold kbH1 at h1
      unfold kbHc at h2
      rw [Bool.and_eq_true] at h1 h2
      exact ⟨h, h9, rfl, Nat.beq_eq.mp h1.1, h1.2, e2, Nat.beq_eq.mp h2.1, List.all_eq_true.mp h2.2⟩
def kbσ (xs : Nat → Int32) (L : Nat) : qm_Sg := (fun t i => bif Nat.ble 100 t then (bif Nat.beq t 100 then (bif Nat.beq i 0 then xs else fun _ => nI L) else bif Nat.beq t 102 then fun j => (qm_sB.getD i []).getD j 0 else fun _ => 0) else dnI (kbz t i), fun _ _ _ => 0)
theorem kbσ_lo {xs : Nat → Int32} {L t : Nat} (h : t < 100) (i : Nat) : (kbσ xs L).1 t i = dnI (kbz t i) := by
  show (bif Nat.ble 100 t then _ else dnI (kbz t i)) = _
  cases hb : Nat.ble 100 t
  · rfl
  · have := Nat.ble_eq.mp hb
    omega
def kbG (D : va_G) (ty : Nat → ClassId) (A : Nat → Prop) (ad : List Nat) (adK adV : Nat → Nat) (U : Value) (b L : Nat) (xs : Nat → Int32) : qm_Pr := (D, (fun t i => ad.getD (kbx t i) 0), ty, A, adK, adV, U, b, L, xs)
theorem arrV_cg {cI : ClassId} {N : Nat} {f g : Nat → Value} (h : ∀ j, j < N → f j = g j) : arrV cI N f = arrV cI N g := by
  unfold arrV
  congr 1
  apply congrArg
  funext j
  exact h j.val j.isLt
theorem kb_world {D : va_G} {ty : Nat → ClassId} {A : Nat → Prop} {ad : List Nat} {adK adV : Nat → Nat} {U : Value} {b L : Nat} {xs : Nat → Int32} {h : List kbC} {H : Heap} (hr : kbR D ty A ad h H) (hM : ∀ q ∈ qm_cells, kbM h q = true) : va_P D vwCl (qm_ws (kbG D ty A ad adK adV U b L xs) (kbσ xs L)) H := by
  obtain ⟨hl, hP, hD⟩ := hr
  intro k q hq
  unfold qm_ws at hq
  rw [List.getElem?_map] at hq
  obtain ⟨⟨t, i⟩, hti, e⟩ := Option.map_eq_some_iff.mp hq
  subst e
  have hmem := List.mem_of_getElem? hti
  have hlt : t < 100 := (kbx_lt _ hmem).2
  have hm := hM _ hmem
  unfold kbM at hm
  dsimp only at hm
  split at hm
  · rename_i ci fs hc
    simp only [Bool.and_eq_true, Nat.beq_eq, Nat.ble_eq] at hm
    obtain ⟨m1, m2, m3, m4⟩ := hm
    have hat := hP _ _ (kbW_get hl hc)
    have e1 : qm_ce (kbG D ty A ad adK adV U b L xs) (kbσ xs L) t i = kbE ty ad (.inl (ci, fs)) := by
      rw [qm_ce_O (by omega)]
      show Sum.inr (_, _) = Sum.inr (_, _)
      rw [m1]
      congr 2
      rw [← m3]
      apply List.ext_getElem?
      intro j
      rw [List.getElem?_map, List.getElem?_map]
      by_cases hj : j < fs.length
      · rw [List.getElem?_range hj]
        have m5 := List.all_eq_true.mp m4 j (List.mem_range.mpr hj)
        show some (qm_fv (kbG D ty A ad adK adV U b L xs) (kbσ xs L) t i j) = _
        unfold qm_fv
        split at m5
        · rename_i r k9 hR hf
          rw [Bool.and_eq_true] at m5
          have m6 := Nat.beq_eq.mp m5.1
          rw [hR, hf]
          show some (qm_rv _ r.1 r.2) = some (Value.ref (ad.getD k9 0))
          unfold qm_rv
          rw [m5.2, m6]
          rfl
        · rename_i x9 hR hf
          have m6 := of_decide_eq_true m5
          rw [hR, hf]
          show some (Value.int ((kbσ xs L).1 t i j)) = some (Value.int x9)
          rw [kbσ_lo hlt, m6]
        · cases m5
      · rw [List.getElem?_eq_none (by rw [List.length_range]; omega), List.getElem?_eq_none (by omega)]
        rfl
    rw [e1]
    exact hat
  · rename_i K N is9 rs9 hc
    simp only [Bool.and_eq_true, Nat.beq_eq, Nat.ble_eq] at hm
    obtain ⟨m1, m2, m3, m4, m5⟩ := hm
    have hat := hP _ _ (kbW_get hl hc)
    have hcase : K ≤ 22 ∨ K = 23 ∨ (K = 24 ∨ K = 25 ∨ K = 26) := by omega
    rcases hcase with hK | hK | hK
    · rw [Nat.ble_eq.mpr hK] at m5
      have m6 : is9 = kbz t i := of_decide_eq_true m5
      have e1 : qm_ce (kbG D ty A ad adK adV U b L xs) (kbσ xs L) t i = kbE ty ad (.inr (K, N, is9, rs9)) := by
        rw [qm_ce_I (by omega), kbσ_lo hlt, m1, ← m2, ← m6]
        show _ = Sum.inl (ty K, N, (bif Nat.ble K 22 then _ else _))
        rw [Nat.ble_eq.mpr hK]
        rfl
      rw [e1]
      exact hat
    · subst hK
      have e1 : qm_ce (kbG D ty A ad adK adV U b L xs) (kbσ xs L) t i = kbE ty ad (.inr (23, N, is9, rs9)) := by
        rw [qm_ce_J m1, ← m2]
        rfl
      rw [e1]
      exact hat
    · have m6 : (List.range N).all (fun j => match qm_cR t i j, dnK rs9 j with
        | some r, some k => Nat.beq k (kbx r.1 r.2)
        | _, _ => false) = true := by
        rcases hK with rfl | rfl | rfl <;> exact m5
      show va_at D vwCl (ad.getD (kbx t i) 0, qm_ce (kbG D ty A ad adK adV U b L xs) (kbσ xs L) t i) H
      have m1 : qm_cK t = K := m1
      have m2 : N = qm_cN t i := m2
      rw [qm_ce_R (by omega), m1, ← m2]
      have hat2 : H[ad.getD (kbx t i) 0]? = some (arrV (ty K) N (fun j => va_rf (dnR ad rs9 j))) := by
        rcases hK with rfl | rfl | rfl <;> exact hat
      show H[ad.getD (kbx t i) 0]? = some (arrV (ty K) N (fun j => va_rf ((qm_cR t i j).map (fun q => ad.getD (kbx q.1 q.2) 0))))
      rw [hat2]
      congr 1
      refine arrV_cg (fun j hj => ?_)
      have m7 := List.all_eq_true.mp m6 j (List.mem_range.mpr hj)
      rw [dnK_e]
      split at m7
      · rename_i r k9 hR hd
        rw [hR, hd, Nat.beq_eq.mp m7]
        rfl
      · cases m7
  · cases hm
theorem kb_inj {D : va_G} {ty : Nat → ClassId} {A : Nat → Prop} {ad : List Nat} {h : List kbC} {H : Heap} (hr : kbR D ty A ad h H) {i j : Nat} (hi : i < h.length) (hj : j < h.length) (e : ad.getD i 0 = ad.getD j 0) : i = j := by
  obtain ⟨hl, hP, hD⟩ := hr
  exact hD.1 i j _ _ (kbW_get hl (List.getElem?_eq_getElem hi)) (kbW_get hl (List.getElem?_eq_getElem hj)) e
theorem kb_nd2 {α β : Type} (f : α → β) : ∀ (l : List α), (l.map f).Nodup → ∀ a ∈ l, ∀ b ∈ l, f a = f b → a = b
  | [], _, a, ha, _, _, _ => by cases ha
  | x :: l, h, a, ha, b, hb, e => by
    rw [List.map_cons, List.nodup_cons] at h
    rcases List.mem_cons.mp ha with ea | ha2
    · rcases List.mem_cons.mp hb with eb | hb2
      · rw [ea, eb]
      · exact (h.1 (List.mem_map.mpr ⟨b, hb2, by rw [← e, ea]⟩)).elim
    · rcases List.mem_cons.mp hb with eb | hb2
      · exact (h.1 (List.mem_map.mpr ⟨a, ha2, by rw [e, eb]⟩)).elim
      · exact kb_nd2 f l h.2 a ha2 b hb2 e
theorem kb_Ga {D : va_G} {ty : Nat → ClassId} {A : Nat → Prop} {ad : List Nat} {adK adV : Nat → Nat} {U : Value} {b L : Nat} {xs : Nat → Int32} {h : List kbC} {H : Heap} (hr : kbR D ty A ad h H) (hlen : h.length = 154) (hU : (U = .null) ∨ ∃ t, U = .ref t) (hL : L ≤ 3072) : qm_Ga (kbG D ty A ad adK adV U b L xs) := by
  refine ⟨fun q hq => ?_, fun q hq r hr9 e => ?_, hU, ?_⟩
  · have hlt := (kbx_lt q hq).1
    exact hr.2.2.2 _ _ (kbW_get hr.1 (List.getElem?_eq_getElem (show kbx q.1 q.2 < h.length by omega)))
  · have e2 := kb_inj hr (show kbx q.1 q.2 < h.length by have := (kbx_lt q hq).1; omega) (show kbx r.1 r.2 < h.length by have := (kbx_lt r hr9).1; omega) e
    exact kb_nd2 (fun q => kbx q.1 q.2) _ kbx_nd q hq r hr9 e2
  · show L < 2 ^ 31
    omega
theorem kb_Es {D : va_G} {ty : Nat → ClassId} {A : Nat → Prop} {ad : List Nat} {adK adV : Nat → Nat} {U : Value} {b L : Nat} {xs : Nat → Int32} : qm_Es (kbG D ty A ad adK adV U b L xs) (kbσ xs L) := ⟨fun _ => rfl, fun _ _ _ => rfl, fun _ => rfl, rfl⟩
