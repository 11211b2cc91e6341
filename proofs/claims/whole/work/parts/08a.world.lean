abbrev qm_Pr : Type := va_G × (Nat → Nat → Nat) × (Nat → ClassId) × (Nat → Prop) × (Nat → Nat) × (Nat → Nat) × Value × Nat × Nat × (Nat → Int32)
abbrev gD (G : qm_Pr) : va_G := G.1
abbrev gAd (G : qm_Pr) : Nat → Nat → Nat := G.2.1
abbrev gTy (G : qm_Pr) : Nat → ClassId := G.2.2.1
abbrev gA (G : qm_Pr) : Nat → Prop := G.2.2.2.1
abbrev gK (G : qm_Pr) : Nat → Nat := G.2.2.2.2.1
abbrev gV (G : qm_Pr) : Nat → Nat := G.2.2.2.2.2.1
abbrev gU (G : qm_Pr) : Value := G.2.2.2.2.2.2.1
abbrev gB (G : qm_Pr) : Nat := G.2.2.2.2.2.2.2.1
abbrev gL (G : qm_Pr) : Nat := G.2.2.2.2.2.2.2.2.1
abbrev gX (G : qm_Pr) : Nat → Int32 := G.2.2.2.2.2.2.2.2.2
def qm_cells : List (Nat × Nat) := qm_ts.flatMap (fun t => (List.range (qm_cI t)).map (fun i => (t, i)))
def qm_rv (G : qm_Pr) (t i : Nat) : Value := bif Nat.blt t 100 then .ref (gAd G t i) else bif Nat.beq t 100 then .ref (gB G) else bif Nat.beq t 101 then .ref (gK G i) else bif Nat.beq t 102 then .ref (gV G i) else gU G
def qm_cv (G : qm_Pr) (v : qm_AV) : Value := match v with
  | .inl (.inl x) => .int x
  | .inl (.inr x) => .long x
  | .inr (t, i) => qm_rv G t i
def qm_fv (G : qm_Pr) (σ : qm_Sg) (t i j : Nat) : Value := match qm_cR t i j with
  | some q => qm_rv G q.1 q.2
  | none => .int (σ.1 t i j)
def qm_ce (G : qm_Pr) (σ : qm_Sg) (t i : Nat) : va_E :=
  bif Nat.ble (qm_cK t) 19 then .inr (qm_cK t, (List.range (qm_cN t i)).map (qm_fv G σ t i))
  else bif Nat.ble (qm_cK t) 22 then .inl (gTy G (qm_cK t), qm_cN t i, .inl (σ.1 t i))
  else bif Nat.beq (qm_cK t) 23 then .inl (gTy G (qm_cK t), qm_cN t i, .inr (.inl (σ.2 t i)))
  else .inl (gTy G (qm_cK t), qm_cN t i, .inr (.inr (.inr (.inr (fun j => (qm_cR t i j).map (fun q => gAd G q.1 q.2))))))
def qm_ws (G : qm_Pr) (σ : qm_Sg) : va_W := qm_cells.map (fun q => (gAd G q.1 q.2, qm_ce G σ q.1 q.2))
def qm_ty (G : qm_Pr) : List (ClassId × FieldType) := [(gTy G 20, .int), (gTy G 21, .byte), (gTy G 22, .boolean), (gTy G 23, .long), (gTy G 24, .object "SnoozeRow$Sleeper"), (gTy G 25, .object "SnoozeRow$Street"), (gTy G 26, .array .long)]
def qm_ok (t i : Nat) : Bool := qm_cells.contains (t, i) || (Nat.beq t 100 && Nat.beq i 0) || (Nat.beq t 101 && Nat.blt i 8) || (Nat.beq t 102 && Nat.blt i 8) || (Nat.beq t 105 && Nat.beq i 0)
def qm_okV (v : qm_AV) : Prop := match v with
  | .inr (t, i) => qm_ok t i = true
  | _ => True
def qm_okL (L : qm_Lo) : Prop := ∀ v, some v ∈ L → qm_okV v
def qm_okS (st : List qm_AV) : Prop := ∀ v ∈ st, qm_okV v
def qm_Es (G : qm_Pr) (σ : qm_Sg) : Prop := (∀ i : Nat, σ.1 101 i 1 = 0) ∧ (∀ i j : Nat, i < 8 → σ.1 102 i j = (qm_sB.getD i []).getD j 0) ∧ (∀ j : Nat, σ.1 100 0 j = gX G j) ∧ σ.1 100 1 0 = nI (gL G)
def qm_Ex (G : qm_Pr) (U : State) : Prop :=
  (∀ i : Nat, i < 8 → ∃ tx, vk_R "SnoozeRow$Street" (qm_sx i) tx (gK G i) U) ∧ vk_S 8 qm_sN qm_sB (gK G) (gV G) (gA G) U U.heap ∧
  va_Z "java/lang/String" "COMPACT_STRINGS" "Z" (.int 1) (gA G) U U.heap ∧ va_Z "jdk/internal/util/Preconditions" "SIOOBE_FORMATTER" "Ljava/util/function/BiFunction;" (gU G) (gA G) U U.heap ∧
  (va_X (gB G) (gL G) (gX G) U U.heap ∧ gB G < U.heap.size ∧ ¬ gA G (gB G)) ∧ (∀ q ∈ qm_NC, va_Nc (qm_oS q.1) (qm_oS q.2) U) ∧ (∀ q ∈ qm_CT, va_Nw (.castable (qm_oS q.1) (qm_oS q.2.1)) U)
def qm_Ga (G : qm_Pr) : Prop := (∀ q ∈ qm_cells, gA G (gAd G q.1 q.2)) ∧ (∀ q ∈ qm_cells, ∀ r ∈ qm_cells, gAd G q.1 q.2 = gAd G r.1 r.2 → q = r) ∧ ((gU G = .null) ∨ ∃ t, gU G = .ref t) ∧ gL G < 2 ^ 31
theorem qm_nodup : qm_cells.Nodup := by decide +kernel
theorem qm_cells_lt : ∀ q ∈ qm_cells, q.1 < 100 := by decide +kernel
theorem qm_refs_ok : ∀ q ∈ qm_cells, ∀ j, j < qm_cN q.1 q.2 → ∀ r, qm_cR q.1 q.2 j = some r → r ∈ qm_cells := by decide +kernel
theorem qm_nd_inj {α : Type} {l : List α} (h : l.Nodup) {i j : Nat} {a : α} (hi : l[i]? = some a) (hj : l[j]? = some a) : i = j :=
  (List.getElem?_inj (List.getElem?_eq_some_iff.mp hi).1 h).mp (hi.trans hj.symm)
theorem qm_at {t i : Nat} (h : (t, i) ∈ qm_cells) : ∃ k : Nat, qm_cells[k]? = some (t, i) := List.getElem?_of_mem h
theorem qm_ws_at {G : qm_Pr} {σ : qm_Sg} {k : Nat} {t i : Nat} (h : qm_cells[k]? = some (t, i)) : (qm_ws G σ)[k]? = some (gAd G t i, qm_ce G σ t i) := by
  unfold qm_ws
  rw [List.getElem?_map, h]
  rfl
theorem qm_ws_set {G : qm_Pr} {σ σ' : qm_Sg} {k : Nat} {t i : Nat} (h : qm_cells[k]? = some (t, i)) (ho : ∀ q ∈ qm_cells, q ≠ (t, i) → qm_ce G σ' q.1 q.2 = qm_ce G σ q.1 q.2) : (qm_ws G σ).set k (gAd G t i, qm_ce G σ' t i) = qm_ws G σ' := by
  have hl : k < qm_cells.length := (List.getElem?_eq_some_iff.mp h).1
  apply List.ext_getElem?
  intro j
  by_cases hj : j = k
  · subst hj
    rw [List.getElem?_set_self (by unfold qm_ws; rw [List.length_map]; exact hl), qm_ws_at h]
  · rw [List.getElem?_set_ne (Ne.symm hj)]
    cases hc : qm_cells[j]? with
    | none => unfold qm_ws; rw [List.getElem?_map, List.getElem?_map, hc]; rfl
    | some q =>
      obtain ⟨a, b⟩ := q
      rw [qm_ws_at hc, qm_ws_at hc, ho (a, b) (List.mem_of_getElem? hc) (fun e => hj (qm_nd_inj qm_nodup (by rw [hc, e]) h))]
theorem qm_ws_D {G : qm_Pr} (hG : qm_Ga G) (σ : qm_Sg) : va_D (gA G) (qm_ws G σ) := by
  have key : ∀ (k : Nat) (q : Nat × va_E), (qm_ws G σ)[k]? = some q → ∃ c, qm_cells[k]? = some c ∧ q.1 = gAd G c.1 c.2 := by
    intro k q hk
    unfold qm_ws at hk
    rw [List.getElem?_map] at hk
    cases hc : qm_cells[k]? with
    | none => rw [hc] at hk; cases hk
    | some c => rw [hc] at hk; cases hk; exact ⟨c, rfl, rfl⟩
  refine ⟨fun i j p q hi hj e => ?_, fun k q hk => ?_⟩
  · obtain ⟨c, h1, e1⟩ := key i p hi
    obtain ⟨d, h2, e2⟩ := key j q hj
    have := hG.2.1 c (List.mem_of_getElem? h1) d (List.mem_of_getElem? h2) (by rw [← e1, ← e2, e])
    subst this
    exact qm_nd_inj qm_nodup h1 h2
  · obtain ⟨c, h1, e1⟩ := key k q hk
    rw [e1]
    exact hG.1 c (List.mem_of_getElem? h1)
theorem qm_ce_wF {G : qm_Pr} {σ : qm_Sg} {t i : Nat} {f : Nat → Int32} {q : Nat × Nat} (h : q ≠ (t, i)) : qm_ce G (wF σ t i f) q.1 q.2 = qm_ce G σ q.1 q.2 := by
  have e : (wF σ t i f).1 q.1 q.2 = σ.1 q.1 q.2 := by
    unfold wF
    by_cases h1 : q.1 = t
    · by_cases h2 : q.2 = i
      · exact absurd (Prod.ext h1 h2) h
      · simp [h2]
    · simp [h1]
  unfold qm_ce qm_fv
  rw [e]
  rfl
theorem qm_ce_wG {G : qm_Pr} {σ : qm_Sg} {t i : Nat} {f : Nat → Int64} {q : Nat × Nat} (h : q ≠ (t, i)) : qm_ce G (wG σ t i f) q.1 q.2 = qm_ce G σ q.1 q.2 := by
  have e : (wG σ t i f).2 q.1 q.2 = σ.2 q.1 q.2 := by
    unfold wG
    by_cases h1 : q.1 = t
    · by_cases h2 : q.2 = i
      · exact absurd (Prod.ext h1 h2) h
      · simp [h2]
    · simp [h1]
  unfold qm_ce qm_fv
  rw [e]
  rfl
theorem wF_same (σ : qm_Sg) (t i : Nat) (f : Nat → Int32) : (wF σ t i f).1 t i = f := by unfold wF; simp
theorem wG_same (σ : qm_Sg) (t i : Nat) (f : Nat → Int64) : (wG σ t i f).2 t i = f := by unfold wG; simp
theorem qm_Es_wF {G : qm_Pr} {σ : qm_Sg} {t i : Nat} {f : Nat → Int32} (ht : t < 100) (h : qm_Es G σ) : qm_Es G (wF σ t i f) := by
  have e : ∀ a : Nat, 100 ≤ a → (wF σ t i f).1 a = σ.1 a := by
    intro a ha
    unfold wF
    have : ¬ a = t := by omega
    simp [this]
  obtain ⟨h1, h2, h3, h4⟩ := h
  exact ⟨fun i => by rw [e 101 (by omega)]; exact h1 i, fun i j hi => by rw [e 102 (by omega)]; exact h2 i j hi, fun j => by rw [e 100 (by omega)]; exact h3 j, by rw [e 100 (by omega)]; exact h4⟩
theorem qm_Es_wG {G : qm_Pr} {σ : qm_Sg} {t i : Nat} {f : Nat → Int64} (h : qm_Es G σ) : qm_Es G (wG σ t i f) := h
