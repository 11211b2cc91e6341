def kv (ad : List Nat) (v : kbV) : Value := match v with
  | .inl x => .int x
  | .inr k => .ref (ad.getD k 0)
def kvF (ad : List Nat) (v : kbF) : Value := match v with
  | none => .null
  | some v => kv ad v
def dnI : List (Nat × Int32) → Nat → Int32
  | [] => fun _ => 0
  | (k, x) :: l => upd (dnI l) k x
def dnR (ad : List Nat) : List (Nat × Nat) → Nat → Option Nat
  | [] => fun _ => none
  | (k, v) :: l => va_up (dnR ad l) k (some (ad.getD v 0))
def kbE (ty : Nat → ClassId) (ad : List Nat) (c : kbC) : va_E := match c with
  | .inl (ci, fs) => .inr (ci, fs.map (kvF ad))
  | .inr (K, N, is, rs) => .inl (ty K, N, bif Nat.ble K 22 then .inl (dnI is) else bif Nat.beq K 23 then .inr (.inl (fun _ => (0 : Int64))) else .inr (.inr (.inr (.inr (dnR ad rs)))))
def kbW (ty : Nat → ClassId) (ad : List Nat) (h : List kbC) : va_W := List.zipWith (fun a c => (a, kbE ty ad c)) ad h
def kbT (ty : Nat → ClassId) : List (ClassId × FieldType) := [(ty 20, .int), (ty 21, .byte), (ty 22, .boolean), (ty 23, .long), (ty 24, .object "SnoozeRow$Sleeper"), (ty 25, .object "SnoozeRow$Street"), (ty 26, .array .long)]
def kbR (D : va_G) (ty : Nat → ClassId) (A : Nat → Prop) (ad : List Nat) (h : List kbC) (H : Heap) : Prop := ad.length = h.length ∧ va_P D vwCl (kbW ty ad h) H ∧ va_D A (kbW ty ad h)
theorem gd_app {ad qs : List Nat} {k : Nat} (h : k < ad.length) : (ad ++ qs).getD k 0 = ad.getD k 0 := by
  rw [List.getD_eq_getElem?_getD, List.getD_eq_getElem?_getD, List.getElem?_append_left h]
theorem kv_app {ad qs : List Nat} {n : Nat} (hn : n ≤ ad.length) {v : kbV} (h : kb_ok1 n v = true) : kv (ad ++ qs) v = kv ad v := by
  rcases v with x | k
  · rfl
  · show Value.ref _ = Value.ref _
    rw [gd_app (Nat.lt_of_lt_of_le (Nat.blt_eq.mp h) hn)]
theorem kvF_app {ad qs : List Nat} {n : Nat} (hn : n ≤ ad.length) {v : kbF} (h : kb_okF n v = true) : kvF (ad ++ qs) v = kvF ad v := by
  cases v with
  | none => rfl
  | some v => exact kv_app hn h
theorem dnR_app {ad qs : List Nat} {n : Nat} (hn : n ≤ ad.length) : ∀ (rs : List (Nat × Nat)), rs.all (fun q => Nat.blt q.2 n) = true → dnR (ad ++ qs) rs = dnR ad rs
  | [], _ => rfl
  | (k, v) :: l, h => by
    rw [List.all_cons, Bool.and_eq_true] at h
    show va_up (dnR (ad ++ qs) l) k _ = va_up (dnR ad l) k _
    rw [dnR_app hn l h.2, gd_app (Nat.lt_of_lt_of_le (Nat.blt_eq.mp h.1) hn)]
theorem kbE_app {ty : Nat → ClassId} {ad qs : List Nat} {n : Nat} (hn : n ≤ ad.length) {c : kbC} (h : kb_okC n c = true) : kbE ty (ad ++ qs) c = kbE ty ad c := by
  rcases c with ⟨ci, fs⟩ | ⟨K, N, is, rs⟩
  · show Sum.inr (ci, fs.map _) = Sum.inr (ci, fs.map _)
    rw [List.map_congr_left (fun v hv => kvF_app hn (List.all_eq_true.mp h v hv))]
  · show Sum.inl _ = Sum.inl _
    rw [dnR_app hn rs h]
theorem kbW_get {ty : Nat → ClassId} {ad : List Nat} {h : List kbC} (hl : ad.length = h.length) {k : Nat} {c : kbC} (hc : h[k]? = some c) : (kbW ty ad h)[k]? = some (ad.getD k 0, kbE ty ad c) := by
  have hk : k < ad.length := by rw [hl]; exact (List.getElem?_eq_some_iff.mp hc).1
  unfold kbW
  rw [List.getElem?_zipWith, List.getD_eq_getElem?_getD, List.getElem?_eq_getElem hk, hc]
  rfl
theorem kbW_set {ty : Nat → ClassId} {ad : List Nat} {h : List kbC} (hl : ad.length = h.length) {k : Nat} (hk : k < h.length) (c : kbC) : (kbW ty ad h).set k (ad.getD k 0, kbE ty ad c) = kbW ty ad (h.set k c) := by
  apply List.ext_getElem?
  intro j
  have hlw : (kbW ty ad h).length = h.length := by unfold kbW; rw [List.length_zipWith]; omega
  by_cases e : j = k
  · subst e
    rw [List.getElem?_set_self (by omega)]
    exact (kbW_get (by rw [List.length_set]; exact hl) (List.getElem?_set_self hk)).symm
  · rw [List.getElem?_set_ne (Ne.symm e)]
    unfold kbW
    rw [List.getElem?_zipWith, List.getElem?_zipWith, List.getElem?_set_ne (Ne.symm e)]
theorem kbW_app {ty : Nat → ClassId} {ad qs : List Nat} {h cs : List kbC} (hl : ad.length = h.length) (hok : h.all (kb_okC h.length) = true) : kbW ty (ad ++ qs) (h ++ cs) = kbW ty ad h ++ List.zipWith (fun a c => (a, kbE ty (ad ++ qs) c)) qs cs := by
  unfold kbW
  rw [List.zipWith_append hl]
  congr 1
  apply List.ext_getElem?
  intro j
  rw [List.getElem?_zipWith, List.getElem?_zipWith]
  cases ha : ad[j]? with
  | none => rfl
  | some a =>
    cases hc : h[j]? with
    | none => rfl
    | some c =>
      show some (a, kbE ty (ad ++ qs) c) = some (a, kbE ty ad c)
      rw [kbE_app (n := h.length) (by omega) (List.all_eq_true.mp hok c (List.mem_of_getElem? hc))]
theorem kbR.set {D : va_G} {ty : Nat → ClassId} {A : Nat → Prop} {ad : List Nat} {h : List kbC} {H1 : Heap} (hl : ad.length = h.length) {k : Nat} (hk : k < h.length) (c : kbC) (hP : va_P D vwCl ((kbW ty ad h).set k (ad.getD k 0, kbE ty ad c)) H1) (hD : va_D A ((kbW ty ad h).set k (ad.getD k 0, kbE ty ad c))) : kbR D ty A ad (h.set k c) H1 := by
  rw [kbW_set hl hk] at hP hD
  exact ⟨by rw [List.length_set]; exact hl, hP, hD⟩
theorem kbR.push {D : va_G} {ty : Nat → ClassId} {A : Nat → Prop} {ad : List Nat} {h : List kbC} {H1 : Heap} (hl : ad.length = h.length) (hok : h.all (kb_okC h.length) = true) {q : Nat} {c : kbC} {x : va_E} (hx : kbE ty (ad ++ [q]) c = x) (hP : va_P D vwCl (kbW ty ad h ++ [(q, x)]) H1) (hD : va_D A (kbW ty ad h ++ [(q, x)])) : kbR D ty A (ad ++ [q]) (h ++ [c]) H1 := by
  subst hx
  have e : kbW ty (ad ++ [q]) (h ++ [c]) = kbW ty ad h ++ [(q, kbE ty (ad ++ [q]) c)] := kbW_app hl hok
  exact ⟨by rw [List.length_append, List.length_append, hl]; rfl, by rw [e]; exact hP, by rw [e]; exact hD⟩
def kbLV (ad : List Nat) (ls : Array Slot) (nL : Nat) (L : List kbF) : Prop := L.length = nL ∧ ls.size = nL ∧ lv_wf ls ∧ ∀ (i : Nat) (v : kbV), L[i]? = some (some v) → ls[i]? = some (.val (kv ad v))
theorem kbLV.app {ad qs : List Nat} {ls : Array Slot} {nL n : Nat} {L : List kbF} (h : kbLV ad ls nL L) (hn : n ≤ ad.length) (hok : L.all (kb_okF n) = true) : kbLV (ad ++ qs) ls nL L := by
  obtain ⟨h1, h2, h3, h4⟩ := h
  exact ⟨h1, h2, h3, fun i v hi => by
    rw [kv_app hn (v := v) (List.all_eq_true.mp hok (some v) (List.mem_of_getElem? hi))]
    exact h4 i v hi⟩
def kbs (ad : List Nat) (L : List kbF) : List (Nat × Value) := (List.range L.length).filterMap (fun j => match L[j]? with
  | some (some v) => some (j, kv ad v)
  | _ => none)
theorem kbs_mem {ad : List Nat} {L : List kbF} {j : Nat} {x : Value} : (j, x) ∈ kbs ad L ↔ ∃ v, L[j]? = some (some v) ∧ x = kv ad v := by
  unfold kbs
  rw [List.mem_filterMap]
  constructor
  · rintro ⟨i, -, h⟩
    cases hi : L[i]? with
    | none => rw [hi] at h; cases h
    | some o =>
      rw [hi] at h
      cases o with
      | none => cases h
      | some v => cases h; exact ⟨v, hi, rfl⟩
  · rintro ⟨v, h, rfl⟩
    exact ⟨j, List.mem_range.mpr (List.getElem?_eq_some_iff.mp h).1, by rw [h]⟩
theorem kbLV.has {ad : List Nat} {ls : Array Slot} {nL : Nat} {L : List kbF} (h : kbLV ad ls nL L) : lv_has ls nL (kbs ad L) := by
  obtain ⟨h1, h2, h3, h4⟩ := h
  refine ⟨h2, h3, fun q hq => ?_⟩
  obtain ⟨v, e1, e2⟩ := kbs_mem.mp (show (q.1, q.2) ∈ kbs ad L from hq)
  rw [e2]
  exact h4 _ _ e1
theorem kv_cat {ad : List Nat} (v : kbV) : (kv ad v).category = 1 := by
  rcases v with x | k <;> rfl
theorem kbLV.st {ad : List Nat} {ls' : Array Slot} {nL : Nat} {L : List kbF} {n : Nat} {v : kbV} (hlen : L.length = nL) (h : lv_has ls' nL ((n, kv ad v) :: (kbs ad L).filter (fun q => !(q.1 == n) && !(q.1 + 1 == n && q.2.category == 2)))) (hn : n < L.length) : kbLV ad ls' nL (L.set n (some v)) := by
  obtain ⟨h1, h2, h3⟩ := h
  refine ⟨by rw [List.length_set]; exact hlen, h1, h2, fun i w hi => ?_⟩
  by_cases e : i = n
  · subst e
    rw [List.getElem?_set_self hn] at hi
    cases hi
    exact h3 (i, kv ad v) List.mem_cons_self
  · rw [List.getElem?_set_ne (Ne.symm e)] at hi
    refine h3 (i, kv ad w) (List.mem_cons_of_mem _ (List.mem_filter.mpr ⟨kbs_mem.mpr ⟨w, hi, rfl⟩, ?_⟩))
    simp only [Bool.and_eq_true, Bool.not_eq_true', beq_eq_false_iff_ne, Bool.and_eq_false_iff]
    exact ⟨e, Or.inr (by rw [kv_cat]; decide)⟩
theorem kv_sl (ad : List Nat) : ∀ as : List kbV, lg_sl (as.map (kv ad)) = as.map (fun v => Slot.val (kv ad v))
  | [] => rfl
  | v :: l => by
    show (if (kv ad v).category = 2 then _ else [Slot.val (kv ad v)]) ++ lg_sl (l.map (kv ad)) = _
    rw [if_neg (by rw [kv_cat]; decide), kv_sl ad l]
    rfl
theorem kbLV.entry {ad : List Nat} {n : Nat} {as : List kbV} (hn : as.length ≤ n) : kbLV ad ((lg_sl (as.map (kv ad)) ++ List.replicate (n - (lg_sl (as.map (kv ad))).length) Slot.unset).toArray) n (kb_as n as) := by
  have hl := lv_entry (as.map (kv ad)) (n := n) (by rw [kv_sl, List.length_map]; exact hn)
  refine ⟨by unfold kb_as; rw [List.length_append, List.length_map, List.length_replicate]; omega, hl.1, hl.2.1, fun i v hi => ?_⟩
  have hi2 : i < as.length := by
    by_cases q : i < as.length
    · exact q
    · unfold kb_as at hi
      rw [List.getElem?_append_right (by rw [List.length_map]; omega)] at hi
      have := List.mem_of_getElem? hi
      cases (List.mem_replicate.mp this).2
  unfold kb_as at hi
  rw [List.getElem?_append_left (by rw [List.length_map]; exact hi2), List.getElem?_map] at hi
  obtain ⟨w, hw, e⟩ := Option.map_eq_some_iff.mp hi
  cases e
  rw [kv_sl, List.getElem?_toArray, List.getElem?_append_left (by rw [List.length_map]; exact hi2), List.getElem?_map, hw]
  rfl
def kbpc (K : List kbI) (n : Nat) : Nat := match qm_nt K n with
  | some e => e.2.1
  | none => 0
def kbEx (U : State) : Prop := va_AO "SnoozeRow$Sleeper" U ∧ va_AO "SnoozeRow$Street" U ∧ (Cond.arrayOver (.array .long)).before #[] U = true ∧ (∀ q ∈ qm_CT, va_Nw (.castable (qm_oS q.1) (qm_oS q.2.1)) U) ∧ va_Nw (.methodLinkNest "SnoozeRow" 11 (kby 0) "SnoozeRow") U
def kbWd (D : va_G) (ty : Nat → ClassId) (A : Nat → Prop) (ad : List Nat) (h : List kbC) (U : State) : Prop := kbR D ty A ad h U.heap ∧ va_K D vwCl (kbT ty) U ∧ kbEx U ∧ ∀ q, U.heap.size ≤ q → A q
def kbQc (D : va_G) (ty : Nat → ClassId) (A : Nat → Prop) (ad : List Nat) (h1 : List kbC) : Array Value → State → Outcome → State → Prop := fun _ st o t => (o = .returned none ∧ ∃ qs, kbR D ty A (ad ++ qs) h1 t.heap) ∧ va_F A st t
def kbrm (n mc ms : Nat) : Room := { frames := n, cells := mc, slots := ms, locals := 60 * n }
def kbWm (id : Nat) : List Cond := .code (kby id) (kbc id) (kbN id) none :: qm_gt
def kbMt (l : Launch) (D : va_G) (ty : Nat → ClassId) (A : Nat → Prop) (n : Nat) : Prop := ∀ (id mc ms : Nat) (as : List kbV) (h h1 : List kbC), id ≤ 13 → as.length ≤ kbN id → kbX n id mc ms 0 0 0 (kb_as (kbN id) as) [] h = some h1 → ∀ ad, Met l (kby id) (kbWm id) (kbrm (n + 1) mc ms) (va_Pc (as.map (kv ad)) (kbWd D ty A ad h)) (kbQc D ty A ad h1) mc ms A
