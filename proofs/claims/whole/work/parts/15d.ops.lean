def fedC (L : Nat) (s9 : Int32) : Nat := if inP s9 128 then (if L = 100 then 4 else 0) else 2
def fedX (X : Nat × (Nat → Nat)) (s9 : Int32) : Nat × (Nat → Nat) := if fedC X.1 s9 = 0 then (X.1 + 1, fun j => if j = X.1 then tN s9 else X.2 j) else X
theorem fed_c {X : Nat × (Nat → Nat)} {s9 : Int32} {c : Nat} (h : fedC X.1 s9 = c) (h9 : c ≠ 9) (h0 : c ≠ 0) : slV (fedC X.1 s9) X.1 = -nI c ∧ fedX X s9 = X := by
  unfold fedX slV
  rw [h, if_neg h9, if_neg h0, if_neg h0]
  exact ⟨rfl, rfl⟩
theorem fed_0 {X : Nat × (Nat → Nat)} {s9 : Int32} (h : fedC X.1 s9 = 0) : slV (fedC X.1 s9) X.1 = nI (X.1 + 1) ∧ fedX X s9 = (X.1 + 1, fun j => if j = X.1 then tN s9 else X.2 j) := by
  unfold fedX slV
  rw [h, if_neg (by decide), if_pos rfl, if_pos rfl]
  exact ⟨rfl, rfl⟩
theorem w_txt {Z : SS9} {X : Nat × (Nat → Nat)} (h : wS Z) (hx : X.1 ≤ 100 ∧ ∀ j, j < X.1 → X.2 j < 128) : wS (Z.1, Z.2.1, Z.2.2.1, X, Z.2.2.2.2) := ⟨h.1, h.2.1, h.2.2.1, hx, h.2.2.2.2⟩
theorem w_feed {Z : SS9} {s9 : Int32} (h : wS Z) : wS (Z.1, Z.2.1, Z.2.2.1, fedX Z.2.2.2.1 s9, Z.2.2.2.2) := by
  suffices key : (fedX Z.2.2.2.1 s9).1 ≤ 100 ∧ ∀ j, j < (fedX Z.2.2.2.1 s9).1 → (fedX Z.2.2.2.1 s9).2 j < 128 from w_txt h key
  obtain ⟨-, -, -, ⟨h1, h2⟩, -⟩ := h
  by_cases w1 : inP s9 128
  · by_cases w2 : Z.2.2.2.1.1 = 100
    · rw [(fed_c (c := 4) ((if_pos w1).trans (if_pos w2)) (by decide) (by decide)).2]
      exact ⟨h1, h2⟩
    · rw [(fed_0 (X := Z.2.2.2.1) (s9 := s9) ((if_pos w1).trans (if_neg w2))).2]
      obtain ⟨c, hc, e⟩ := w1
      refine ⟨show Z.2.2.2.1.1 + 1 ≤ 100 by omega, fun j hj => ?_⟩
      have hj : j < Z.2.2.2.1.1 + 1 := hj
      show (if j = Z.2.2.2.1.1 then tN s9 else Z.2.2.2.1.2 j) < 128
      split
      · rw [e, tN_nI (by omega)]; exact hc
      · exact h2 j (by omega)
  · rw [(fed_c (X := Z.2.2.2.1) (s9 := s9) (c := 2) (if_neg w1) (by decide) (by decide)).2]
    exact ⟨h1, h2⟩
theorem oc_feed {d : Nat} (hd : 30 ≤ d) {σ : qm_Sg} {Q : qm_Po} {Z : SS9} {s9 : Int32} (hI9 : cI σ Z) (hW : wS Z) (h : ∀ σ', FC σ σ' → cI σ' (Z.1, Z.2.1, Z.2.2.1, fedX Z.2.2.2.1 s9, Z.2.2.2.2) → Q σ' (some (vI (slV (fedC Z.2.2.2.1.1 s9) Z.2.2.2.1.1)))) : qm_M d 70 [vR 0 0, vI s9] σ Q := by
  refine c_feed (by omega) hI9.2.2.2.1.1 hW.2.2.2.1.1 (fun w1 => ?_) (fun w1 w2 => ?_) (fun c e hc hL σ1 F1 k1 k2 => ?_)
  · have z := fed_c (X := Z.2.2.2.1) (s9 := s9) (c := 2) (if_neg w1) (by decide) (by decide)
    rw [z.1, z.2] at h
    exact h σ FC.rf hI9
  · have z := fed_c (X := Z.2.2.2.1) (s9 := s9) (c := 4) ((if_pos w1).trans (if_pos w2)) (by decide) (by decide)
    rw [z.1, z.2] at h
    exact h σ FC.rf hI9
  · have z := fed_0 (X := Z.2.2.2.1) (s9 := s9) ((if_pos ⟨c, hc, e⟩).trans (if_neg (by omega)))
    rw [z.1, z.2] at h
    have G : FrL (fun t i j => (t = 5 ∧ j = Z.2.2.2.1.1) ∨ (t = 0 ∧ j = 8)) (fun _ => False) σ σ1 := FrL.of F1
    refine h σ1 (FC.ofL G (fun t i j q => by omega) (fun t q a => a)) ⟨hI9.1.fr G (fun t i j q => by omega), hI9.2.1.fr G (fun t i j q => by omega), hI9.2.2.1.fr G (fun t i j q => by omega), ⟨k2, fun j hj => ?_⟩, hI9.2.2.2.2.1.fr G (fun t i j q => by omega), hI9.2.2.2.2.2.1.fr G (fun t i j q => by omega) (fun a => a), hI9.2.2.2.2.2.2.fr G (fun t i j q => by omega)⟩
    have hj : j < Z.2.2.2.1.1 + 1 := hj
    show σ1.1 5 0 j = nI (if j = Z.2.2.2.1.1 then tN s9 else Z.2.2.2.1.2 j)
    by_cases ej : j = Z.2.2.2.1.1
    · rw [if_pos ej, ej, k1, e, tN_nI (by omega)]
    · rw [if_neg ej, F1.1 _ _ _ (by omega)]
      exact hI9.2.2.2.1.2 j (by omega)
theorem om_feed {d : Nat} (hd : 30 ≤ d) {σ : qm_Sg} {Q : qm_Po} {Z : SS9} {s9 : Int32} (hI9 : mI σ Z) (hW : wS Z) (h : ∀ σ', FM σ σ' → mI σ' (Z.1, Z.2.1, Z.2.2.1, fedX Z.2.2.2.1 s9, Z.2.2.2.2) → Q σ' (some (vI (slV (fedC Z.2.2.2.1.1 s9) Z.2.2.2.1.1)))) : qm_M d 122 [vR 50 0, vI s9] σ Q := by
  refine m_feed (by omega) hI9.2.2.2.1.1 hW.2.2.2.1.1 (fun w1 => ?_) (fun w1 w2 => ?_) (fun c e hc hL σ1 F1 k1 k2 => ?_)
  · have z := fed_c (X := Z.2.2.2.1) (s9 := s9) (c := 2) (if_neg w1) (by decide) (by decide)
    rw [z.1, z.2] at h
    exact h σ FM.rf hI9
  · have z := fed_c (X := Z.2.2.2.1) (s9 := s9) (c := 4) ((if_pos w1).trans (if_pos w2)) (by decide) (by decide)
    rw [z.1, z.2] at h
    exact h σ FM.rf hI9
  · have z := fed_0 (X := Z.2.2.2.1) (s9 := s9) ((if_pos ⟨c, hc, e⟩).trans (if_neg (by omega)))
    rw [z.1, z.2] at h
    have G : FrL (fun t i j => (t = 56 ∧ j = Z.2.2.2.1.1) ∨ (t = 50 ∧ j = 11)) (fun _ => False) σ σ1 := FrL.of F1
    refine h σ1 (FM.ofL G (fun t i j q => by omega) (fun t q a => a)) ⟨hI9.1.fr G (fun t i j q => by omega), hI9.2.1.fr G (fun t i j q => by omega), hI9.2.2.1.fr G (fun t i j q => by omega), ⟨k2, fun j hj => ?_⟩, hI9.2.2.2.2.1.fr G (fun t i j q => by omega), hI9.2.2.2.2.2.1.fr G (fun t i j q => by omega) (fun a => a), hI9.2.2.2.2.2.2.fl G (fun t i j q => by omega)⟩
    have hj : j < Z.2.2.2.1.1 + 1 := hj
    show σ1.1 56 0 j = nI (if j = Z.2.2.2.1.1 then tN s9 else Z.2.2.2.1.2 j)
    by_cases ej : j = Z.2.2.2.1.1
    · rw [if_pos ej, ej, k1, e, tN_nI (by omega)]
    · rw [if_neg ej, F1.1 _ _ _ (by omega)]
      exact hI9.2.2.2.1.2 j (by omega)
theorem oc_image {d : Nat} (hd : 30 ≤ d) {σ : qm_Sg} {Q : qm_Po} {Z : SS9} (hI9 : cI σ Z) (hW : wS Z) (h : ∀ σ', FC σ σ' → cI σ' (Z.1, some Z.1, Z.2.2) → Q σ' (some (vI (nI Z.1.1.1)))) : qm_M d 86 [vR 0 0] σ Q :=
  c_image (by omega) hI9.1.1 hI9.1.2.1 hI9.1.2.2.1 (fun σ1 F1 s1 v1 e1 l1 k4 => by
    have G : FrL (fun t i j => tAll1 t i j ∨ (t = 0 ∧ j = 4)) (fun _ => False) σ σ1 := FrL.of F1
    exact h σ1 (FC.ofL G (fun t i j q => by unfold tAll1; omega) (fun t q a => a)) ⟨hI9.1.fr G (fun t i j q => by unfold tAll1; omega), Or.inr ⟨Z.1, rfl, k4, s1, v1, l1, by rw [e1]; exact hI9.1.2.2.2⟩, hI9.2.2.1.fr G (fun t i j q => by unfold tAll1; omega), hI9.2.2.2.1.fr G (fun t i j q => by unfold tAll1; omega), hI9.2.2.2.2.1.fr G (fun t i j q => by unfold tAll1; omega), hI9.2.2.2.2.2.1.fr G (fun t i j q => by unfold tAll1; omega) (fun a => a), hI9.2.2.2.2.2.2.fr G (fun t i j q => by unfold tAll1; omega)⟩)
theorem om_image {d : Nat} (hd : 30 ≤ d) {σ : qm_Sg} {Q : qm_Po} {Z : SS9} (hI9 : mI σ Z) (hW : wS Z) (h : ∀ σ', FM σ σ' → mI σ' (Z.1, some Z.1, Z.2.2) → Q σ' (some (vI (nI Z.1.1.1)))) : qm_M d 177 [vR 50 0] σ Q := by
  refine m_image (by omega) (fun σ1 F1 k42 k v6 v24 v5 v10 v8 => ?_)
  have G : FrL tIm (fun _ => False) σ σ1 := FrL.of F1
  obtain ⟨k1, k2, k3, k4, k5, k6, k7, k8⟩ := k
  obtain ⟨n1, n2, n3, n4, n5, n6⟩ := id hI9.1
  rw [n1.n]
  refine h σ1 (FM.ofL G (fun t i j q => by unfold tIm; omega) (fun t q a => a)) ⟨hI9.1.fr G (fun t i j q => by unfold tIm; omega), Or.inr ⟨Z.1, rfl, k42, ⟨k1.trans n6, k2.trans n1.n, k3.trans n1.aw, k4.trans n2.d, k5.trans n2.m⟩, ⟨fun j hj => (v6 j hj).1.trans (n1.kd j hj), fun j hj => (v6 j hj).2.1.trans (n1.vv j hj), fun j hj => (v6 j hj).2.2.1.trans (n2.o j hj), fun j hj => (v6 j hj).2.2.2.trans (n2.l j hj), fun j hj => (v24 j hj).trans (n1.rows j hj)⟩, ⟨k6.trans n3.1, n3.2.1, fun i q hq => ?_⟩, ⟨k7.trans n4.1, n4.2.1, fun i q hq => ?_⟩, k8.trans n5.1, n5.2.1, fun i q hq => ?_⟩, hI9.2.2.1.fr G (fun t i j q => by unfold tIm; omega), hI9.2.2.2.1.fr G (fun t i j q => by unfold tIm; omega), hI9.2.2.2.2.1.fr G (fun t i j q => by unfold tIm; omega), hI9.2.2.2.2.2.1.fr G (fun t i j q => by unfold tIm; omega) (fun a => a), hI9.2.2.2.2.2.2.fl G (fun t i j q => by unfold tIm; omega)⟩
  · have hi := (List.getElem?_eq_some_iff.mp hq).1
    have h5 := n3.2.1
    have v := v5 i (by omega)
    rw [v.1, v.2.1, v.2.2]
    exact n3.2.2 i q hq
  · have hi := (List.getElem?_eq_some_iff.mp hq).1
    have h5 := n4.2.1
    have v := v10 i (by omega)
    rw [v.1, v.2]
    exact n4.2.2 i q hq
  · have hi := (List.getElem?_eq_some_iff.mp hq).1
    have h5 := n5.2.1
    have v := v8 i (by omega)
    rw [v.1, v.2]
    exact n5.2.2 i q hq
theorem cSt_of {X : Nat} {σ : qm_Sg} {C : Nat × (Nat → CT9)} {o : Option Nat} (hC : ∀ s, s < C.1 → cRep σ s (C.2 s)) (hw : C.1 ≤ 6 ∧ ∀ s, s < C.1 → wfC (C.2 s)) (hh : ∀ s, o = some s → s < C.1) (e : σ.1 10 X 11 = hI o) : cSt X σ (hS9 C.2 o) (hB9 C.2 o) := by
  cases o with
  | none => exact Or.inl ⟨e, rfl, rfl⟩
  | some s =>
    have hs := hh s rfl
    exact Or.inr ⟨s, C.2 s, by omega, e, hC s hs, hw.2 s hs, rfl, rfl⟩
theorem mSt_of {σ : qm_Sg} {C : Nat × (Nat → CT9)} {o : Option Nat} (hC : ∀ s, s < C.1 → mRp σ s (C.2 s)) (hw : C.1 ≤ 6 ∧ ∀ s, s < C.1 → wfC (C.2 s)) (hh : ∀ s, o = some s → s < C.1) (e : σ.1 50 0 10 = hI o) : mSt σ (hS9 C.2 o) (hB9 C.2 o) := by
  cases o with
  | none => exact Or.inl ⟨e, rfl, rfl⟩
  | some s =>
    have hs := hh s rfl
    exact Or.inr ⟨s, C.2 s, by omega, e, (hC s hs).rep (by omega), hw.2 s hs, rfl, rfl⟩
theorem oc_undo {d : Nat} (hd : 30 ≤ d) {σ : qm_Sg} {Q : qm_Po} {Z : SS9} (hI9 : cI σ Z) (hW : wS Z) (h : ∀ σ', FC σ σ' → cI σ' (undZ Z) → Q σ' (some (vI (undV Z)))) : qm_M d 87 [vR 0 0] σ Q := by
  unfold undZ undV at h
  rcases hI9.2.1 with ⟨e, k⟩ | ⟨N, e, k, hN⟩
  · rw [e] at h
    exact c_undo0 (by omega) k (h σ FC.rf hI9)
  · rw [e] at h
    refine c_undo (by omega) k hN.1 hN.2.1 hN.2.2.1 (fun σ1 F1 s1 v1 e1 l1 => ?_)
    have z := hI9.up (N := N) F1 (fun t i j q => by unfold tAll0 at q; unfold tDo; omega) ⟨s1, v1, l1, by rw [e1]; exact hN.2.2.2⟩
    exact h σ1 z.1 z.2
theorem om_undo {d : Nat} (hd : 30 ≤ d) {σ : qm_Sg} {Q : qm_Po} {Z : SS9} (hI9 : mI σ Z) (hW : wS Z) (h : ∀ σ', FM σ σ' → mI σ' (undZ Z) → Q σ' (some (vI (undV Z)))) : qm_M d 178 [vR 50 0] σ Q := by
  unfold undZ undV at h
  rcases hI9.2.1 with ⟨e, k⟩ | ⟨N, e, k, hN⟩
  · rw [e] at h
    exact m_undo0 (by omega) k (h σ FM.rf hI9)
  · rw [e] at h
    refine m_undo (by omega) k (fun σ1 F1 k v6 v24 v5 v10 v8 => ?_)
    obtain ⟨⟨g1, g2, g3, g4, g5⟩, ⟨q1, q2, q3, q4, q5⟩, ⟨r1, r2, r3⟩, ⟨p1, p2, p3⟩, b1, b2, b3⟩ := hN
    obtain ⟨k1, k2, k3, k4, k5, k6, k7, k8⟩ := k
    have hw := hW.2.1 N e
    have G : FrL tUn (fun _ => False) σ σ1 := FrL.of F1
    have hS := hI9.2.2.1.fr G (fun t i j q => by unfold tUn; omega)
    have hst : mSt σ1 (hS9 Z.2.2.1.2 N.2.2.2.2.2) (hB9 Z.2.2.1.2 N.2.2.2.2.2) := mSt_of hS.2 hW.2.2.1 hw.1.2.2.2 (k1.trans g1)
    have hst2 : mSt σ1 N.1.2.2.2.2.2.1 N.1.2.2.2.2.2.2 := by rw [hw.1.2.2.1]; exact hst
    have z := hI9.up (N := N) F1 (fun t i j q => by unfold tUn at q; unfold tDm; omega) ⟨mS.mk9 (k2.trans g2) hw.1.1 (fun j hj => (v6 j hj).1.trans (q1 j hj)) (fun j hj => (v6 j hj).2.1.trans (q2 j hj)) (fun j hj => (v24 j hj).trans (q5 j hj)) (k3.trans g3) hw.1.2.1 hst2, mV.of (fun j hj => (v6 j hj).2.2.1.trans (q3 j hj)) (fun j hj => (v6 j hj).2.2.2.trans (q4 j hj)) (k4.trans g4) (k5.trans g5), ⟨k6.trans r1, r2, fun i q hq => by
      have hi := (List.getElem?_eq_some_iff.mp hq).1
      have v := v5 i (by omega)
      rw [v.1, v.2.1, v.2.2]
      exact r3 i q hq⟩, ⟨k7.trans p1, p2, fun i q hq => by
      have hi := (List.getElem?_eq_some_iff.mp hq).1
      have v := v10 i (by omega)
      rw [v.1, v.2]
      exact p3 i q hq⟩, ⟨k8.trans b1, b2, fun i q hq => by
      have hi := (List.getElem?_eq_some_iff.mp hq).1
      have v := v8 i (by omega)
      rw [v.1, v.2]
      exact b3 i q hq⟩, k1.trans g1⟩
    rw [g2]
    exact h σ1 z.1 z.2
def stN (N : DN9) (C : Nat × (Nat → CT9)) (o : Option Nat) : DN9 := ((N.1.1, N.1.2.1, N.1.2.2.1, N.1.2.2.2.1, N.1.2.2.2.2.1, hS9 C.2 o, hB9 C.2 o), N.2.1, N.2.2.1, N.2.2.2.1, N.2.2.2.2.1, o)
theorem stN_eq {N : DN9} {C : Nat × (Nat → CT9)} (h : N.1.2.2.2.2.2 = (hS9 C.2 N.2.2.2.2.2, hB9 C.2 N.2.2.2.2.2)) : stN N C N.2.2.2.2.2 = N := by
  unfold stN
  rw [← h]
theorem hS9_cg {C C' : Nat → CT9} {o : Option Nat} (h : ∀ s, o = some s → C' s = C s) : hS9 C' o = hS9 C o ∧ hB9 C' o = hB9 C o := by
  cases o with
  | none => exact ⟨rfl, rfl⟩
  | some s =>
    have e := h s rfl
    unfold hS9 hB9
    dsimp only
    rw [e]
    exact ⟨rfl, rfl⟩
theorem wDN.cg {C C' : Nat × (Nat → CT9)} {N : DN9} (h : wDN C N) (hl : C.1 ≤ C'.1) (he : ∀ s, s < C.1 → C'.2 s = C.2 s) : wDN C' N := by
  obtain ⟨⟨h1, h2, h3, h4⟩, h5⟩ := h
  have z := hS9_cg (C := C.2) (C' := C'.2) (o := N.2.2.2.2.2) (fun s e => he s (h4 s e))
  exact ⟨⟨h1, h2, by rw [z.1, z.2]; exact h3, fun s e => Nat.lt_of_lt_of_le (h4 s e) hl⟩, h5⟩
theorem wDN.st {C C' : Nat × (Nat → CT9)} {N : DN9} {o : Option Nat} (h : wDN C N) (hh : ∀ s, o = some s → s < C'.1) : wDN C' (stN N C' o) := by
  obtain ⟨⟨h1, h2, h3, h4⟩, h5⟩ := h
  exact ⟨⟨h1, h2, rfl, hh⟩, h5⟩
theorem cDN.st {X : Nat} {σ σ' : qm_Sg} {N : DN9} {T : Nat → Nat → Nat → Prop} {C : Nat × (Nat → CT9)} {o : Option Nat} (h : cDN X σ N) (F : Fr T σ σ') (hT : ∀ t i j, T t i j → ((28 ≤ t ∧ t ≤ 32) ∨ t < 10 ∨ (t = 10 ∧ j = 11))) (hC : ∀ s, s < C.1 → cRep σ' s (C.2 s)) (hw : C.1 ≤ 6 ∧ ∀ s, s < C.1 → wfC (C.2 s)) (hh : ∀ s, o = some s → s < C.1) (e : σ'.1 10 X 11 = hI o) : cDN X σ' (stN N C o) := by
  obtain ⟨h1, h2, h3, h4⟩ := h
  have g : ∀ t j, 10 ≤ t → t ≤ 27 → ¬ (t = 10 ∧ j = 11) → σ'.1 t X j = σ.1 t X j := fun t j a b c => F.1 _ _ _ (fun q => by have := hT _ _ _ q; omega)
  have g2 : ∀ t, 11 ≤ t → t ≤ 27 → σ'.1 t X = σ.1 t X := fun t a b => funext fun j => g t j (by omega) b (by omega)
  refine ⟨cS.mk9 (by rw [g 10 2 (by omega) (by omega) (by omega)]; exact h1.n) h1.le (by rw [g2 11 (by omega) (by omega)]; exact h1.kd) (by rw [g2 12 (by omega) (by omega)]; exact h1.vv) (by rw [g2 15 (by omega) (by omega)]; exact h1.rows) (by rw [g 10 7 (by omega) (by omega) (by omega)]; exact h1.aw) (fun p hp => h1.kind hp) (cSt_of hC hw hh e), cV.of (by rw [g2 13 (by omega) (by omega)]; exact h2.o) (by rw [g2 14 (by omega) (by omega)]; exact h2.l) (by rw [g 10 9 (by omega) (by omega) (by omega)]; exact h2.d) (by rw [g 10 10 (by omega) (by omega) (by omega)]; exact h2.m), h3.fr F (fun t i j a b c q => by have := hT _ _ _ q; omega), e⟩
theorem mDN.st {σ σ' : qm_Sg} {N : DN9} {T : Nat → Nat → Nat → Prop} {C : Nat × (Nat → CT9)} {o : Option Nat} (h : mDN σ N) (F : Fr T σ σ') (hT : ∀ t i j, T t i j → ((57 ≤ t ∧ t ≤ 63) ∨ (t = 50 ∧ (9 ≤ j ∧ j ≤ 24)))) (hC : ∀ s, s < C.1 → mRp σ' s (C.2 s)) (hw : C.1 ≤ 6 ∧ ∀ s, s < C.1 → wfC (C.2 s)) (hh : ∀ s, o = some s → s < C.1) (e : σ'.1 50 0 10 = hI o) : mDN σ' (stN N C o) := by
  obtain ⟨h1, h2, h3, h4, h5, h6⟩ := h
  have g : ∀ j, j ≤ 3 → σ'.1 50 0 j = σ.1 50 0 j := fun j a => F.1 _ _ _ (fun q => by have := hT _ _ _ q; omega)
  have g2 : ∀ t, 51 ≤ t → t ≤ 55 → σ'.1 t 0 = σ.1 t 0 := fun t a b => funext fun j => F.1 _ _ _ (fun q => by have := hT _ _ _ q; omega)
  refine ⟨mS.mk9 (by rw [g 0 (by omega)]; exact h1.n) h1.le (by rw [g2 51 (by omega) (by omega)]; exact h1.kd) (by rw [g2 52 (by omega) (by omega)]; exact h1.vv) (by rw [g2 55 (by omega) (by omega)]; exact h1.rows) (by rw [g 1 (by omega)]; exact h1.aw) (fun p hp => h1.kind hp) (mSt_of hC hw hh e), mV.of (by rw [g2 53 (by omega) (by omega)]; exact h2.o) (by rw [g2 54 (by omega) (by omega)]; exact h2.l) (by rw [g 2 (by omega)]; exact h2.d) (by rw [g 3 (by omega)]; exact h2.m), h3.fg F (fun t i j a q => by have := hT _ _ _ q; omega), h4.fg F (fun t i j a q => by have := hT _ _ _ q; omega), h5.fg F (fun t i j a q => by have := hT _ _ _ q; omega), e⟩
theorem cRep.at9 {T : Nat → Nat → Nat → Prop} {σ σ' : qm_Sg} {s : Nat} {c : CT9} (h : cRep σ s c) (hF : Fr T σ σ') (hT : ∀ t j, 28 ≤ t → t ≤ 32 → ¬ T t s j) : cRep σ' s c := by
  obtain ⟨h1, h2, h3, h4⟩ := h
  refine ⟨by rw [hF.1 _ _ _ (hT _ _ (by omega) (by omega))]; exact h1, by rw [hF.1 _ _ _ (hT _ _ (by omega) (by omega))]; exact h2, h3, fun i q hq => ?_⟩
  obtain ⟨a1, a2, a3, a4⟩ := h4 i q hq
  exact ⟨by rw [hF.1 _ _ _ (hT _ _ (by omega) (by omega))]; exact a1, by rw [hF.1 _ _ _ (hT _ _ (by omega) (by omega))]; exact a2, by rw [hF.1 _ _ _ (hT _ _ (by omega) (by omega))]; exact a3, fun k t ht => by rw [hF.1 _ _ _ (hT _ _ (by omega) (by omega))]; exact a4 k t ht⟩
def stC (C : Nat × (Nat → CT9)) (c : CT9) : Nat × (Nat → CT9) := (C.1 + 1, fun s => if s = C.1 then c else C.2 s)
def strZ (Z : SS9) (r : Nat × Option CT9) : SS9 := if Z.2.2.1.1 = 6 then Z else match r.2 with
  | none => (Z.1, Z.2.1, Z.2.2.1, (0, Z.2.2.2.1.2), Z.2.2.2.2)
  | some c => (stN Z.1 (stC Z.2.2.1 c) (some Z.2.2.1.1), Z.2.1, stC Z.2.2.1 c, (0, Z.2.2.2.1.2), Z.2.2.2.2)
def strV (Z : SS9) (r : Nat × Option CT9) : Int32 := if Z.2.2.1.1 = 6 then -4 else match r.2 with
  | none => -10 - nI r.1
  | some _ => nI Z.2.2.1.1
theorem str_6 {Z : SS9} {r : Nat × Option CT9} (h : Z.2.2.1.1 = 6) : strV Z r = -4 ∧ strZ Z r = Z := ⟨if_pos h, if_pos h⟩
theorem str_0 {Z : SS9} {b : Nat} (h : ¬ Z.2.2.1.1 = 6) : strV Z (b, none) = -10 - nI b ∧ strZ Z (b, none) = (Z.1, Z.2.1, Z.2.2.1, (0, Z.2.2.2.1.2), Z.2.2.2.2) := ⟨if_neg h, if_neg h⟩
theorem str_1 {Z : SS9} {b : Nat} {c : CT9} (h : ¬ Z.2.2.1.1 = 6) : strV Z (b, some c) = nI Z.2.2.1.1 ∧ strZ Z (b, some c) = (stN Z.1 (stC Z.2.2.1 c) (some Z.2.2.1.1), Z.2.1, stC Z.2.2.1 c, (0, Z.2.2.2.1.2), Z.2.2.2.2) := ⟨if_neg h, if_neg h⟩
theorem stC_ne {C : Nat × (Nat → CT9)} {c : CT9} {s : Nat} (h : s < C.1) : (stC C c).2 s = C.2 s := if_neg (by omega)
theorem stC_eq {C : Nat × (Nat → CT9)} {c : CT9} : (stC C c).2 C.1 = c := if_pos rfl
theorem w_str0 {Z : SS9} (h : wS Z) : wS (Z.1, Z.2.1, Z.2.2.1, (0, Z.2.2.2.1.2), Z.2.2.2.2) := ⟨h.1, h.2.1, h.2.2.1, ⟨Nat.zero_le _, fun j hj => absurd hj (Nat.not_lt_zero j)⟩, h.2.2.2.2⟩
theorem w_stC {C : Nat × (Nat → CT9)} {c : CT9} (h : C.1 < 6) (hw : ∀ s, s < C.1 → wfC (C.2 s)) (hc : wfC c) : (stC C c).1 ≤ 6 ∧ ∀ s, s < (stC C c).1 → wfC ((stC C c).2 s) := by
  refine ⟨h, fun s hs => ?_⟩
  have hs : s < C.1 + 1 := hs
  by_cases e : s = C.1
  · subst e
    rw [stC_eq]
    exact hc
  · rw [stC_ne (by omega)]
    exact hw s (by omega)
theorem w_str1 {Z : SS9} {c : CT9} (h : wS Z) (h6 : Z.2.2.1.1 < 6) (hc : wfC c) : wS (stN Z.1 (stC Z.2.2.1 c) (some Z.2.2.1.1), Z.2.1, stC Z.2.2.1 c, (0, Z.2.2.2.1.2), Z.2.2.2.2) :=
  ⟨h.1.st (fun s e => by cases e; exact Nat.lt_succ_self _), fun N e => (h.2.1 N e).cg (Nat.le_succ _) (fun s hs => stC_ne hs), w_stC h6 h.2.2.1.2 hc, ⟨Nat.zero_le _, fun j hj => absurd hj (Nat.not_lt_zero j)⟩, h.2.2.2.2⟩
theorem cImg.st {σ σ' : qm_Sg} {I : Option DN9} {T : Nat → Nat → Nat → Prop} {C : Nat × (Nat → CT9)} (h : cImg σ I) (F : Fr T σ σ') (hT : ∀ t i j, T t i j → ((28 ≤ t ∧ t ≤ 32) ∨ (t < 10 ∧ ¬ (t = 0 ∧ j = 4)) ∨ (t = 10 ∧ i = 0 ∧ j = 11))) (hC : ∀ s, s < C.1 → cRep σ' s (C.2 s)) (hw : C.1 ≤ 6 ∧ ∀ s, s < C.1 → wfC (C.2 s)) (hI9 : ∀ N, I = some N → wDN C N) : cImg σ' I := by
  rcases h with ⟨h1, h2⟩ | ⟨N, h1, h2, h3⟩
  · exact Or.inl ⟨h1, by rw [F.1 _ _ _ (fun q => by have := hT _ _ _ q; omega)]; exact h2⟩
  · have w := hI9 N h1
    have z := h3.st (C := C) (o := N.2.2.2.2.2) F (fun t i j q => by have := hT _ _ _ q; omega) hC hw w.1.2.2.2 (by rw [F.1 _ _ _ (fun q => by have := hT _ _ _ q; omega)]; exact h3.2.2.2)
    rw [stN_eq w.1.2.2.1] at z
    exact Or.inr ⟨N, h1, by rw [F.1 _ _ _ (fun q => by have := hT _ _ _ q; omega)]; exact h2, z⟩
theorem oc_street {d : Nat} (hd : 30 ≤ d) {σ : qm_Sg} {Q : qm_Po} {Z : SS9} (hI9 : cI σ Z) (hW : wS Z) (h : ∀ r σ', (Z.2.2.1.1 < 6 → pzL (pzS Z.2.2.2.1.2 Z.2.2.2.1.1) Z.2.2.2.1.1 10 0 [] r) → wS (strZ Z r) → FC σ σ' → cI σ' (strZ Z r) → Q σ' (some (vI (strV Z r)))) : qm_M d 71 [vR 0 0] σ Q := by
  refine c_street (by omega) (n := Z.2.2.1.1) (L := Z.2.2.2.1.1) (tx := Z.2.2.2.1.2) hI9.2.2.2.1.2 hI9.2.2.2.2.2.2.2.2.2 hW.2.2.2.1.1 hW.2.2.2.1.2 hW.2.2.1.1 hI9.2.2.1.1 hI9.2.2.2.1.1 (fun e => ?_) (fun h6 σ1 b F1 e8 e6 e11 hp => ?_) (fun h6 σ1 b c F1 e8 e6 e11 hp hr hc => ?_)
  · have h9 := h (0, none) σ (fun q => by omega)
    rw [(str_6 e).1, (str_6 e).2] at h9
    exact h9 hW FC.rf hI9
  · have G : FrL (tS1 Z.2.2.1.1) (fun _ => False) σ σ1 := FrL.of F1
    have h9 := h (b, none) σ1 (fun _ => hp)
    rw [(str_0 (by omega)).1, (str_0 (by omega)).2] at h9
    have hC : ∀ s, s < Z.2.2.1.1 → cRep σ1 s (Z.2.2.1.2 s) := fun s hs => (hI9.2.2.1.2 s hs).at9 F1 (fun t j a b => by unfold tS1; omega)
    have z := hI9.1.st (C := Z.2.2.1) (o := Z.1.2.2.2.2.2) F1 (fun t i j q => by unfold tS1 at q; omega) hC hW.2.2.1 hW.1.1.2.2.2 (by rw [e11]; exact hI9.1.2.2.2)
    rw [stN_eq hW.1.1.2.2.1] at z
    exact h9 (w_str0 hW) (FC.ofL G (fun t i j q => by unfold tS1; omega) (fun t q a => a)) ⟨z, hI9.2.1.st F1 (fun t i j q => by unfold tS1 at q; omega) hC hW.2.2.1 hW.2.1, ⟨e6, hC⟩, ⟨e8, fun j hj => absurd hj (Nat.not_lt_zero j)⟩, hI9.2.2.2.2.1.fr G (fun t i j q => by unfold tS1; omega), hI9.2.2.2.2.2.1.fr G (fun t i j q => by unfold tS1; omega) (fun a => a), hI9.2.2.2.2.2.2.fr G (fun t i j q => by unfold tS1; omega)⟩
  · have G : FrL (tS1 Z.2.2.1.1) (fun _ => False) σ σ1 := FrL.of F1
    have h9 := h (b, some c) σ1 (fun _ => hp)
    rw [(str_1 (by omega)).1, (str_1 (by omega)).2] at h9
    have hC : ∀ s, s < (stC Z.2.2.1 c).1 → cRep σ1 s ((stC Z.2.2.1 c).2 s) := fun s hs => by
      have hs : s < Z.2.2.1.1 + 1 := hs
      by_cases e : s = Z.2.2.1.1
      · rw [e, stC_eq]
        exact hr
      · rw [stC_ne (by omega)]
        exact (hI9.2.2.1.2 s (by omega)).at9 F1 (fun t j a b => by unfold tS1; omega)
    have hw := w_stC h6 hW.2.2.1.2 hc
    have z := hI9.1.st (C := stC Z.2.2.1 c) (o := some Z.2.2.1.1) F1 (fun t i j q => by unfold tS1 at q; omega) hC hw (fun s e => by cases e; exact Nat.lt_succ_self _) e11
    have w1 := w_str1 hW h6 hc
    exact h9 w1 (FC.ofL G (fun t i j q => by unfold tS1; omega) (fun t q a => a)) ⟨z, hI9.2.1.st F1 (fun t i j q => by unfold tS1 at q; omega) hC hw w1.2.1, ⟨e6, hC⟩, ⟨e8, fun j hj => absurd hj (Nat.not_lt_zero j)⟩, hI9.2.2.2.2.1.fr G (fun t i j q => by unfold tS1; omega), hI9.2.2.2.2.2.1.fr G (fun t i j q => by unfold tS1; omega) (fun a => a), hI9.2.2.2.2.2.2.fr G (fun t i j q => by unfold tS1; omega)⟩
theorem om_street {d : Nat} (hd : 30 ≤ d) {σ : qm_Sg} {Q : qm_Po} {Z : SS9} {r : Nat × Option CT9} (hI9 : mI σ Z) (hW : wS Z) (hr : Z.2.2.1.1 < 6 → pzL (pzS Z.2.2.2.1.2 Z.2.2.2.1.1) Z.2.2.2.1.1 10 0 [] r) (hW2 : wS (strZ Z r)) (h : ∀ σ', FM σ σ' → mI σ' (strZ Z r) → Q σ' (some (vI (strV Z r)))) : qm_M d 137 [vR 50 0] σ Q := by
  refine m_street (by omega) (n := Z.2.2.1.1) (L := Z.2.2.2.1.1) (tx := Z.2.2.2.1.2) (r := r) hI9.2.2.2.1.1 hI9.2.2.2.1.2 hW.2.2.2.1.1 hW.2.2.2.1.2 hI9.2.2.2.2.2.2 hW.2.2.1.1 hI9.2.2.1.1 hr (fun e => ?_) (fun h6 σ1 b er F1 e11 e9 e10 => ?_) (fun h6 σ1 b c er F1 e11 e9 e10 hm => ?_)
  · rw [(str_6 e).1, (str_6 e).2] at h
    exact h σ FM.rf hI9
  · subst er
    have G : FrL (tM1 Z.2.2.1.1) (fun _ => False) σ σ1 := FrL.of F1
    rw [(str_0 (by omega)).1, (str_0 (by omega)).2] at h
    have hC : ∀ s, s < Z.2.2.1.1 → mRp σ1 s (Z.2.2.1.2 s) := fun s hs => (hI9.2.2.1.2 s hs).fr F1 (fun t i j q => by unfold tM1; omega)
    have z := hI9.1.st (C := Z.2.2.1) (o := Z.1.2.2.2.2.2) F1 (fun t i j q => by unfold tM1 at q; omega) hC hW.2.2.1 hW.1.1.2.2.2 (by rw [e10]; exact hI9.1.2.2.2.2.2)
    rw [stN_eq hW.1.1.2.2.1] at z
    exact h σ1 (FM.ofL G (fun t i j q => by unfold tM1; omega) (fun t q a => a)) ⟨z, hI9.2.1.fr G (fun t i j q => by unfold tM1; omega), ⟨e9, hC⟩, ⟨e11, fun j hj => absurd hj (Nat.not_lt_zero j)⟩, hI9.2.2.2.2.1.fr G (fun t i j q => by unfold tM1; omega), hI9.2.2.2.2.2.1.fr G (fun t i j q => by unfold tM1; omega) (fun a => a), hI9.2.2.2.2.2.2.fl G (fun t i j q => by unfold tM1; omega)⟩
  · subst er
    have G : FrL (tM1 Z.2.2.1.1) (fun _ => False) σ σ1 := FrL.of F1
    rw [(str_1 (by omega)).2] at hW2
    rw [(str_1 (by omega)).1, (str_1 (by omega)).2] at h
    have hC : ∀ s, s < (stC Z.2.2.1 c).1 → mRp σ1 s ((stC Z.2.2.1 c).2 s) := fun s hs => by
      have hs : s < Z.2.2.1.1 + 1 := hs
      by_cases e : s = Z.2.2.1.1
      · rw [e, stC_eq]
        exact hm
      · rw [stC_ne (by omega)]
        exact (hI9.2.2.1.2 s (by omega)).fr F1 (fun t i j q => by unfold tM1; omega)
    have z := hI9.1.st (C := stC Z.2.2.1 c) (o := some Z.2.2.1.1) F1 (fun t i j q => by unfold tM1 at q; omega) hC hW2.2.2.1 (fun s e => by cases e; exact Nat.lt_succ_self _) e10
    exact h σ1 (FM.ofL G (fun t i j q => by unfold tM1; omega) (fun t q a => a)) ⟨z, hI9.2.1.fr G (fun t i j q => by unfold tM1; omega), ⟨e9, hC⟩, ⟨e11, fun j hj => absurd hj (Nat.not_lt_zero j)⟩, hI9.2.2.2.2.1.fr G (fun t i j q => by unfold tM1; omega), hI9.2.2.2.2.2.1.fr G (fun t i j q => by unfold tM1; omega) (fun a => a), hI9.2.2.2.2.2.2.fl G (fun t i j q => by unfold tM1; omega)⟩
