theorem c_takeh10 {d : Nat} (hd : 1 ≤ d) {σ : qm_Sg} {Q : qm_Po} {A : AS} {D : DD} (hs : cS 0 σ A) (hv : cV 0 σ D) (h : ∀ σ', Fr (tK 1) σ σ' → cS 1 σ' A → cV 1 σ' D → σ'.1 10 1 11 = σ.1 10 0 11 → Q σ' none) : qm_M d 25 [vR 10 1, vR 10 0] σ Q := by
  obtain ⟨d, rfl, hd⟩ := qm_dn hd
  show qm_Wp (qm_M d) qk_25 Q 0 [some (vR 10 1), some (vR 10 0)] [] σ
  refine qm_go 12 (fun P hP => Exists.intro 0 (Exists.intro 0 (Exists.intro 6 (And.intro ⟨rfl, rfl, rfl, by decide, by decide⟩ (hP ?_)))))
  refine qm_go 8 (fun P hP => Exists.intro 0 (Exists.intro 0 (Exists.intro 6 (And.intro ⟨rfl, rfl, rfl, by decide, by decide⟩ (hP ?_)))))
  refine qm_go 8 (fun P hP => Exists.intro 0 (Exists.intro 0 (Exists.intro 6 (And.intro ⟨rfl, rfl, rfl, by decide, by decide⟩ (hP ?_)))))
  refine qm_go 8 (fun P hP => Exists.intro 0 (Exists.intro 0 (Exists.intro 6 (And.intro ⟨rfl, rfl, rfl, by decide, by decide⟩ (hP ?_)))))
  refine qm_go 12 (fun P hP => Exists.intro 0 (Exists.intro 0 (Exists.intro 24 (And.intro ⟨rfl, rfl, rfl, by decide, by decide⟩ (hP ?_)))))
  refine qm_go 12 (fun P hP => hP ?_)
  generalize hσ : wF _ 10 1 (upd _ 11 _) = σ'
  have F : Fr (tK 1) σ σ' := by
    rw [← hσ]
    exact (Fr.p1 (Fr.p1 (Fr.p1 (Fr.pA (Fr.p1 (Fr.pA (Fr.pA (Fr.pA (Fr.pA (Fr.p1 Fr.rf ⟨rfl, Or.inr ⟨rfl, by decide⟩⟩) (fun _ => ⟨rfl, Or.inl ⟨by decide, by decide⟩⟩)) (fun _ => ⟨rfl, Or.inl ⟨by decide, by decide⟩⟩)) (fun _ => ⟨rfl, Or.inl ⟨by decide, by decide⟩⟩)) (fun _ => ⟨rfl, Or.inl ⟨by decide, by decide⟩⟩)) ⟨rfl, Or.inr ⟨rfl, by decide⟩⟩) (fun _ => ⟨rfl, Or.inl ⟨by decide, by decide⟩⟩)) ⟨rfl, Or.inr ⟨rfl, by decide⟩⟩) ⟨rfl, Or.inr ⟨rfl, by decide⟩⟩) ⟨rfl, Or.inr ⟨rfl, by decide⟩⟩)
  refine qm_go 1 (fun P hP => h σ' F ?_ ?_ (by rw [← hσ]; rfl))
  · refine cpS (Y := 0) hs F (fun t i j a b q => by have q := q.2; omega) ?_ ?_ ?_ ?_ ?_ ?_
    · rw [← hσ]; rfl
    · rw [← hσ]; rfl
    · rw [← hσ]; rfl
    · intro j hj; rw [← hσ]; exact cp6 (f := σ.1 11 0) (n := 6) hj
    · intro j hj; rw [← hσ]; exact cp6 (f := σ.1 12 0) (n := 6) hj
    · intro j hj; rw [← hσ]; exact cp6 (f := σ.1 15 0) (n := 24) hj
  · refine cpV (Y := 0) hv ?_ ?_ ?_ ?_
    · rw [← hσ]; rfl
    · rw [← hσ]; rfl
    · intro j hj; rw [← hσ]; exact cp6 (f := σ.1 13 0) (n := 6) hj
    · intro j hj; rw [← hσ]; exact cp6 (f := σ.1 14 0) (n := 6) hj
theorem c_takeh01 {d : Nat} (hd : 1 ≤ d) {σ : qm_Sg} {Q : qm_Po} {A : AS} {D : DD} (hs : cS 1 σ A) (hv : cV 1 σ D) (h : ∀ σ', Fr (tK 0) σ σ' → cS 0 σ' A → cV 0 σ' D → σ'.1 10 0 11 = σ.1 10 1 11 → Q σ' none) : qm_M d 25 [vR 10 0, vR 10 1] σ Q := by
  obtain ⟨d, rfl, hd⟩ := qm_dn hd
  show qm_Wp (qm_M d) qk_25 Q 0 [some (vR 10 0), some (vR 10 1)] [] σ
  refine qm_go 12 (fun P hP => Exists.intro 0 (Exists.intro 0 (Exists.intro 6 (And.intro ⟨rfl, rfl, rfl, by decide, by decide⟩ (hP ?_)))))
  refine qm_go 8 (fun P hP => Exists.intro 0 (Exists.intro 0 (Exists.intro 6 (And.intro ⟨rfl, rfl, rfl, by decide, by decide⟩ (hP ?_)))))
  refine qm_go 8 (fun P hP => Exists.intro 0 (Exists.intro 0 (Exists.intro 6 (And.intro ⟨rfl, rfl, rfl, by decide, by decide⟩ (hP ?_)))))
  refine qm_go 8 (fun P hP => Exists.intro 0 (Exists.intro 0 (Exists.intro 6 (And.intro ⟨rfl, rfl, rfl, by decide, by decide⟩ (hP ?_)))))
  refine qm_go 12 (fun P hP => Exists.intro 0 (Exists.intro 0 (Exists.intro 24 (And.intro ⟨rfl, rfl, rfl, by decide, by decide⟩ (hP ?_)))))
  refine qm_go 12 (fun P hP => hP ?_)
  generalize hσ : wF _ 10 0 (upd _ 11 _) = σ'
  have F : Fr (tK 0) σ σ' := by
    rw [← hσ]
    exact (Fr.p1 (Fr.p1 (Fr.p1 (Fr.pA (Fr.p1 (Fr.pA (Fr.pA (Fr.pA (Fr.pA (Fr.p1 Fr.rf ⟨rfl, Or.inr ⟨rfl, by decide⟩⟩) (fun _ => ⟨rfl, Or.inl ⟨by decide, by decide⟩⟩)) (fun _ => ⟨rfl, Or.inl ⟨by decide, by decide⟩⟩)) (fun _ => ⟨rfl, Or.inl ⟨by decide, by decide⟩⟩)) (fun _ => ⟨rfl, Or.inl ⟨by decide, by decide⟩⟩)) ⟨rfl, Or.inr ⟨rfl, by decide⟩⟩) (fun _ => ⟨rfl, Or.inl ⟨by decide, by decide⟩⟩)) ⟨rfl, Or.inr ⟨rfl, by decide⟩⟩) ⟨rfl, Or.inr ⟨rfl, by decide⟩⟩) ⟨rfl, Or.inr ⟨rfl, by decide⟩⟩)
  refine qm_go 1 (fun P hP => h σ' F ?_ ?_ (by rw [← hσ]; rfl))
  · refine cpS (Y := 1) hs F (fun t i j a b q => by have q := q.2; omega) ?_ ?_ ?_ ?_ ?_ ?_
    · rw [← hσ]; rfl
    · rw [← hσ]; rfl
    · rw [← hσ]; rfl
    · intro j hj; rw [← hσ]; exact cp6 (f := σ.1 11 1) (n := 6) hj
    · intro j hj; rw [← hσ]; exact cp6 (f := σ.1 12 1) (n := 6) hj
    · intro j hj; rw [← hσ]; exact cp6 (f := σ.1 15 1) (n := 24) hj
  · refine cpV (Y := 1) hv ?_ ?_ ?_ ?_
    · rw [← hσ]; rfl
    · rw [← hσ]; rfl
    · intro j hj; rw [← hσ]; exact cp6 (f := σ.1 13 1) (n := 6) hj
    · intro j hj; rw [← hσ]; exact cp6 (f := σ.1 14 1) (n := 6) hj
def tSX (t0 X t i j : Nat) : Prop := i = X ∧ ((t = t0 ∧ j = 1) ∨ (t0 + 1 ≤ t ∧ t ≤ t0 + 3))
def cSl (X : Nat) (σ : qm_Sg) (R : R9) (Pl : P9) (B : B9) : Prop := (σ.1 16 X 1 = nI R.length ∧ R.length ≤ 5 ∧ ∀ (i : Nat) (q : Nat × Nat × Int32), R[i]? = some q → σ.1 17 X i = nI q.1 ∧ σ.1 18 X i = nI q.2.1 ∧ σ.1 19 X i = q.2.2) ∧ (σ.1 20 X 1 = nI Pl.length ∧ Pl.length ≤ 10 ∧ ∀ (i : Nat) (q : Nat × Nat), Pl[i]? = some q → σ.1 21 X i = nI q.1 ∧ (q.1 ≠ 0 → σ.1 22 X i = nI q.2)) ∧ (σ.1 24 X 1 = nI B.length ∧ B.length ≤ 8 ∧ ∀ (i : Nat) (q : Nat × Int32), B[i]? = some q → σ.1 25 X i = nI q.1 ∧ σ.1 26 X i = q.2)
theorem cSl.of {σ : qm_Sg} {R : R9} {Pl : P9} {B : B9} (h1 : cSeen σ R) (h2 : cPlan σ Pl) (h3 : cBook σ B) : cSl 0 σ R Pl B := ⟨h1, h2, h3⟩
theorem cSl.fr {X : Nat} {σ σ' : qm_Sg} {R : R9} {Pl : P9} {B : B9} {T : Nat → Nat → Nat → Prop} (h : cSl X σ R Pl B) (F : Fr T σ σ') (hT : ∀ t i j, i = X → 16 ≤ t → t ≤ 26 → ¬ T t i j) : cSl X σ' R Pl B := by
  obtain ⟨⟨a1, a2, a3⟩, ⟨b1, b2, b3⟩, c1, c2, c3⟩ := h
  have g : ∀ t j, 16 ≤ t → t ≤ 26 → σ'.1 t X j = σ.1 t X j := fun t j p q => F.1 _ _ _ (hT _ _ _ rfl p q)
  refine ⟨⟨by rw [g _ _ (by omega) (by omega)]; exact a1, a2, fun i q hq => ?_⟩, ⟨by rw [g _ _ (by omega) (by omega)]; exact b1, b2, fun i q hq => ?_⟩, by rw [g _ _ (by omega) (by omega)]; exact c1, c2, fun i q hq => ?_⟩
  · rw [g _ _ (by omega) (by omega), g _ _ (by omega) (by omega), g _ _ (by omega) (by omega)]; exact a3 i q hq
  · rw [g _ _ (by omega) (by omega), g _ _ (by omega) (by omega)]; exact b3 i q hq
  · rw [g _ _ (by omega) (by omega), g _ _ (by omega) (by omega)]; exact c3 i q hq
theorem c_slt16_10 {d : Nat} (hd : 1 ≤ d) {σ : qm_Sg} {Q : qm_Po} {n9 : Nat} (hn : n9 ≤ 5) (e1 : σ.1 16 0 1 = nI n9) (h : ∀ σ', Fr (tSX 16 1) σ σ' → σ'.1 16 1 1 = nI n9 → (∀ j, j < n9 → σ'.1 17 1 j = σ.1 17 0 j ∧ σ'.1 18 1 j = σ.1 18 0 j ∧ σ'.1 19 1 j = σ.1 19 0 j) → Q σ' none) : qm_M d 47 [vR 16 1, vR 16 0] σ Q := by
  obtain ⟨d, rfl, hd⟩ := qm_dn hd
  show qm_Wp (qm_M d) qk_47 Q 0 [some (vR 16 1), some (vR 16 0)] [] σ
  refine qm_go 4 (fun P hP => hP ?_)
  generalize hσ1 : wF _ 16 1 (upd _ 1 _) = σ1
  have F1 : Fr (fun t i j => t = 16 ∧ i = 1 ∧ j = 1) σ σ1 := by rw [← hσ1]; exact Fr.w1 ⟨rfl, rfl, rfl⟩
  have k1 : σ1.1 16 1 1 = nI n9 := by rw [← hσ1, wv_same]; exact e1
  refine qm_go 9 (fun P hP => Exists.intro 0 (Exists.intro 0 (Exists.intro n9 (And.intro ⟨rfl, rfl, k1, by show 0 + n9 ≤ 5; omega, by show 0 + n9 ≤ 5; omega⟩ (hP ?_)))))
  refine qm_go 9 (fun P hP => Exists.intro 0 (Exists.intro 0 (Exists.intro n9 (And.intro ⟨rfl, rfl, k1, by show 0 + n9 ≤ 5; omega, by show 0 + n9 ≤ 5; omega⟩ (hP ?_)))))
  refine qm_go 9 (fun P hP => Exists.intro 0 (Exists.intro 0 (Exists.intro n9 (And.intro ⟨rfl, rfl, k1, by show 0 + n9 ≤ 5; omega, by show 0 + n9 ≤ 5; omega⟩ (hP ?_)))))
  generalize hσ : wF _ 19 1 (va_cpy _ _ _ _ _) = σ2
  have F2 : Fr (tSX 16 1) σ1 σ2 := by
    rw [← hσ]
    exact Fr.pA (Fr.pA (Fr.wA (fun j => by unfold tSX; omega)) (fun j => by unfold tSX; omega)) (fun j => by unfold tSX; omega)
  have k2 : σ2.1 16 1 1 = nI n9 := by rw [← hσ, wF_ne _ _ (by omega), wF_ne _ _ (by omega), wF_ne _ _ (by omega)]; exact k1
  refine qm_go 1 (fun P hP => h σ2 ((F1.mono (fun t i j q => by unfold tSX; omega)).tr F2) k2 (fun j hj => ⟨?_, ?_, ?_⟩))
  · rw [← hσ, wF_ne _ _ (by omega), wF_ne _ _ (by omega), wF_same, cp6 hj, F1.1 _ _ _ (by omega)]
  · rw [← hσ, wF_ne _ _ (by omega), wF_same, cp6 hj, wF_ne _ _ (by omega), F1.1 _ _ _ (by omega)]
  · rw [← hσ, wF_same, cp6 hj, wF_ne _ _ (by omega), wF_ne _ _ (by omega), F1.1 _ _ _ (by omega)]
theorem c_slt20_10 {d : Nat} (hd : 1 ≤ d) {σ : qm_Sg} {Q : qm_Po} {n9 : Nat} (hn : n9 ≤ 10) (e1 : σ.1 20 0 1 = nI n9) (h : ∀ σ', Fr (tSX 20 1) σ σ' → σ'.1 20 1 1 = nI n9 → (∀ j, j < n9 → σ'.1 21 1 j = σ.1 21 0 j ∧ σ'.1 22 1 j = σ.1 22 0 j ∧ σ'.1 23 1 j = σ.1 23 0 j) → Q σ' none) : qm_M d 47 [vR 20 1, vR 20 0] σ Q := by
  obtain ⟨d, rfl, hd⟩ := qm_dn hd
  show qm_Wp (qm_M d) qk_47 Q 0 [some (vR 20 1), some (vR 20 0)] [] σ
  refine qm_go 4 (fun P hP => hP ?_)
  generalize hσ1 : wF _ 20 1 (upd _ 1 _) = σ1
  have F1 : Fr (fun t i j => t = 20 ∧ i = 1 ∧ j = 1) σ σ1 := by rw [← hσ1]; exact Fr.w1 ⟨rfl, rfl, rfl⟩
  have k1 : σ1.1 20 1 1 = nI n9 := by rw [← hσ1, wv_same]; exact e1
  refine qm_go 9 (fun P hP => Exists.intro 0 (Exists.intro 0 (Exists.intro n9 (And.intro ⟨rfl, rfl, k1, by show 0 + n9 ≤ 10; omega, by show 0 + n9 ≤ 10; omega⟩ (hP ?_)))))
  refine qm_go 9 (fun P hP => Exists.intro 0 (Exists.intro 0 (Exists.intro n9 (And.intro ⟨rfl, rfl, k1, by show 0 + n9 ≤ 10; omega, by show 0 + n9 ≤ 10; omega⟩ (hP ?_)))))
  refine qm_go 9 (fun P hP => Exists.intro 0 (Exists.intro 0 (Exists.intro n9 (And.intro ⟨rfl, rfl, k1, by show 0 + n9 ≤ 10; omega, by show 0 + n9 ≤ 10; omega⟩ (hP ?_)))))
  generalize hσ : wF _ 23 1 (va_cpy _ _ _ _ _) = σ2
  have F2 : Fr (tSX 20 1) σ1 σ2 := by
    rw [← hσ]
    exact Fr.pA (Fr.pA (Fr.wA (fun j => by unfold tSX; omega)) (fun j => by unfold tSX; omega)) (fun j => by unfold tSX; omega)
  have k2 : σ2.1 20 1 1 = nI n9 := by rw [← hσ, wF_ne _ _ (by omega), wF_ne _ _ (by omega), wF_ne _ _ (by omega)]; exact k1
  refine qm_go 1 (fun P hP => h σ2 ((F1.mono (fun t i j q => by unfold tSX; omega)).tr F2) k2 (fun j hj => ⟨?_, ?_, ?_⟩))
  · rw [← hσ, wF_ne _ _ (by omega), wF_ne _ _ (by omega), wF_same, cp6 hj, F1.1 _ _ _ (by omega)]
  · rw [← hσ, wF_ne _ _ (by omega), wF_same, cp6 hj, wF_ne _ _ (by omega), F1.1 _ _ _ (by omega)]
  · rw [← hσ, wF_same, cp6 hj, wF_ne _ _ (by omega), wF_ne _ _ (by omega), F1.1 _ _ _ (by omega)]
theorem c_slt24_10 {d : Nat} (hd : 1 ≤ d) {σ : qm_Sg} {Q : qm_Po} {n9 : Nat} (hn : n9 ≤ 8) (e1 : σ.1 24 0 1 = nI n9) (h : ∀ σ', Fr (tSX 24 1) σ σ' → σ'.1 24 1 1 = nI n9 → (∀ j, j < n9 → σ'.1 25 1 j = σ.1 25 0 j ∧ σ'.1 26 1 j = σ.1 26 0 j ∧ σ'.1 27 1 j = σ.1 27 0 j) → Q σ' none) : qm_M d 47 [vR 24 1, vR 24 0] σ Q := by
  obtain ⟨d, rfl, hd⟩ := qm_dn hd
  show qm_Wp (qm_M d) qk_47 Q 0 [some (vR 24 1), some (vR 24 0)] [] σ
  refine qm_go 4 (fun P hP => hP ?_)
  generalize hσ1 : wF _ 24 1 (upd _ 1 _) = σ1
  have F1 : Fr (fun t i j => t = 24 ∧ i = 1 ∧ j = 1) σ σ1 := by rw [← hσ1]; exact Fr.w1 ⟨rfl, rfl, rfl⟩
  have k1 : σ1.1 24 1 1 = nI n9 := by rw [← hσ1, wv_same]; exact e1
  refine qm_go 9 (fun P hP => Exists.intro 0 (Exists.intro 0 (Exists.intro n9 (And.intro ⟨rfl, rfl, k1, by show 0 + n9 ≤ 8; omega, by show 0 + n9 ≤ 8; omega⟩ (hP ?_)))))
  refine qm_go 9 (fun P hP => Exists.intro 0 (Exists.intro 0 (Exists.intro n9 (And.intro ⟨rfl, rfl, k1, by show 0 + n9 ≤ 8; omega, by show 0 + n9 ≤ 8; omega⟩ (hP ?_)))))
  refine qm_go 9 (fun P hP => Exists.intro 0 (Exists.intro 0 (Exists.intro n9 (And.intro ⟨rfl, rfl, k1, by show 0 + n9 ≤ 8; omega, by show 0 + n9 ≤ 8; omega⟩ (hP ?_)))))
  generalize hσ : wF _ 27 1 (va_cpy _ _ _ _ _) = σ2
  have F2 : Fr (tSX 24 1) σ1 σ2 := by
    rw [← hσ]
    exact Fr.pA (Fr.pA (Fr.wA (fun j => by unfold tSX; omega)) (fun j => by unfold tSX; omega)) (fun j => by unfold tSX; omega)
  have k2 : σ2.1 24 1 1 = nI n9 := by rw [← hσ, wF_ne _ _ (by omega), wF_ne _ _ (by omega), wF_ne _ _ (by omega)]; exact k1
  refine qm_go 1 (fun P hP => h σ2 ((F1.mono (fun t i j q => by unfold tSX; omega)).tr F2) k2 (fun j hj => ⟨?_, ?_, ?_⟩))
  · rw [← hσ, wF_ne _ _ (by omega), wF_ne _ _ (by omega), wF_same, cp6 hj, F1.1 _ _ _ (by omega)]
  · rw [← hσ, wF_ne _ _ (by omega), wF_same, cp6 hj, wF_ne _ _ (by omega), F1.1 _ _ _ (by omega)]
  · rw [← hσ, wF_same, cp6 hj, wF_ne _ _ (by omega), wF_ne _ _ (by omega), F1.1 _ _ _ (by omega)]
def tAll1 (t i j : Nat) : Prop := i = 1 ∧ 10 ≤ t ∧ t ≤ 27 ∧ (t = 10 → (j = 2 ∨ j = 7 ∨ j = 9 ∨ j = 10 ∨ j = 11)) ∧ (t = 16 → j = 1) ∧ (t = 20 → j = 1) ∧ (t = 24 → j = 1)
theorem c_all10 {d : Nat} (hd : 2 ≤ d) {σ : qm_Sg} {Q : qm_Po} {A : AS} {D : DD} {R : R9} {Pl : P9} {B : B9} (hs : cS 0 σ A) (hv : cV 0 σ D) (hl : cSl 0 σ R Pl B) (h : ∀ σ', Fr tAll1 σ σ' → cS 1 σ' A → cV 1 σ' D → σ'.1 10 1 11 = σ.1 10 0 11 → cSl 1 σ' R Pl B → Q σ' none) : qm_M d 26 [vR 10 1, vR 10 0] σ Q := by
  obtain ⟨d, rfl, hd⟩ := qm_dn hd
  show qm_Wp (qm_M d) qk_26 Q 0 [some (vR 10 1), some (vR 10 0)] [] σ
  obtain ⟨⟨a1, a2, a3⟩, ⟨b1, b2, b3⟩, c1, c2, c3⟩ := hl
  refine qm_go 3 (fun P hP => c_takeh10 (by omega) hs hv (fun σ1 F1 hs1 hv1 e1 => hP ?_))
  refine qm_go 5 (fun P hP => c_slt16_10 (n9 := R.length) (by omega) a2 (by rw [F1.1 _ _ _ (by unfold tK; omega)]; exact a1) (fun σ2 F2 k2 m2 => hP ?_))
  refine qm_go 5 (fun P hP => c_slt20_10 (n9 := Pl.length) (by omega) b2 (by rw [F2.1 _ _ _ (by unfold tSX; omega), F1.1 _ _ _ (by unfold tK; omega)]; exact b1) (fun σ3 F3 k3 m3 => hP ?_))
  refine qm_go 5 (fun P hP => c_slt24_10 (n9 := B.length) (by omega) c2 (by rw [F3.1 _ _ _ (by unfold tSX; omega), F2.1 _ _ _ (by unfold tSX; omega), F1.1 _ _ _ (by unfold tK; omega)]; exact c1) (fun σ4 F4 k4 m4 => hP ?_))
  have G : Fr (fun t i j => i = 1 ∧ 16 ≤ t ∧ t ≤ 27 ∧ (t = 16 → j = 1) ∧ (t = 20 → j = 1) ∧ (t = 24 → j = 1)) σ1 σ4 := ((F2.mono (fun t i j q => by unfold tSX at q; omega)).tr (F3.mono (fun t i j q => by unfold tSX at q; omega))).tr (F4.mono (fun t i j q => by unfold tSX at q; omega))
  refine qm_go 1 (fun P hP => h σ4 ((F1.mono (fun t i j q => by unfold tK at q; unfold tAll1; omega)).tr (G.mono (fun t i j q => by unfold tAll1; omega))) (hs1.fg G (fun t i j q => by unfold pC at q; omega) (by omega)) (hv1.fg G (fun t i j q => by omega)) (by rw [G.1 _ _ _ (by omega)]; exact e1) ⟨⟨?_, a2, fun i q hq => ?_⟩, ⟨?_, b2, fun i q hq => ?_⟩, k4, c2, fun i q hq => ?_⟩)
  · rw [F4.1 _ _ _ (by unfold tSX; omega), F3.1 _ _ _ (by unfold tSX; omega)]; exact k2
  · have hi := (List.getElem?_eq_some_iff.mp hq).1
    obtain ⟨w1, w2, w3⟩ := m2 i hi
    rw [F4.1 _ _ _ (by unfold tSX; omega), F3.1 _ _ _ (by unfold tSX; omega), F4.1 _ _ _ (by unfold tSX; omega), F3.1 _ _ _ (by unfold tSX; omega), F4.1 _ _ _ (by unfold tSX; omega), F3.1 _ _ _ (by unfold tSX; omega), w1, w2, w3, F1.1 _ _ _ (by unfold tK; omega), F1.1 _ _ _ (by unfold tK; omega), F1.1 _ _ _ (by unfold tK; omega)]
    exact a3 i q hq
  · rw [F4.1 _ _ _ (by unfold tSX; omega)]; exact k3
  · have hi := (List.getElem?_eq_some_iff.mp hq).1
    obtain ⟨w1, w2, w3⟩ := m3 i hi
    rw [F4.1 _ _ _ (by unfold tSX; omega), F4.1 _ _ _ (by unfold tSX; omega), w1, w2, F2.1 _ _ _ (by unfold tSX; omega), F1.1 _ _ _ (by unfold tK; omega), F2.1 _ _ _ (by unfold tSX; omega), F1.1 _ _ _ (by unfold tK; omega)]
    exact b3 i q hq
  · have hi := (List.getElem?_eq_some_iff.mp hq).1
    obtain ⟨w1, w2, w3⟩ := m4 i hi
    rw [w1, w2, F3.1 _ _ _ (by unfold tSX; omega), F2.1 _ _ _ (by unfold tSX; omega), F1.1 _ _ _ (by unfold tK; omega), F3.1 _ _ _ (by unfold tSX; omega), F2.1 _ _ _ (by unfold tSX; omega), F1.1 _ _ _ (by unfold tK; omega)]
    exact c3 i q hq
theorem c_slt16_01 {d : Nat} (hd : 1 ≤ d) {σ : qm_Sg} {Q : qm_Po} {n9 : Nat} (hn : n9 ≤ 5) (e1 : σ.1 16 1 1 = nI n9) (h : ∀ σ', Fr (tSX 16 0) σ σ' → σ'.1 16 0 1 = nI n9 → (∀ j, j < n9 → σ'.1 17 0 j = σ.1 17 1 j ∧ σ'.1 18 0 j = σ.1 18 1 j ∧ σ'.1 19 0 j = σ.1 19 1 j) → Q σ' none) : qm_M d 47 [vR 16 0, vR 16 1] σ Q := by
  obtain ⟨d, rfl, hd⟩ := qm_dn hd
  show qm_Wp (qm_M d) qk_47 Q 0 [some (vR 16 0), some (vR 16 1)] [] σ
  refine qm_go 4 (fun P hP => hP ?_)
  generalize hσ1 : wF _ 16 0 (upd _ 1 _) = σ1
  have F1 : Fr (fun t i j => t = 16 ∧ i = 0 ∧ j = 1) σ σ1 := by rw [← hσ1]; exact Fr.w1 ⟨rfl, rfl, rfl⟩
  have k1 : σ1.1 16 0 1 = nI n9 := by rw [← hσ1, wv_same]; exact e1
  refine qm_go 9 (fun P hP => Exists.intro 0 (Exists.intro 0 (Exists.intro n9 (And.intro ⟨rfl, rfl, k1, by show 0 + n9 ≤ 5; omega, by show 0 + n9 ≤ 5; omega⟩ (hP ?_)))))
  refine qm_go 9 (fun P hP => Exists.intro 0 (Exists.intro 0 (Exists.intro n9 (And.intro ⟨rfl, rfl, k1, by show 0 + n9 ≤ 5; omega, by show 0 + n9 ≤ 5; omega⟩ (hP ?_)))))
  refine qm_go 9 (fun P hP => Exists.intro 0 (Exists.intro 0 (Exists.intro n9 (And.intro ⟨rfl, rfl, k1, by show 0 + n9 ≤ 5; omega, by show 0 + n9 ≤ 5; omega⟩ (hP ?_)))))
  generalize hσ : wF _ 19 0 (va_cpy _ _ _ _ _) = σ2
  have F2 : Fr (tSX 16 0) σ1 σ2 := by
    rw [← hσ]
    exact Fr.pA (Fr.pA (Fr.wA (fun j => by unfold tSX; omega)) (fun j => by unfold tSX; omega)) (fun j => by unfold tSX; omega)
  have k2 : σ2.1 16 0 1 = nI n9 := by rw [← hσ, wF_ne _ _ (by omega), wF_ne _ _ (by omega), wF_ne _ _ (by omega)]; exact k1
  refine qm_go 1 (fun P hP => h σ2 ((F1.mono (fun t i j q => by unfold tSX; omega)).tr F2) k2 (fun j hj => ⟨?_, ?_, ?_⟩))
  · rw [← hσ, wF_ne _ _ (by omega), wF_ne _ _ (by omega), wF_same, cp6 hj, F1.1 _ _ _ (by omega)]
  · rw [← hσ, wF_ne _ _ (by omega), wF_same, cp6 hj, wF_ne _ _ (by omega), F1.1 _ _ _ (by omega)]
  · rw [← hσ, wF_same, cp6 hj, wF_ne _ _ (by omega), wF_ne _ _ (by omega), F1.1 _ _ _ (by omega)]
theorem c_slt20_01 {d : Nat} (hd : 1 ≤ d) {σ : qm_Sg} {Q : qm_Po} {n9 : Nat} (hn : n9 ≤ 10) (e1 : σ.1 20 1 1 = nI n9) (h : ∀ σ', Fr (tSX 20 0) σ σ' → σ'.1 20 0 1 = nI n9 → (∀ j, j < n9 → σ'.1 21 0 j = σ.1 21 1 j ∧ σ'.1 22 0 j = σ.1 22 1 j ∧ σ'.1 23 0 j = σ.1 23 1 j) → Q σ' none) : qm_M d 47 [vR 20 0, vR 20 1] σ Q := by
  obtain ⟨d, rfl, hd⟩ := qm_dn hd
  show qm_Wp (qm_M d) qk_47 Q 0 [some (vR 20 0), some (vR 20 1)] [] σ
  refine qm_go 4 (fun P hP => hP ?_)
  generalize hσ1 : wF _ 20 0 (upd _ 1 _) = σ1
  have F1 : Fr (fun t i j => t = 20 ∧ i = 0 ∧ j = 1) σ σ1 := by rw [← hσ1]; exact Fr.w1 ⟨rfl, rfl, rfl⟩
  have k1 : σ1.1 20 0 1 = nI n9 := by rw [← hσ1, wv_same]; exact e1
  refine qm_go 9 (fun P hP => Exists.intro 0 (Exists.intro 0 (Exists.intro n9 (And.intro ⟨rfl, rfl, k1, by show 0 + n9 ≤ 10; omega, by show 0 + n9 ≤ 10; omega⟩ (hP ?_)))))
  refine qm_go 9 (fun P hP => Exists.intro 0 (Exists.intro 0 (Exists.intro n9 (And.intro ⟨rfl, rfl, k1, by show 0 + n9 ≤ 10; omega, by show 0 + n9 ≤ 10; omega⟩ (hP ?_)))))
  refine qm_go 9 (fun P hP => Exists.intro 0 (Exists.intro 0 (Exists.intro n9 (And.intro ⟨rfl, rfl, k1, by show 0 + n9 ≤ 10; omega, by show 0 + n9 ≤ 10; omega⟩ (hP ?_)))))
  generalize hσ : wF _ 23 0 (va_cpy _ _ _ _ _) = σ2
  have F2 : Fr (tSX 20 0) σ1 σ2 := by
    rw [← hσ]
    exact Fr.pA (Fr.pA (Fr.wA (fun j => by unfold tSX; omega)) (fun j => by unfold tSX; omega)) (fun j => by unfold tSX; omega)
  have k2 : σ2.1 20 0 1 = nI n9 := by rw [← hσ, wF_ne _ _ (by omega), wF_ne _ _ (by omega), wF_ne _ _ (by omega)]; exact k1
  refine qm_go 1 (fun P hP => h σ2 ((F1.mono (fun t i j q => by unfold tSX; omega)).tr F2) k2 (fun j hj => ⟨?_, ?_, ?_⟩))
  · rw [← hσ, wF_ne _ _ (by omega), wF_ne _ _ (by omega), wF_same, cp6 hj, F1.1 _ _ _ (by omega)]
  · rw [← hσ, wF_ne _ _ (by omega), wF_same, cp6 hj, wF_ne _ _ (by omega), F1.1 _ _ _ (by omega)]
  · rw [← hσ, wF_same, cp6 hj, wF_ne _ _ (by omega), wF_ne _ _ (by omega), F1.1 _ _ _ (by omega)]
theorem c_slt24_01 {d : Nat} (hd : 1 ≤ d) {σ : qm_Sg} {Q : qm_Po} {n9 : Nat} (hn : n9 ≤ 8) (e1 : σ.1 24 1 1 = nI n9) (h : ∀ σ', Fr (tSX 24 0) σ σ' → σ'.1 24 0 1 = nI n9 → (∀ j, j < n9 → σ'.1 25 0 j = σ.1 25 1 j ∧ σ'.1 26 0 j = σ.1 26 1 j ∧ σ'.1 27 0 j = σ.1 27 1 j) → Q σ' none) : qm_M d 47 [vR 24 0, vR 24 1] σ Q := by
  obtain ⟨d, rfl, hd⟩ := qm_dn hd
  show qm_Wp (qm_M d) qk_47 Q 0 [some (vR 24 0), some (vR 24 1)] [] σ
  refine qm_go 4 (fun P hP => hP ?_)
  generalize hσ1 : wF _ 24 0 (upd _ 1 _) = σ1
  have F1 : Fr (fun t i j => t = 24 ∧ i = 0 ∧ j = 1) σ σ1 := by rw [← hσ1]; exact Fr.w1 ⟨rfl, rfl, rfl⟩
  have k1 : σ1.1 24 0 1 = nI n9 := by rw [← hσ1, wv_same]; exact e1
  refine qm_go 9 (fun P hP => Exists.intro 0 (Exists.intro 0 (Exists.intro n9 (And.intro ⟨rfl, rfl, k1, by show 0 + n9 ≤ 8; omega, by show 0 + n9 ≤ 8; omega⟩ (hP ?_)))))
  refine qm_go 9 (fun P hP => Exists.intro 0 (Exists.intro 0 (Exists.intro n9 (And.intro ⟨rfl, rfl, k1, by show 0 + n9 ≤ 8; omega, by show 0 + n9 ≤ 8; omega⟩ (hP ?_)))))
  refine qm_go 9 (fun P hP => Exists.intro 0 (Exists.intro 0 (Exists.intro n9 (And.intro ⟨rfl, rfl, k1, by show 0 + n9 ≤ 8; omega, by show 0 + n9 ≤ 8; omega⟩ (hP ?_)))))
  generalize hσ : wF _ 27 0 (va_cpy _ _ _ _ _) = σ2
  have F2 : Fr (tSX 24 0) σ1 σ2 := by
    rw [← hσ]
    exact Fr.pA (Fr.pA (Fr.wA (fun j => by unfold tSX; omega)) (fun j => by unfold tSX; omega)) (fun j => by unfold tSX; omega)
  have k2 : σ2.1 24 0 1 = nI n9 := by rw [← hσ, wF_ne _ _ (by omega), wF_ne _ _ (by omega), wF_ne _ _ (by omega)]; exact k1
  refine qm_go 1 (fun P hP => h σ2 ((F1.mono (fun t i j q => by unfold tSX; omega)).tr F2) k2 (fun j hj => ⟨?_, ?_, ?_⟩))
  · rw [← hσ, wF_ne _ _ (by omega), wF_ne _ _ (by omega), wF_same, cp6 hj, F1.1 _ _ _ (by omega)]
  · rw [← hσ, wF_ne _ _ (by omega), wF_same, cp6 hj, wF_ne _ _ (by omega), F1.1 _ _ _ (by omega)]
  · rw [← hσ, wF_same, cp6 hj, wF_ne _ _ (by omega), wF_ne _ _ (by omega), F1.1 _ _ _ (by omega)]
def tAll0 (t i j : Nat) : Prop := i = 0 ∧ 10 ≤ t ∧ t ≤ 27 ∧ (t = 10 → (j = 2 ∨ j = 7 ∨ j = 9 ∨ j = 10 ∨ j = 11)) ∧ (t = 16 → j = 1) ∧ (t = 20 → j = 1) ∧ (t = 24 → j = 1)
theorem c_all01 {d : Nat} (hd : 2 ≤ d) {σ : qm_Sg} {Q : qm_Po} {A : AS} {D : DD} {R : R9} {Pl : P9} {B : B9} (hs : cS 1 σ A) (hv : cV 1 σ D) (hl : cSl 1 σ R Pl B) (h : ∀ σ', Fr tAll0 σ σ' → cS 0 σ' A → cV 0 σ' D → σ'.1 10 0 11 = σ.1 10 1 11 → cSl 0 σ' R Pl B → Q σ' none) : qm_M d 26 [vR 10 0, vR 10 1] σ Q := by
  obtain ⟨d, rfl, hd⟩ := qm_dn hd
  show qm_Wp (qm_M d) qk_26 Q 0 [some (vR 10 0), some (vR 10 1)] [] σ
  obtain ⟨⟨a1, a2, a3⟩, ⟨b1, b2, b3⟩, c1, c2, c3⟩ := hl
  refine qm_go 3 (fun P hP => c_takeh01 (by omega) hs hv (fun σ1 F1 hs1 hv1 e1 => hP ?_))
  refine qm_go 5 (fun P hP => c_slt16_01 (n9 := R.length) (by omega) a2 (by rw [F1.1 _ _ _ (by unfold tK; omega)]; exact a1) (fun σ2 F2 k2 m2 => hP ?_))
  refine qm_go 5 (fun P hP => c_slt20_01 (n9 := Pl.length) (by omega) b2 (by rw [F2.1 _ _ _ (by unfold tSX; omega), F1.1 _ _ _ (by unfold tK; omega)]; exact b1) (fun σ3 F3 k3 m3 => hP ?_))
  refine qm_go 5 (fun P hP => c_slt24_01 (n9 := B.length) (by omega) c2 (by rw [F3.1 _ _ _ (by unfold tSX; omega), F2.1 _ _ _ (by unfold tSX; omega), F1.1 _ _ _ (by unfold tK; omega)]; exact c1) (fun σ4 F4 k4 m4 => hP ?_))
  have G : Fr (fun t i j => i = 0 ∧ 16 ≤ t ∧ t ≤ 27 ∧ (t = 16 → j = 1) ∧ (t = 20 → j = 1) ∧ (t = 24 → j = 1)) σ1 σ4 := ((F2.mono (fun t i j q => by unfold tSX at q; omega)).tr (F3.mono (fun t i j q => by unfold tSX at q; omega))).tr (F4.mono (fun t i j q => by unfold tSX at q; omega))
  refine qm_go 1 (fun P hP => h σ4 ((F1.mono (fun t i j q => by unfold tK at q; unfold tAll0; omega)).tr (G.mono (fun t i j q => by unfold tAll0; omega))) (hs1.fg G (fun t i j q => by unfold pC at q; omega) (by omega)) (hv1.fg G (fun t i j q => by omega)) (by rw [G.1 _ _ _ (by omega)]; exact e1) ⟨⟨?_, a2, fun i q hq => ?_⟩, ⟨?_, b2, fun i q hq => ?_⟩, k4, c2, fun i q hq => ?_⟩)
  · rw [F4.1 _ _ _ (by unfold tSX; omega), F3.1 _ _ _ (by unfold tSX; omega)]; exact k2
  · have hi := (List.getElem?_eq_some_iff.mp hq).1
    obtain ⟨w1, w2, w3⟩ := m2 i hi
    rw [F4.1 _ _ _ (by unfold tSX; omega), F3.1 _ _ _ (by unfold tSX; omega), F4.1 _ _ _ (by unfold tSX; omega), F3.1 _ _ _ (by unfold tSX; omega), F4.1 _ _ _ (by unfold tSX; omega), F3.1 _ _ _ (by unfold tSX; omega), w1, w2, w3, F1.1 _ _ _ (by unfold tK; omega), F1.1 _ _ _ (by unfold tK; omega), F1.1 _ _ _ (by unfold tK; omega)]
    exact a3 i q hq
  · rw [F4.1 _ _ _ (by unfold tSX; omega)]; exact k3
  · have hi := (List.getElem?_eq_some_iff.mp hq).1
    obtain ⟨w1, w2, w3⟩ := m3 i hi
    rw [F4.1 _ _ _ (by unfold tSX; omega), F4.1 _ _ _ (by unfold tSX; omega), w1, w2, F2.1 _ _ _ (by unfold tSX; omega), F1.1 _ _ _ (by unfold tK; omega), F2.1 _ _ _ (by unfold tSX; omega), F1.1 _ _ _ (by unfold tK; omega)]
    exact b3 i q hq
  · have hi := (List.getElem?_eq_some_iff.mp hq).1
    obtain ⟨w1, w2, w3⟩ := m4 i hi
    rw [w1, w2, F3.1 _ _ _ (by unfold tSX; omega), F2.1 _ _ _ (by unfold tSX; omega), F1.1 _ _ _ (by unfold tK; omega), F3.1 _ _ _ (by unfold tSX; omega), F2.1 _ _ _ (by unfold tSX; omega), F1.1 _ _ _ (by unfold tK; omega)]
    exact c3 i q hq
theorem c_image {d : Nat} (hd : 3 ≤ d) {σ : qm_Sg} {Q : qm_Po} {A : AS} {D : DD} {R : R9} {Pl : P9} {B : B9} (hs : cS 0 σ A) (hv : cV 0 σ D) (hl : cSl 0 σ R Pl B) (h : ∀ σ', Fr (fun t i j => tAll1 t i j ∨ (t = 0 ∧ j = 4)) σ σ' → cS 1 σ' A → cV 1 σ' D → σ'.1 10 1 11 = σ.1 10 0 11 → cSl 1 σ' R Pl B → σ'.1 0 0 4 = 1 → Q σ' (some (vI (nI A.1)))) : qm_M d 86 [vR 0 0] σ Q := by
  obtain ⟨d, rfl, hd⟩ := qm_dn hd
  show qm_Wp (qm_M d) qk_86 Q 0 [some (vR 0 0)] [] σ
  refine qm_go 5 (fun P hP => c_all10 (by omega) hs hv hl (fun σ1 F1 hs1 hv1 e1 hl1 => hP ?_))
  refine qm_go 3 (fun P hP => And.intro rfl (hP ?_))
  generalize hσ : wF _ 0 0 (upd _ 4 _) = σ2
  have F2 : Fr (fun t i j => t = 0 ∧ j = 4) σ1 σ2 := by rw [← hσ]; exact Fr.w1 ⟨rfl, rfl⟩
  have k4 : σ2.1 0 0 4 = 1 := by rw [← hσ]; exact wv_same
  refine qm_go 3 (fun P hP => hP ?_)
  rw [F2.1 10 0 2 (by omega), F1.1 10 0 2 (by unfold tAll1; omega), hs.n]
  exact qm_go 1 (fun P hP => h σ2 ((F1.mono (fun t i j q => Or.inl q)).tr (F2.mono (fun t i j q => Or.inr q))) (hs1.fg F2 (fun t i j q => by unfold pC at q; omega) (by omega)) (hv1.fg F2 (fun t i j q => by omega)) (by rw [F2.1 _ _ _ (by omega)]; exact e1) (hl1.fr F2 (fun t i j q a b => by omega)) k4)
theorem c_undo {d : Nat} (hd : 3 ≤ d) {σ : qm_Sg} {Q : qm_Po} {A : AS} {D : DD} {R : R9} {Pl : P9} {B : B9} (e4 : σ.1 0 0 4 = 1) (hs : cS 1 σ A) (hv : cV 1 σ D) (hl : cSl 1 σ R Pl B) (h : ∀ σ', Fr tAll0 σ σ' → cS 0 σ' A → cV 0 σ' D → σ'.1 10 0 11 = σ.1 10 1 11 → cSl 0 σ' R Pl B → Q σ' (some (vI (nI A.1)))) : qm_M d 87 [vR 0 0] σ Q := by
  obtain ⟨d, rfl, hd⟩ := qm_dn hd
  show qm_Wp (qm_M d) qk_87 Q 0 [some (vR 0 0)] [] σ
  refine qm_go 3 (fun P hP => And.intro (fun _ => hP ?_) (fun z => absurd (e4.symm.trans z) (by decide)))
  refine qm_go 5 (fun P hP => c_all01 (by omega) hs hv hl (fun σ1 F1 hs1 hv1 e1 hl1 => hP ?_))
  refine qm_go 3 (fun P hP => hP ?_)
  rw [hs1.n]
  exact qm_go 1 (fun P hP => h σ1 F1 hs1 hv1 e1 hl1)
theorem c_undo0 {d : Nat} (hd : 1 ≤ d) {σ : qm_Sg} {Q : qm_Po} (e4 : σ.1 0 0 4 = 0) (h : Q σ (some (vI (-3)))) : qm_M d 87 [vR 0 0] σ Q := by
  obtain ⟨d, rfl, hd⟩ := qm_dn hd
  show qm_Wp (qm_M d) qk_87 Q 0 [some (vR 0 0)] [] σ
  refine qm_go 3 (fun P hP => And.intro (fun z => absurd e4 z) (fun _ => hP ?_))
  exact qm_go 2 (fun P hP => h)
