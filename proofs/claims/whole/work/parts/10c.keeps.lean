def awA (A : AS) (a : Int32) : AS := (A.1, A.2.1, A.2.2.1, A.2.2.2.1, a, A.2.2.2.2.2)
abbrev awO (A : AS) : Int32 := A.2.2.2.2.1
/-- what the statics of the reference and of doors X stand on, the away ones aside -/
def pM (t i j : Nat) : Prop := (t = 50 ∧ (j = 0 ∨ j = 10)) ∨ t = 51 ∨ t = 52 ∨ t = 55 ∨ (57 ≤ t ∧ t ≤ 62)
def pC (X t i j : Nat) : Prop := (i = X ∧ ((t = 10 ∧ (j = 2 ∨ j = 11)) ∨ t = 11 ∨ t = 12 ∨ t = 15)) ∨ (28 ≤ t ∧ t ≤ 32)
theorem mS.fa {T : Nat → Nat → Nat → Prop} {σ σ' : qm_Sg} {A : AS} {a : Int32} (h : mS σ A) (hF : Fr T σ σ') (hT : ∀ t i j, pM t i j → ¬ T t i j) (ha : σ'.1 50 0 1 = a) : mS σ' (awA A a) := by
  obtain ⟨kd, vv, rw9, q1, q2, q3, h1, h2, h3, h4, h5, h6, h7, h8⟩ := h
  exact ⟨kd, vv, rw9, q1, q2, q3, by rw [hF.1 _ _ _ (hT _ _ _ (by unfold pM; omega))]; exact h1, h2, by rw [hF.row (fun j => hT _ _ _ (by unfold pM; omega))]; exact h3, by rw [hF.row (fun j => hT _ _ _ (by unfold pM; omega))]; exact h4, by rw [hF.row (fun j => hT _ _ _ (by unfold pM; omega))]; exact h5, ha, h7, h8.fr hF (fun t i j a b => hT _ _ _ (by unfold pM; omega)) (hT _ _ _ (by unfold pM; omega))⟩
theorem cS.fa {T : Nat → Nat → Nat → Prop} {X : Nat} {σ σ' : qm_Sg} {A : AS} {a : Int32} (h : cS X σ A) (hF : Fr T σ σ') (hT : ∀ t i j, pC X t i j → ¬ T t i j) (ha : σ'.1 10 X 7 = a) : cS X σ' (awA A a) := by
  obtain ⟨kd, vv, rw9, q1, q2, q3, h1, h2, h3, h4, h5, h6, h7, h8⟩ := h
  exact ⟨kd, vv, rw9, q1, q2, q3, by rw [hF.1 _ _ _ (hT _ _ _ (by unfold pC; omega))]; exact h1, h2, by rw [hF.row (fun j => hT _ _ _ (by unfold pC; omega))]; exact h3, by rw [hF.row (fun j => hT _ _ _ (by unfold pC; omega))]; exact h4, by rw [hF.row (fun j => hT _ _ _ (by unfold pC; omega))]; exact h5, ha, h7, h8.fr hF (fun t i j a b => hT _ _ _ (by unfold pC; omega)) (hT _ _ _ (by unfold pC; omega))⟩
theorem mS.aw {σ : qm_Sg} {A : AS} (h : mS σ A) : σ.1 50 0 1 = awO A := by obtain ⟨kd, vv, rw9, q1, q2, q3, h1, h2, h3, h4, h5, h6, h7, h8⟩ := h; exact h6
theorem cS.aw {X : Nat} {σ : qm_Sg} {A : AS} (h : cS X σ A) : σ.1 10 X 7 = awO A := by obtain ⟨kd, vv, rw9, q1, q2, q3, h1, h2, h3, h4, h5, h6, h7, h8⟩ := h; exact h6
theorem mS.n {σ : qm_Sg} {A : AS} (h : mS σ A) : σ.1 50 0 0 = nI A.1 := by obtain ⟨kd, vv, rw9, q1, q2, q3, h1, h2, h3, h4, h5, h6, h7, h8⟩ := h; exact h1
theorem cS.n {X : Nat} {σ : qm_Sg} {A : AS} (h : cS X σ A) : σ.1 10 X 2 = nI A.1 := by obtain ⟨kd, vv, rw9, q1, q2, q3, h1, h2, h3, h4, h5, h6, h7, h8⟩ := h; exact h1
theorem mS.le {σ : qm_Sg} {A : AS} (h : mS σ A) : A.1 ≤ 6 := by obtain ⟨kd, vv, rw9, q1, q2, q3, h1, h2, h3⟩ := h; exact h2
theorem cS.le {X : Nat} {σ : qm_Sg} {A : AS} (h : cS X σ A) : A.1 ≤ 6 := by obtain ⟨kd, vv, rw9, q1, q2, q3, h1, h2, h3⟩ := h; exact h2
theorem mS.fg {T : Nat → Nat → Nat → Prop} {σ σ' : qm_Sg} {A : AS} (h : mS σ A) (hF : Fr T σ σ') (hT : ∀ t i j, pM t i j → ¬ T t i j) (h1 : ¬ T 50 0 1) : mS σ' A := h.fa hF hT ((hF.1 _ _ _ h1).trans h.aw)
theorem cS.fg {T : Nat → Nat → Nat → Prop} {X : Nat} {σ σ' : qm_Sg} {A : AS} (h : cS X σ A) (hF : Fr T σ σ') (hT : ∀ t i j, pC X t i j → ¬ T t i j) (h1 : ¬ T 10 X 7) : cS X σ' A := h.fa hF hT ((hF.1 _ _ _ h1).trans h.aw)
theorem mV.fg {T : Nat → Nat → Nat → Prop} {σ σ' : qm_Sg} {D : DD} (h : mV σ D) (hF : Fr T σ σ') (hT : ∀ t i j, (t = 53 ∨ t = 54 ∨ (t = 50 ∧ (j = 2 ∨ j = 3))) → ¬ T t i j) : mV σ' D := by
  obtain ⟨E, ⟨h1, h2, h3, h4⟩, e⟩ := h
  exact ⟨E, ⟨by rw [hF.row (fun j => hT _ _ _ (by omega))]; exact h1, by rw [hF.row (fun j => hT _ _ _ (by omega))]; exact h2, by rw [hF.1 _ _ _ (hT _ _ _ (by omega))]; exact h3, by rw [hF.1 _ _ _ (hT _ _ _ (by omega))]; exact h4⟩, e⟩
theorem cV.fg {T : Nat → Nat → Nat → Prop} {X : Nat} {σ σ' : qm_Sg} {D : DD} (h : cV X σ D) (hF : Fr T σ σ') (hT : ∀ t i j, (i = X ∧ (t = 13 ∨ t = 14 ∨ (t = 10 ∧ (j = 9 ∨ j = 10)))) → ¬ T t i j) : cV X σ' D := by
  obtain ⟨E, ⟨h1, h2, h3, h4⟩, e⟩ := h
  exact ⟨E, ⟨by rw [hF.row (fun j => hT _ _ _ (by omega))]; exact h1, by rw [hF.row (fun j => hT _ _ _ (by omega))]; exact h2, by rw [hF.1 _ _ _ (hT _ _ _ (by omega))]; exact h3, by rw [hF.1 _ _ _ (hT _ _ _ (by omega))]; exact h4⟩, e⟩
theorem mV.o {σ : qm_Sg} {D : DD} (h : mV σ D) : Q6 (σ.1 53 0) D.1 := by obtain ⟨E, ⟨h1, h2, h3, h4⟩, e1, e2, e3⟩ := h; rw [h1]; exact e1
theorem mV.l {σ : qm_Sg} {D : DD} (h : mV σ D) : Q6 (σ.1 54 0) D.2.1 := by obtain ⟨E, ⟨h1, h2, h3, h4⟩, e1, e2, e3⟩ := h; rw [h2]; exact e2
theorem mV.d {σ : qm_Sg} {D : DD} (h : mV σ D) : σ.1 50 0 2 = D.2.2.1 := by obtain ⟨E, ⟨h1, h2, h3, h4⟩, e1, e2, e3⟩ := h; rw [h3, e3]
theorem mV.m {σ : qm_Sg} {D : DD} (h : mV σ D) : σ.1 50 0 3 = nI D.2.2.2 := by obtain ⟨E, ⟨h1, h2, h3, h4⟩, e1, e2, e3⟩ := h; rw [h4, e3]
theorem cV.o {X : Nat} {σ : qm_Sg} {D : DD} (h : cV X σ D) : Q6 (σ.1 13 X) D.1 := by obtain ⟨E, ⟨h1, h2, h3, h4⟩, e1, e2, e3⟩ := h; rw [h1]; exact e1
theorem cV.l {X : Nat} {σ : qm_Sg} {D : DD} (h : cV X σ D) : Q6 (σ.1 14 X) D.2.1 := by obtain ⟨E, ⟨h1, h2, h3, h4⟩, e1, e2, e3⟩ := h; rw [h2]; exact e2
theorem cV.d {X : Nat} {σ : qm_Sg} {D : DD} (h : cV X σ D) : σ.1 10 X 9 = D.2.2.1 := by obtain ⟨E, ⟨h1, h2, h3, h4⟩, e1, e2, e3⟩ := h; rw [h3, e3]
theorem cV.m {X : Nat} {σ : qm_Sg} {D : DD} (h : cV X σ D) : σ.1 10 X 10 = nI D.2.2.2 := by obtain ⟨E, ⟨h1, h2, h3, h4⟩, e1, e2, e3⟩ := h; rw [h4, e3]
theorem mV.of {σ : qm_Sg} {D : DD} (h1 : Q6 (σ.1 53 0) D.1) (h2 : Q6 (σ.1 54 0) D.2.1) (h3 : σ.1 50 0 2 = D.2.2.1) (h4 : σ.1 50 0 3 = nI D.2.2.2) : mV σ D := ⟨(σ.1 53 0, σ.1 54 0, D.2.2), ⟨rfl, rfl, h3, h4⟩, h1, h2, rfl⟩
theorem cV.of {X : Nat} {σ : qm_Sg} {D : DD} (h1 : Q6 (σ.1 13 X) D.1) (h2 : Q6 (σ.1 14 X) D.2.1) (h3 : σ.1 10 X 9 = D.2.2.1) (h4 : σ.1 10 X 10 = nI D.2.2.2) : cV X σ D := ⟨(σ.1 13 X, σ.1 14 X, D.2.2), ⟨rfl, rfl, h3, h4⟩, h1, h2, rfl⟩
/-- only trials changed -/
def tT (t i _ : Nat) : Prop := t = 33 ∨ (i = 2 ∧ 10 ≤ t ∧ t ≤ 15)
/-- only what the reference works on and puts back -/
def tQ (t _ j : Nat) : Prop := t = 65 ∨ t = 53 ∨ t = 54 ∨ t = 66 ∨ t = 67 ∨ (t = 50 ∧ (j = 1 ∨ j = 2 ∨ j = 3 ∨ j = 27 ∨ j = 28 ∨ j = 29))
def mK (σ : qm_Sg) (a : Int32) (D : DD) : Prop := σ.1 50 0 27 = a ∧ σ.1 50 0 28 = D.2.2.1 ∧ σ.1 50 0 29 = nI D.2.2.2 ∧ Q6 (σ.1 66 0) D.1 ∧ Q6 (σ.1 67 0) D.2.1
theorem mK.fg {T : Nat → Nat → Nat → Prop} {σ σ' : qm_Sg} {a : Int32} {D : DD} (h : mK σ a D) (hF : Fr T σ σ') (hT : ∀ t i j, (t = 66 ∨ t = 67 ∨ (t = 50 ∧ (j = 27 ∨ j = 28 ∨ j = 29))) → ¬ T t i j) : mK σ' a D := by
  obtain ⟨h1, h2, h3, h4, h5⟩ := h
  exact ⟨by rw [hF.1 _ _ _ (hT _ _ _ (by omega))]; exact h1, by rw [hF.1 _ _ _ (hT _ _ _ (by omega))]; exact h2, by rw [hF.1 _ _ _ (hT _ _ _ (by omega))]; exact h3, by rw [hF.row (fun j => hT _ _ _ (by omega))]; exact h4, by rw [hF.row (fun j => hT _ _ _ (by omega))]; exact h5⟩
def tSv (t _ j : Nat) : Prop := t = 66 ∨ t = 67 ∨ (t = 50 ∧ (j = 27 ∨ j = 28 ∨ j = 29))
def tPB (t _ j : Nat) : Prop := t = 53 ∨ t = 54 ∨ (t = 50 ∧ (j = 1 ∨ j = 2 ∨ j = 3))
theorem m_save_l {d : Nat} {σ0 : qm_Sg} {Q : qm_Po} (h : ∀ σ', Fr tSv σ0 σ' → (∀ j, j < 6 → σ'.1 66 0 j = σ0.1 53 0 j ∧ σ'.1 67 0 j = σ0.1 54 0 j) → (∀ j, σ'.1 50 0 j = σ0.1 50 0 j) → Q σ' none) : ∀ (k q : Nat) (σ : qm_Sg), q + k = 6 → Fr tSv σ0 σ → (∀ j, j < q → σ.1 66 0 j = σ0.1 53 0 j ∧ σ.1 67 0 j = σ0.1 54 0 j) → (∀ j, σ.1 50 0 j = σ0.1 50 0 j) → qm_Wp (qm_M d) qk_154 Q 14 [some (vR 50 0), some (vI (nI q))] [] σ
  | 0, q, σ, e, f0, hq, h5 => by
    have : q = 6 := by omega
    subst this
    refine qm_go 3 (fun P hP => And.intro (fun _ => hP ?_) (fun c => absurd (by decide) c))
    refine qm_go 1 (fun P hP => h σ f0 hq h5)
  | k + 1, q, σ, e, f0, hq, h5 => by
    have q6 : q < 6 := by omega
    have e1 : σ.1 53 0 q = σ0.1 53 0 q := f0.1 _ _ _ (by unfold tSv; omega)
    have e2 : σ.1 54 0 q = σ0.1 54 0 q := f0.1 _ _ _ (by unfold tSv; omega)
    refine qm_go 3 (fun P hP => And.intro (fun c => absurd c (nI_ge (b := 6) (by omega) (by omega))) (fun _ => hP ?_))
    refine qm_go 7 (fun P hP => Exists.intro (_) (And.intro (And.intro (rfl) (q6)) (hP ?_)))
    refine qm_go 1 (fun P hP => Exists.intro (_) (And.intro (And.intro (rfl) (q6)) (hP ?_)))
    refine qm_go 7 (fun P hP => Exists.intro (_) (And.intro (And.intro (rfl) (q6)) (hP ?_)))
    refine qm_go 1 (fun P hP => Exists.intro (_) (And.intro (And.intro (rfl) (q6)) (hP ?_)))
    refine qm_go 2 (fun P hP => hP ?_)
    rw [nI_1]
    refine m_save_l h k (q + 1) _ (by omega) (Fr.p1 (Fr.p1 f0 (by unfold tSv; omega)) (by unfold tSv; omega)) (fun j hj => ?_) (fun j => by rw [wF_ne _ _ (by omega), wF_ne _ _ (by omega)]; exact h5 j)
    by_cases ej : j = q
    · subst ej
      exact ⟨by rw [wF_ne _ _ (by omega), wv_same, e1], by rw [wv_same, wF_ne _ _ (by omega), e2]⟩
    · obtain ⟨a1, a2⟩ := hq j (by omega)
      exact ⟨by rw [wF_ne _ _ (by omega), wv_ne ej]; exact a1, by rw [wv_ne ej, wF_ne _ _ (by omega)]; exact a2⟩
theorem m_save {d : Nat} (hd : 1 ≤ d) {σ : qm_Sg} {Q : qm_Po} {A : AS} {D : DD} (hs : mS σ A) (hv : mV σ D) (h : ∀ σ', Fr tSv σ σ' → mS σ' A → mV σ' D → mK σ' (awO A) D → Q σ' none) : qm_M d 154 [vR 50 0] σ Q := by
  obtain ⟨d, rfl, hd⟩ := qm_dn hd
  show qm_Wp (qm_M d) qk_154 Q 0 [some (vR 50 0), none] [] σ
  refine qm_go 14 (fun P hP => hP ?_)
  generalize hσ : wF _ 50 0 (upd _ 29 _) = σ1
  have F : Fr tSv σ σ1 := by
    rw [← hσ]
    exact Fr.p1 (Fr.p1 (Fr.p1 Fr.rf (by unfold tSv; omega)) (by unfold tSv; omega)) (by unfold tSv; omega)
  have k1 : σ1.1 50 0 27 = σ.1 50 0 1 := by rw [← hσ]; rfl
  have k2 : σ1.1 50 0 28 = σ.1 50 0 2 := by rw [← hσ]; rfl
  have k3 : σ1.1 50 0 29 = σ.1 50 0 3 := by rw [← hσ]; rfl
  have o1 : σ1.1 53 0 = σ.1 53 0 := F.row (fun j => by unfold tSv; omega)
  have o2 : σ1.1 54 0 = σ.1 54 0 := F.row (fun j => by unfold tSv; omega)
  refine m_save_l (fun σ2 f2 e2 e5 => ?_) 6 0 σ1 (by omega) Fr.rf (fun j hj => absurd hj (by omega)) (fun j => rfl)
  refine h σ2 (F.tr f2) (hs.fg (F.tr f2) (fun t i j q => by unfold pM at q; unfold tSv; omega) (by unfold tSv; omega)) (hv.fg (F.tr f2) (fun t i j q => by unfold tSv; omega)) ⟨?_, ?_, ?_, fun j hj => ?_, fun j hj => ?_⟩
  · rw [e5, k1]; exact hs.aw
  · rw [e5, k2]; exact hv.d
  · rw [e5, k3]; exact hv.m
  · rw [(e2 j hj).1, o1]; exact hv.o j hj
  · rw [(e2 j hj).2, o2]; exact hv.l j hj
theorem m_putBack_l {d : Nat} {σ0 : qm_Sg} {Q : qm_Po} (h : ∀ σ', Fr tPB σ0 σ' → (∀ j, j < 6 → σ'.1 53 0 j = σ0.1 66 0 j ∧ σ'.1 54 0 j = σ0.1 67 0 j) → (∀ j, σ'.1 50 0 j = σ0.1 50 0 j) → Q σ' none) : ∀ (k q : Nat) (σ : qm_Sg), q + k = 6 → Fr tPB σ0 σ → (∀ j, j < q → σ.1 53 0 j = σ0.1 66 0 j ∧ σ.1 54 0 j = σ0.1 67 0 j) → (∀ j, σ.1 50 0 j = σ0.1 50 0 j) → qm_Wp (qm_M d) qk_155 Q 14 [some (vR 50 0), some (vI (nI q))] [] σ
  | 0, q, σ, e, f0, hq, h5 => by
    have : q = 6 := by omega
    subst this
    refine qm_go 3 (fun P hP => And.intro (fun _ => hP ?_) (fun c => absurd (by decide) c))
    refine qm_go 1 (fun P hP => h σ f0 hq h5)
  | k + 1, q, σ, e, f0, hq, h5 => by
    have q6 : q < 6 := by omega
    have e1 : σ.1 66 0 q = σ0.1 66 0 q := f0.1 _ _ _ (by unfold tPB; omega)
    have e2 : σ.1 67 0 q = σ0.1 67 0 q := f0.1 _ _ _ (by unfold tPB; omega)
    refine qm_go 3 (fun P hP => And.intro (fun c => absurd c (nI_ge (b := 6) (by omega) (by omega))) (fun _ => hP ?_))
    refine qm_go 7 (fun P hP => Exists.intro (_) (And.intro (And.intro (rfl) (q6)) (hP ?_)))
    refine qm_go 1 (fun P hP => Exists.intro (_) (And.intro (And.intro (rfl) (q6)) (hP ?_)))
    refine qm_go 7 (fun P hP => Exists.intro (_) (And.intro (And.intro (rfl) (q6)) (hP ?_)))
    refine qm_go 1 (fun P hP => Exists.intro (_) (And.intro (And.intro (rfl) (q6)) (hP ?_)))
    refine qm_go 2 (fun P hP => hP ?_)
    rw [nI_1]
    refine m_putBack_l h k (q + 1) _ (by omega) (Fr.p1 (Fr.p1 f0 (by unfold tPB; omega)) (by unfold tPB; omega)) (fun j hj => ?_) (fun j => by rw [wF_ne _ _ (by omega), wF_ne _ _ (by omega)]; exact h5 j)
    by_cases ej : j = q
    · subst ej
      exact ⟨by rw [wF_ne _ _ (by omega), wv_same, e1], by rw [wv_same, wF_ne _ _ (by omega), e2]⟩
    · obtain ⟨a1, a2⟩ := hq j (by omega)
      exact ⟨by rw [wF_ne _ _ (by omega), wv_ne ej]; exact a1, by rw [wv_ne ej, wF_ne _ _ (by omega)]; exact a2⟩
theorem m_putBack {d : Nat} (hd : 1 ≤ d) {σ : qm_Sg} {Q : qm_Po} {A : AS} {a : Int32} {D : DD} (hs : mS σ A) (hk : mK σ a D) (h : ∀ σ', Fr tPB σ σ' → mS σ' (awA A a) → mV σ' D → Q σ' none) : qm_M d 155 [vR 50 0] σ Q := by
  obtain ⟨d, rfl, hd⟩ := qm_dn hd
  show qm_Wp (qm_M d) qk_155 Q 0 [some (vR 50 0), none] [] σ
  refine qm_go 14 (fun P hP => hP ?_)
  generalize hσ : wF _ 50 0 (upd _ 3 _) = σ1
  have F : Fr tPB σ σ1 := by
    rw [← hσ]
    exact Fr.p1 (Fr.p1 (Fr.p1 Fr.rf (by unfold tPB; omega)) (by unfold tPB; omega)) (by unfold tPB; omega)
  have k1 : σ1.1 50 0 1 = σ.1 50 0 27 := by rw [← hσ]; rfl
  have k2 : σ1.1 50 0 2 = σ.1 50 0 28 := by rw [← hσ]; rfl
  have k3 : σ1.1 50 0 3 = σ.1 50 0 29 := by rw [← hσ]; rfl
  have o1 : σ1.1 66 0 = σ.1 66 0 := F.row (fun j => by unfold tPB; omega)
  have o2 : σ1.1 67 0 = σ.1 67 0 := F.row (fun j => by unfold tPB; omega)
  obtain ⟨g1, g2, g3, g4, g5⟩ := hk
  refine m_putBack_l (fun σ2 f2 e2 e5 => ?_) 6 0 σ1 (by omega) Fr.rf (fun j hj => absurd hj (by omega)) (fun j => rfl)
  refine h σ2 (F.tr f2) (hs.fa (F.tr f2) (fun t i j q => by unfold pM at q; unfold tPB; omega) ?_) (mV.of (fun j hj => ?_) (fun j hj => ?_) ?_ ?_)
  · rw [e5, k1]; exact g1
  · rw [(e2 j hj).1, o1]; exact g4 j hj
  · rw [(e2 j hj).2, o2]; exact g5 j hj
  · rw [e5, k2]; exact g2
  · rw [e5, k3]; exact g3
