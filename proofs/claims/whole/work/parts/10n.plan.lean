abbrev P9 : Type := List (Nat × Nat)
def cPlan (σ : qm_Sg) (P : P9) : Prop := σ.1 20 0 1 = nI P.length ∧ P.length ≤ 10 ∧ ∀ (i : Nat) (q : Nat × Nat), P[i]? = some q → σ.1 21 0 i = nI q.1 ∧ (q.1 ≠ 0 → σ.1 22 0 i = nI q.2)
def mPlan (σ : qm_Sg) (P : P9) : Prop := σ.1 50 0 36 = nI P.length ∧ P.length ≤ 10 ∧ ∀ (i : Nat) (q : Nat × Nat), P[i]? = some q → σ.1 71 0 i = nI q.1 ∧ (q.1 ≠ 0 → σ.1 72 0 i = nI q.2)
def wfP (n : Nat) (P : P9) : Prop := ∀ q ∈ P, q.1 < 4 ∧ (q.1 ≠ 0 → q.2 < n)
theorem cPlan.fg {T : Nat → Nat → Nat → Prop} {σ σ' : qm_Sg} {P : P9} (h : cPlan σ P) (hF : Fr T σ σ') (hT : ∀ t i j, i = 0 → 20 ≤ t → t ≤ 22 → ¬ T t i j) : cPlan σ' P := by
  obtain ⟨h1, h2, h3⟩ := h
  refine ⟨by rw [hF.1 _ _ _ (hT _ _ _ rfl (by omega) (by omega))]; exact h1, h2, fun i q hq => ?_⟩
  rw [hF.1 _ _ _ (hT _ _ _ rfl (by omega) (by omega)), hF.1 _ _ _ (hT _ _ _ rfl (by omega) (by omega))]
  exact h3 i q hq
theorem mPlan.fg {T : Nat → Nat → Nat → Prop} {σ σ' : qm_Sg} {P : P9} (h : mPlan σ P) (hF : Fr T σ σ') (hT : ∀ t i j, ((t = 50 ∧ j = 36) ∨ t = 71 ∨ t = 72) → ¬ T t i j) : mPlan σ' P := by
  obtain ⟨h1, h2, h3⟩ := h
  refine ⟨by rw [hF.1 _ _ _ (hT _ _ _ (by omega))]; exact h1, h2, fun i q hq => ?_⟩
  rw [hF.1 _ _ _ (hT _ _ _ (by omega)), hF.1 _ _ _ (hT _ _ _ (by omega))]
  exact h3 i q hq
theorem cPlan.tr {σ σ' : qm_Sg} {P : P9} (h : cPlan σ P) (hF : Fr tT σ σ') : cPlan σ' P := h.fg hF (fun t i j a b c => by unfold tT; omega)
theorem mPlan.tr {σ σ' : qm_Sg} {P : P9} (h : mPlan σ P) (hF : Fr tQ σ σ') : mPlan σ' P := h.fg hF (fun t i j a => by unfold tQ; omega)
def stepP (Z : AS × DD) (q : Nat × Nat) : AS × DD :=
  if q.1 = 0 then (Z.1, goA Z.1 1 Z.2) else if q.1 = 3 then (Z.1, oD Z.2 q.2 0)
  else if q.1 = 1 then (awA Z.1 (awO Z.1 ||| 1 <<< (nI q.2 &&& 31)), Z.2) else (awA Z.1 (awO Z.1 &&& ((1 <<< (nI q.2 &&& 31)) ^^^ (-1))), Z.2)
theorem stepP_n (Z : AS × DD) (q : Nat × Nat) : (stepP Z q).1.1 = Z.1.1 := by
  unfold stepP
  split
  · rfl
  · split
    · rfl
    · split <;> rfl
theorem stepP_m (Z : AS × DD) (q : Nat × Nat) : (stepP Z q).2.2.2.2 ≤ Z.2.2.2.2 + 1 := by
  unfold stepP
  split
  · exact Nat.le_of_eq (goA_m Z.1 1 Z.2)
  · split
    · exact Nat.le_succ _
    · split <;> exact Nat.le_succ _
theorem c_goPlan {d : Nat} (hd : 7 ≤ d) {σ : qm_Sg} {Q : qm_Po} {A : AS} {D : DD} {w u : Nat} {x : Int32} (hw : w < 4) (hu : w ≠ 0 → u < A.1) (hx : w ≠ 0 → x = nI u) (hs : cS 2 σ A) (hv : cV 2 σ D) (hm : D.2.2.2 + 1 < 2 ^ 30) (h : ∀ σ', Fr tT σ σ' → cS 2 σ' (stepP (A, D) (w, u)).1 → cV 2 σ' (stepP (A, D) (w, u)).2 → Q σ' none) : qm_M d 108 [vR 0 0, vI (nI w), vI x] σ Q := by
  obtain ⟨d, rfl, hd⟩ := qm_dn hd
  show qm_Wp (qm_M d) qk_108 Q 0 [some (vR 0 0), some (vI (nI w)), some (vI x)] [] σ
  have hn6 := hs.le
  rcases (show w = 0 ∨ w = 1 ∨ w = 2 ∨ w = 3 by omega) with rfl | rfl | rfl | rfl
  · skip
    refine qm_go 2 (fun P hP => And.intro (fun c => absurd rfl c) (fun _ => hP ?_))
    refine qm_go 4 (fun P hP => c_goA (k9 := 1) (by omega) (by omega) hs hv (by omega) (fun σ1 f1 s1 v1 => hP ?_))
    refine qm_go 2 (fun P hP => h σ1 (f1.mono (fun _ _ _ q => tC_T q)) s1 v1)
  · skip
    obtain rfl := hx (by decide)
    have hu : u < 6 := by have := hu (by decide); omega
    refine qm_go 2 (fun P hP => And.intro (fun _ => hP ?_) (fun c => absurd c (by decide)))
    refine qm_go 3 (fun P hP => And.intro (fun _ => hP ?_) (fun c => absurd c (by decide)))
    refine qm_go 6 (fun P hP => And.intro (fun c => absurd rfl c) (fun _ => hP ?_))
    refine qm_go 3 (fun P hP => c_puts (by omega) (fun z => hP ?_) (fun z => absurd z (by decide)))
    refine qm_go 1 (fun P hP => ?_)
    refine h _ (Fr.w1 (Or.inr ⟨rfl, by decide, by decide⟩)) (hs.fa (T := fun t i j => t = 10 ∧ i = 2 ∧ j = 7) (Fr.w1 ⟨rfl, rfl, rfl⟩) (fun t i j q => by unfold pC at q; omega) (by rw [wv_same, hs.aw])) (hv.fg (T := fun t i j => t = 10 ∧ i = 2 ∧ j = 7) (Fr.w1 ⟨rfl, rfl, rfl⟩) (fun t i j q => by omega))
  · skip
    obtain rfl := hx (by decide)
    have hu : u < 6 := by have := hu (by decide); omega
    refine qm_go 2 (fun P hP => And.intro (fun _ => hP ?_) (fun c => absurd c (by decide)))
    refine qm_go 3 (fun P hP => And.intro (fun _ => hP ?_) (fun c => absurd c (by decide)))
    refine qm_go 6 (fun P hP => And.intro (fun _ => hP ?_) (fun c => absurd c (by decide)))
    refine qm_go 2 (fun P hP => c_puts (by omega) (fun z => absurd rfl z) (fun z => hP ?_))
    refine qm_go 1 (fun P hP => ?_)
    refine h _ (Fr.w1 (Or.inr ⟨rfl, by decide, by decide⟩)) (hs.fa (T := fun t i j => t = 10 ∧ i = 2 ∧ j = 7) (Fr.w1 ⟨rfl, rfl, rfl⟩) (fun t i j q => by unfold pC at q; omega) (by rw [wv_same, hs.aw])) (hv.fg (T := fun t i j => t = 10 ∧ i = 2 ∧ j = 7) (Fr.w1 ⟨rfl, rfl, rfl⟩) (fun t i j q => by omega))
  · skip
    obtain rfl := hx (by decide)
    have hu : u < 6 := by have := hu (by decide); omega
    refine qm_go 2 (fun P hP => And.intro (fun _ => hP ?_) (fun c => absurd c (by decide)))
    refine qm_go 3 (fun P hP => And.intro (fun c => absurd rfl c) (fun _ => hP ?_))
    refine qm_go 6 (fun P hP => Exists.intro (u) (And.intro (And.intro (rfl) (hu)) (hP ?_)))
    refine qm_go 2 (fun P hP => ?_)
    refine h _ (Fr.w1 (Or.inr ⟨rfl, by decide, by decide⟩)) (hs.fg (T := fun t i j => t = 13) (Fr.w1 rfl) (fun t i j q => by unfold pC at q; omega) (by omega)) (cV.of (by rw [wF_same]; exact hv.o.up u 0) (by rw [wF_ne _ _ (by omega)]; exact hv.l) (by rw [wF_ne _ _ (by omega)]; exact hv.d) (by rw [wF_ne _ _ (by omega)]; exact hv.m))
theorem m_goPlan {d : Nat} (hd : 10 ≤ d) {σ : qm_Sg} {Q : qm_Po} {A : AS} {D : DD} {w u : Nat} {x : Int32} (hw : w < 4) (hu : w ≠ 0 → u < A.1) (hx : w ≠ 0 → x = nI u) (hs : mS σ A) (hv : mV σ D) (hm : D.2.2.2 + 1 < 2 ^ 30) (h : ∀ σ', Fr tQ σ σ' → (∀ a E, mK σ a E → mK σ' a E) → mS σ' (stepP (A, D) (w, u)).1 → mV σ' (stepP (A, D) (w, u)).2 → Q σ' none) : qm_M d 172 [vR 50 0, vI (nI w), vI x] σ Q := by
  obtain ⟨d, rfl, hd⟩ := qm_dn hd
  show qm_Wp (qm_M d) qk_172 Q 0 [some (vR 50 0), some (vI (nI w)), some (vI x)] [] σ
  have hn6 := hs.le
  rcases (show w = 0 ∨ w = 1 ∨ w = 2 ∨ w = 3 by omega) with rfl | rfl | rfl | rfl
  · skip
    refine qm_go 2 (fun P hP => And.intro (fun c => absurd rfl c) (fun _ => hP ?_))
    refine qm_go 2 (fun P hP => m_goA1 (by omega) hs hv (by omega) (fun σ1 f1 s1 v1 => hP ?_))
    refine qm_go 5 (fun P hP => m_in (by omega) (fun y1 y2 => absurd (by decide) y1) (fun z => hP ?_))
    refine qm_go 1 (fun P hP => And.intro (fun _ => hP ?_) (fun c => absurd rfl c))
    refine qm_go 3 (fun P hP => And.intro (fun _ => hP ?_) (fun c => absurd c (by decide)))
    refine qm_go 1 (fun P hP => h σ1 (f1.mono (fun _ _ _ q => tM_Q q)) (fun a E k => k.fg f1 (fun t i j q => by unfold tM; omega)) s1 v1)
  · skip
    obtain rfl := hx (by decide)
    have hu : u < 6 := by have := hu (by decide); omega
    refine qm_go 2 (fun P hP => And.intro (fun _ => hP ?_) (fun c => absurd c (by decide)))
    refine qm_go 5 (fun P hP => m_in (by omega) (fun y1 y2 => hP ?_) (fun z => absurd ⟨by decide, by decide⟩ z))
    refine qm_go 1 (fun P hP => And.intro (fun c => absurd c (by decide)) (fun _ => hP ?_))
    refine qm_go 5 (fun P hP => And.intro (fun c => absurd rfl c) (fun _ => hP ?_))
    refine qm_go 3 (fun P hP => m_puts (by omega) (fun z => hP ?_) (fun z => absurd z (by decide)))
    refine qm_go 3 (fun P hP => And.intro (fun _ => hP ?_) (fun c => absurd c (by decide)))
    refine qm_go 1 (fun P hP => ?_)
    refine h _ (Fr.w1 (by unfold tQ; omega)) (fun a E k => k.fg (T := fun t i j => t = 50 ∧ j = 1) (Fr.w1 ⟨rfl, rfl⟩) (fun t i j q => by omega)) (hs.fa (T := fun t i j => t = 50 ∧ j = 1) (Fr.w1 ⟨rfl, rfl⟩) (fun t i j q => by unfold pM at q; omega) (by rw [wv_same, hs.aw])) (hv.fg (T := fun t i j => t = 50 ∧ j = 1) (Fr.w1 ⟨rfl, rfl⟩) (fun t i j q => by omega))
  · skip
    obtain rfl := hx (by decide)
    have hu : u < 6 := by have := hu (by decide); omega
    refine qm_go 2 (fun P hP => And.intro (fun _ => hP ?_) (fun c => absurd c (by decide)))
    refine qm_go 5 (fun P hP => m_in (by omega) (fun y1 y2 => hP ?_) (fun z => absurd ⟨by decide, by decide⟩ z))
    refine qm_go 1 (fun P hP => And.intro (fun c => absurd c (by decide)) (fun _ => hP ?_))
    refine qm_go 5 (fun P hP => And.intro (fun _ => hP ?_) (fun c => absurd c (by decide)))
    refine qm_go 2 (fun P hP => m_puts (by omega) (fun z => absurd rfl z) (fun z => hP ?_))
    refine qm_go 3 (fun P hP => And.intro (fun _ => hP ?_) (fun c => absurd c (by decide)))
    refine qm_go 1 (fun P hP => ?_)
    refine h _ (Fr.w1 (by unfold tQ; omega)) (fun a E k => k.fg (T := fun t i j => t = 50 ∧ j = 1) (Fr.w1 ⟨rfl, rfl⟩) (fun t i j q => by omega)) (hs.fa (T := fun t i j => t = 50 ∧ j = 1) (Fr.w1 ⟨rfl, rfl⟩) (fun t i j q => by unfold pM at q; omega) (by rw [wv_same, hs.aw])) (hv.fg (T := fun t i j => t = 50 ∧ j = 1) (Fr.w1 ⟨rfl, rfl⟩) (fun t i j q => by omega))
  · skip
    obtain rfl := hx (by decide)
    have hu : u < 6 := by have := hu (by decide); omega
    refine qm_go 2 (fun P hP => And.intro (fun _ => hP ?_) (fun c => absurd c (by decide)))
    refine qm_go 5 (fun P hP => m_in (by omega) (fun y1 y2 => absurd (by decide) y2) (fun z => hP ?_))
    refine qm_go 1 (fun P hP => And.intro (fun _ => hP ?_) (fun c => absurd rfl c))
    refine qm_go 3 (fun P hP => And.intro (fun c => absurd rfl c) (fun _ => hP ?_))
    refine qm_go 5 (fun P hP => Exists.intro (u) (And.intro (And.intro (rfl) (hu)) (hP ?_)))
    refine qm_go 1 (fun P hP => ?_)
    refine h _ (Fr.w1 (Or.inr (Or.inl rfl))) (fun a E k => k.fg (T := fun t i j => t = 53) (Fr.w1 rfl) (fun t i j q => by omega)) (hs.fg (T := fun t i j => t = 53) (Fr.w1 rfl) (fun t i j q => by unfold pM at q; omega) (by omega)) (mV.of (by rw [wF_same]; exact hv.o.up u 0) (by rw [wF_ne _ _ (by omega)]; exact hv.l) (by rw [wF_ne _ _ (by omega)]; exact hv.d) (by rw [wF_ne _ _ (by omega)]; exact hv.m))
