theorem m_im6 {d : Nat} {σ0 : qm_Sg} {Q : qm_Po} (h : ∀ σ', Fr (fun t i j => t = 75 ∨ t = 76 ∨ t = 77 ∨ t = 78) σ0 σ' → (∀ j, j < 6 → σ'.1 75 0 j = σ0.1 51 0 j ∧ σ'.1 76 0 j = σ0.1 52 0 j ∧ σ'.1 77 0 j = σ0.1 53 0 j ∧ σ'.1 78 0 j = σ0.1 54 0 j) → qm_Wp (qm_M d) qk_177 Q 74 [some (vR 50 0), some (vI (nI 6))] [] σ') : ∀ (k q : Nat) (σ : qm_Sg), q + k = 6 → Fr (fun t i j => t = 75 ∨ t = 76 ∨ t = 77 ∨ t = 78) σ0 σ → (∀ j, j < q → σ.1 75 0 j = σ0.1 51 0 j ∧ σ.1 76 0 j = σ0.1 52 0 j ∧ σ.1 77 0 j = σ0.1 53 0 j ∧ σ.1 78 0 j = σ0.1 54 0 j) → qm_Wp (qm_M d) qk_177 Q 37 [some (vR 50 0), some (vI (nI q))] [] σ
  | 0, q, σ, e, f0, hq => by
    have : q = 6 := by omega
    subst this
    refine qm_go 3 (fun P hP => And.intro (fun _ => hP ?_) (fun c => absurd (by decide) c))
    exact h σ f0 hq
  | k + 1, q, σ, e, f0, hq => by
    have q6 : q < 6 := by omega
    have e0 : σ.1 51 0 q = σ0.1 51 0 q := f0.1 _ _ _ (by omega)
    have e1 : σ.1 52 0 q = σ0.1 52 0 q := f0.1 _ _ _ (by omega)
    have e2 : σ.1 53 0 q = σ0.1 53 0 q := f0.1 _ _ _ (by omega)
    have e3 : σ.1 54 0 q = σ0.1 54 0 q := f0.1 _ _ _ (by omega)
    refine qm_go 3 (fun P hP => And.intro (fun c => absurd c (nI_ge (b := 6) (by omega) (by omega))) (fun _ => hP ?_))
    refine qm_go 7 (fun P hP => Exists.intro (_) (And.intro (And.intro (rfl) (q6)) (hP ?_)))
    refine qm_go 1 (fun P hP => Exists.intro (_) (And.intro (And.intro (rfl) (q6)) (hP ?_)))
    refine qm_go 7 (fun P hP => Exists.intro (_) (And.intro (And.intro (rfl) (q6)) (hP ?_)))
    refine qm_go 1 (fun P hP => Exists.intro (_) (And.intro (And.intro (rfl) (q6)) (hP ?_)))
    refine qm_go 7 (fun P hP => Exists.intro (_) (And.intro (And.intro (rfl) (q6)) (hP ?_)))
    refine qm_go 1 (fun P hP => Exists.intro (_) (And.intro (And.intro (rfl) (q6)) (hP ?_)))
    refine qm_go 7 (fun P hP => Exists.intro (_) (And.intro (And.intro (rfl) (q6)) (hP ?_)))
    refine qm_go 1 (fun P hP => Exists.intro (_) (And.intro (And.intro (rfl) (q6)) (hP ?_)))
    refine qm_go 2 (fun P hP => hP ?_)
    rw [nI_1]
    refine m_im6 h k (q + 1) _ (by omega) (Fr.p1 (Fr.p1 (Fr.p1 (Fr.p1 f0 (by omega)) (by omega)) (by omega)) (by omega)) (fun j hj => ?_)
    by_cases ej : j = q
    · subst ej
      exact ⟨by rw [wF_ne _ _ (by omega), wF_ne _ _ (by omega), wF_ne _ _ (by omega), wv_same, e0], by rw [wF_ne _ _ (by omega), wF_ne _ _ (by omega), wv_same, wF_ne _ _ (by omega), e1], by rw [wF_ne _ _ (by omega), wv_same, wF_ne _ _ (by omega), wF_ne _ _ (by omega), e2], by rw [wv_same, wF_ne _ _ (by omega), wF_ne _ _ (by omega), wF_ne _ _ (by omega), e3]⟩
    · have ha := hq j (by omega)
      obtain ⟨a0, a1, a2, a3⟩ := ha
      exact ⟨by rw [wF_ne _ _ (by omega), wF_ne _ _ (by omega), wF_ne _ _ (by omega), wv_ne ej]; exact a0, by rw [wF_ne _ _ (by omega), wF_ne _ _ (by omega), wv_ne ej, wF_ne _ _ (by omega)]; exact a1, by rw [wF_ne _ _ (by omega), wv_ne ej, wF_ne _ _ (by omega), wF_ne _ _ (by omega)]; exact a2, by rw [wv_ne ej, wF_ne _ _ (by omega), wF_ne _ _ (by omega), wF_ne _ _ (by omega)]; exact a3⟩
theorem m_im24 {d : Nat} {σ0 : qm_Sg} {Q : qm_Po} (h : ∀ σ', Fr (fun t i j => t = 79) σ0 σ' → (∀ j, j < 24 → σ'.1 79 0 j = σ0.1 55 0 j) → qm_Wp (qm_M d) qk_177 Q 89 [some (vR 50 0), some (vI (nI 24))] [] σ') : ∀ (k q : Nat) (σ : qm_Sg), q + k = 24 → Fr (fun t i j => t = 79) σ0 σ → (∀ j, j < q → σ.1 79 0 j = σ0.1 55 0 j) → qm_Wp (qm_M d) qk_177 Q 76 [some (vR 50 0), some (vI (nI q))] [] σ
  | 0, q, σ, e, f0, hq => by
    have : q = 24 := by omega
    subst this
    refine qm_go 3 (fun P hP => And.intro (fun _ => hP ?_) (fun c => absurd (by decide) c))
    exact h σ f0 hq
  | k + 1, q, σ, e, f0, hq => by
    have q6 : q < 24 := by omega
    have e0 : σ.1 55 0 q = σ0.1 55 0 q := f0.1 _ _ _ (by omega)
    refine qm_go 3 (fun P hP => And.intro (fun c => absurd c (nI_ge (b := 24) (by omega) (by omega))) (fun _ => hP ?_))
    refine qm_go 7 (fun P hP => Exists.intro (_) (And.intro (And.intro (rfl) (q6)) (hP ?_)))
    refine qm_go 1 (fun P hP => Exists.intro (_) (And.intro (And.intro (rfl) (q6)) (hP ?_)))
    refine qm_go 2 (fun P hP => hP ?_)
    rw [nI_1]
    refine m_im24 h k (q + 1) _ (by omega) (Fr.p1 f0 (by omega)) (fun j hj => ?_)
    by_cases ej : j = q
    · subst ej
      exact by rw [wv_same, e0]
    · have ha := hq j (by omega)
      have a0 := ha
      exact by rw [wv_ne ej]; exact a0
theorem m_im5 {d : Nat} {σ0 : qm_Sg} {Q : qm_Po} (h : ∀ σ', Fr (fun t i j => t = 80 ∨ t = 81 ∨ t = 82) σ0 σ' → (∀ j, j < 5 → σ'.1 80 0 j = σ0.1 68 0 j ∧ σ'.1 81 0 j = σ0.1 69 0 j ∧ σ'.1 82 0 j = σ0.1 70 0 j) → qm_Wp (qm_M d) qk_177 Q 120 [some (vR 50 0), some (vI (nI 5))] [] σ') : ∀ (k q : Nat) (σ : qm_Sg), q + k = 5 → Fr (fun t i j => t = 80 ∨ t = 81 ∨ t = 82) σ0 σ → (∀ j, j < q → σ.1 80 0 j = σ0.1 68 0 j ∧ σ.1 81 0 j = σ0.1 69 0 j ∧ σ.1 82 0 j = σ0.1 70 0 j) → qm_Wp (qm_M d) qk_177 Q 91 [some (vR 50 0), some (vI (nI q))] [] σ
  | 0, q, σ, e, f0, hq => by
    have : q = 5 := by omega
    subst this
    refine qm_go 3 (fun P hP => And.intro (fun _ => hP ?_) (fun c => absurd (by decide) c))
    exact h σ f0 hq
  | k + 1, q, σ, e, f0, hq => by
    have q6 : q < 5 := by omega
    have e0 : σ.1 68 0 q = σ0.1 68 0 q := f0.1 _ _ _ (by omega)
    have e1 : σ.1 69 0 q = σ0.1 69 0 q := f0.1 _ _ _ (by omega)
    have e2 : σ.1 70 0 q = σ0.1 70 0 q := f0.1 _ _ _ (by omega)
    refine qm_go 3 (fun P hP => And.intro (fun c => absurd c (nI_ge (b := 5) (by omega) (by omega))) (fun _ => hP ?_))
    refine qm_go 7 (fun P hP => Exists.intro (_) (And.intro (And.intro (rfl) (q6)) (hP ?_)))
    refine qm_go 1 (fun P hP => Exists.intro (_) (And.intro (And.intro (rfl) (q6)) (hP ?_)))
    refine qm_go 7 (fun P hP => Exists.intro (_) (And.intro (And.intro (rfl) (q6)) (hP ?_)))
    refine qm_go 1 (fun P hP => Exists.intro (_) (And.intro (And.intro (rfl) (q6)) (hP ?_)))
    refine qm_go 7 (fun P hP => Exists.intro (_) (And.intro (And.intro (rfl) (q6)) (hP ?_)))
    refine qm_go 1 (fun P hP => Exists.intro (_) (And.intro (And.intro (rfl) (q6)) (hP ?_)))
    refine qm_go 2 (fun P hP => hP ?_)
    rw [nI_1]
    refine m_im5 h k (q + 1) _ (by omega) (Fr.p1 (Fr.p1 (Fr.p1 f0 (by omega)) (by omega)) (by omega)) (fun j hj => ?_)
    by_cases ej : j = q
    · subst ej
      exact ⟨by rw [wF_ne _ _ (by omega), wF_ne _ _ (by omega), wv_same, e0], by rw [wF_ne _ _ (by omega), wv_same, wF_ne _ _ (by omega), e1], by rw [wv_same, wF_ne _ _ (by omega), wF_ne _ _ (by omega), e2]⟩
    · have ha := hq j (by omega)
      obtain ⟨a0, a1, a2⟩ := ha
      exact ⟨by rw [wF_ne _ _ (by omega), wF_ne _ _ (by omega), wv_ne ej]; exact a0, by rw [wF_ne _ _ (by omega), wv_ne ej, wF_ne _ _ (by omega)]; exact a1, by rw [wv_ne ej, wF_ne _ _ (by omega), wF_ne _ _ (by omega)]; exact a2⟩
theorem m_im10 {d : Nat} {σ0 : qm_Sg} {Q : qm_Po} (h : ∀ σ', Fr (fun t i j => t = 83 ∨ t = 84) σ0 σ' → (∀ j, j < 10 → σ'.1 83 0 j = σ0.1 71 0 j ∧ σ'.1 84 0 j = σ0.1 72 0 j) → qm_Wp (qm_M d) qk_177 Q 143 [some (vR 50 0), some (vI (nI 10))] [] σ') : ∀ (k q : Nat) (σ : qm_Sg), q + k = 10 → Fr (fun t i j => t = 83 ∨ t = 84) σ0 σ → (∀ j, j < q → σ.1 83 0 j = σ0.1 71 0 j ∧ σ.1 84 0 j = σ0.1 72 0 j) → qm_Wp (qm_M d) qk_177 Q 122 [some (vR 50 0), some (vI (nI q))] [] σ
  | 0, q, σ, e, f0, hq => by
    have : q = 10 := by omega
    subst this
    refine qm_go 3 (fun P hP => And.intro (fun _ => hP ?_) (fun c => absurd (by decide) c))
    exact h σ f0 hq
  | k + 1, q, σ, e, f0, hq => by
    have q6 : q < 10 := by omega
    have e0 : σ.1 71 0 q = σ0.1 71 0 q := f0.1 _ _ _ (by omega)
    have e1 : σ.1 72 0 q = σ0.1 72 0 q := f0.1 _ _ _ (by omega)
    refine qm_go 3 (fun P hP => And.intro (fun c => absurd c (nI_ge (b := 10) (by omega) (by omega))) (fun _ => hP ?_))
    refine qm_go 7 (fun P hP => Exists.intro (_) (And.intro (And.intro (rfl) (q6)) (hP ?_)))
    refine qm_go 1 (fun P hP => Exists.intro (_) (And.intro (And.intro (rfl) (q6)) (hP ?_)))
    refine qm_go 7 (fun P hP => Exists.intro (_) (And.intro (And.intro (rfl) (q6)) (hP ?_)))
    refine qm_go 1 (fun P hP => Exists.intro (_) (And.intro (And.intro (rfl) (q6)) (hP ?_)))
    refine qm_go 2 (fun P hP => hP ?_)
    rw [nI_1]
    refine m_im10 h k (q + 1) _ (by omega) (Fr.p1 (Fr.p1 f0 (by omega)) (by omega)) (fun j hj => ?_)
    by_cases ej : j = q
    · subst ej
      exact ⟨by rw [wF_ne _ _ (by omega), wv_same, e0], by rw [wv_same, wF_ne _ _ (by omega), e1]⟩
    · have ha := hq j (by omega)
      obtain ⟨a0, a1⟩ := ha
      exact ⟨by rw [wF_ne _ _ (by omega), wv_ne ej]; exact a0, by rw [wv_ne ej, wF_ne _ _ (by omega)]; exact a1⟩
theorem m_im8 {d : Nat} {σ0 : qm_Sg} {Q : qm_Po} (h : ∀ σ', Fr (fun t i j => t = 85 ∨ t = 86) σ0 σ' → (∀ j, j < 8 → σ'.1 85 0 j = σ0.1 73 0 j ∧ σ'.1 86 0 j = σ0.1 74 0 j) → qm_Wp (qm_M d) qk_177 Q 166 [some (vR 50 0), some (vI (nI 8))] [] σ') : ∀ (k q : Nat) (σ : qm_Sg), q + k = 8 → Fr (fun t i j => t = 85 ∨ t = 86) σ0 σ → (∀ j, j < q → σ.1 85 0 j = σ0.1 73 0 j ∧ σ.1 86 0 j = σ0.1 74 0 j) → qm_Wp (qm_M d) qk_177 Q 145 [some (vR 50 0), some (vI (nI q))] [] σ
  | 0, q, σ, e, f0, hq => by
    have : q = 8 := by omega
    subst this
    refine qm_go 3 (fun P hP => And.intro (fun _ => hP ?_) (fun c => absurd (by decide) c))
    exact h σ f0 hq
  | k + 1, q, σ, e, f0, hq => by
    have q6 : q < 8 := by omega
    have e0 : σ.1 73 0 q = σ0.1 73 0 q := f0.1 _ _ _ (by omega)
    have e1 : σ.1 74 0 q = σ0.1 74 0 q := f0.1 _ _ _ (by omega)
    refine qm_go 3 (fun P hP => And.intro (fun c => absurd c (nI_ge (b := 8) (by omega) (by omega))) (fun _ => hP ?_))
    refine qm_go 7 (fun P hP => Exists.intro (_) (And.intro (And.intro (rfl) (q6)) (hP ?_)))
    refine qm_go 1 (fun P hP => Exists.intro (_) (And.intro (And.intro (rfl) (q6)) (hP ?_)))
    refine qm_go 7 (fun P hP => Exists.intro (_) (And.intro (And.intro (rfl) (q6)) (hP ?_)))
    refine qm_go 1 (fun P hP => Exists.intro (_) (And.intro (And.intro (rfl) (q6)) (hP ?_)))
    refine qm_go 2 (fun P hP => hP ?_)
    rw [nI_1]
    refine m_im8 h k (q + 1) _ (by omega) (Fr.p1 (Fr.p1 f0 (by omega)) (by omega)) (fun j hj => ?_)
    by_cases ej : j = q
    · subst ej
      exact ⟨by rw [wF_ne _ _ (by omega), wv_same, e0], by rw [wv_same, wF_ne _ _ (by omega), e1]⟩
    · have ha := hq j (by omega)
      obtain ⟨a0, a1⟩ := ha
      exact ⟨by rw [wF_ne _ _ (by omega), wv_ne ej]; exact a0, by rw [wv_ne ej, wF_ne _ _ (by omega)]; exact a1⟩
theorem m_un6 {d : Nat} {σ0 : qm_Sg} {Q : qm_Po} (h : ∀ σ', Fr (fun t i j => t = 51 ∨ t = 52 ∨ t = 53 ∨ t = 54) σ0 σ' → (∀ j, j < 6 → σ'.1 51 0 j = σ0.1 75 0 j ∧ σ'.1 52 0 j = σ0.1 76 0 j ∧ σ'.1 53 0 j = σ0.1 77 0 j ∧ σ'.1 54 0 j = σ0.1 78 0 j) → qm_Wp (qm_M d) qk_178 Q 76 [some (vR 50 0), some (vI (nI 6))] [] σ') : ∀ (k q : Nat) (σ : qm_Sg), q + k = 6 → Fr (fun t i j => t = 51 ∨ t = 52 ∨ t = 53 ∨ t = 54) σ0 σ → (∀ j, j < q → σ.1 51 0 j = σ0.1 75 0 j ∧ σ.1 52 0 j = σ0.1 76 0 j ∧ σ.1 53 0 j = σ0.1 77 0 j ∧ σ.1 54 0 j = σ0.1 78 0 j) → qm_Wp (qm_M d) qk_178 Q 39 [some (vR 50 0), some (vI (nI q))] [] σ
  | 0, q, σ, e, f0, hq => by
    have : q = 6 := by omega
    subst this
    refine qm_go 3 (fun P hP => And.intro (fun _ => hP ?_) (fun c => absurd (by decide) c))
    exact h σ f0 hq
  | k + 1, q, σ, e, f0, hq => by
    have q6 : q < 6 := by omega
    have e0 : σ.1 75 0 q = σ0.1 75 0 q := f0.1 _ _ _ (by omega)
    have e1 : σ.1 76 0 q = σ0.1 76 0 q := f0.1 _ _ _ (by omega)
    have e2 : σ.1 77 0 q = σ0.1 77 0 q := f0.1 _ _ _ (by omega)
    have e3 : σ.1 78 0 q = σ0.1 78 0 q := f0.1 _ _ _ (by omega)
    refine qm_go 3 (fun P hP => And.intro (fun c => absurd c (nI_ge (b := 6) (by omega) (by omega))) (fun _ => hP ?_))
    refine qm_go 7 (fun P hP => Exists.intro (_) (And.intro (And.intro (rfl) (q6)) (hP ?_)))
    refine qm_go 1 (fun P hP => Exists.intro (_) (And.intro (And.intro (rfl) (q6)) (hP ?_)))
    refine qm_go 7 (fun P hP => Exists.intro (_) (And.intro (And.intro (rfl) (q6)) (hP ?_)))
    refine qm_go 1 (fun P hP => Exists.intro (_) (And.intro (And.intro (rfl) (q6)) (hP ?_)))
    refine qm_go 7 (fun P hP => Exists.intro (_) (And.intro (And.intro (rfl) (q6)) (hP ?_)))
    refine qm_go 1 (fun P hP => Exists.intro (_) (And.intro (And.intro (rfl) (q6)) (hP ?_)))
    refine qm_go 7 (fun P hP => Exists.intro (_) (And.intro (And.intro (rfl) (q6)) (hP ?_)))
    refine qm_go 1 (fun P hP => Exists.intro (_) (And.intro (And.intro (rfl) (q6)) (hP ?_)))
    refine qm_go 2 (fun P hP => hP ?_)
    rw [nI_1]
    refine m_un6 h k (q + 1) _ (by omega) (Fr.p1 (Fr.p1 (Fr.p1 (Fr.p1 f0 (by omega)) (by omega)) (by omega)) (by omega)) (fun j hj => ?_)
    by_cases ej : j = q
    · subst ej
      exact ⟨by rw [wF_ne _ _ (by omega), wF_ne _ _ (by omega), wF_ne _ _ (by omega), wv_same, e0], by rw [wF_ne _ _ (by omega), wF_ne _ _ (by omega), wv_same, wF_ne _ _ (by omega), e1], by rw [wF_ne _ _ (by omega), wv_same, wF_ne _ _ (by omega), wF_ne _ _ (by omega), e2], by rw [wv_same, wF_ne _ _ (by omega), wF_ne _ _ (by omega), wF_ne _ _ (by omega), e3]⟩
    · have ha := hq j (by omega)
      obtain ⟨a0, a1, a2, a3⟩ := ha
      exact ⟨by rw [wF_ne _ _ (by omega), wF_ne _ _ (by omega), wF_ne _ _ (by omega), wv_ne ej]; exact a0, by rw [wF_ne _ _ (by omega), wF_ne _ _ (by omega), wv_ne ej, wF_ne _ _ (by omega)]; exact a1, by rw [wF_ne _ _ (by omega), wv_ne ej, wF_ne _ _ (by omega), wF_ne _ _ (by omega)]; exact a2, by rw [wv_ne ej, wF_ne _ _ (by omega), wF_ne _ _ (by omega), wF_ne _ _ (by omega)]; exact a3⟩
theorem m_un24 {d : Nat} {σ0 : qm_Sg} {Q : qm_Po} (h : ∀ σ', Fr (fun t i j => t = 55) σ0 σ' → (∀ j, j < 24 → σ'.1 55 0 j = σ0.1 79 0 j) → qm_Wp (qm_M d) qk_178 Q 91 [some (vR 50 0), some (vI (nI 24))] [] σ') : ∀ (k q : Nat) (σ : qm_Sg), q + k = 24 → Fr (fun t i j => t = 55) σ0 σ → (∀ j, j < q → σ.1 55 0 j = σ0.1 79 0 j) → qm_Wp (qm_M d) qk_178 Q 78 [some (vR 50 0), some (vI (nI q))] [] σ
  | 0, q, σ, e, f0, hq => by
    have : q = 24 := by omega
    subst this
    refine qm_go 3 (fun P hP => And.intro (fun _ => hP ?_) (fun c => absurd (by decide) c))
    exact h σ f0 hq
  | k + 1, q, σ, e, f0, hq => by
    have q6 : q < 24 := by omega
    have e0 : σ.1 79 0 q = σ0.1 79 0 q := f0.1 _ _ _ (by omega)
    refine qm_go 3 (fun P hP => And.intro (fun c => absurd c (nI_ge (b := 24) (by omega) (by omega))) (fun _ => hP ?_))
    refine qm_go 7 (fun P hP => Exists.intro (_) (And.intro (And.intro (rfl) (q6)) (hP ?_)))
    refine qm_go 1 (fun P hP => Exists.intro (_) (And.intro (And.intro (rfl) (q6)) (hP ?_)))
    refine qm_go 2 (fun P hP => hP ?_)
    rw [nI_1]
    refine m_un24 h k (q + 1) _ (by omega) (Fr.p1 f0 (by omega)) (fun j hj => ?_)
    by_cases ej : j = q
    · subst ej
      exact by rw [wv_same, e0]
    · have ha := hq j (by omega)
      have a0 := ha
      exact by rw [wv_ne ej]; exact a0
theorem m_un5 {d : Nat} {σ0 : qm_Sg} {Q : qm_Po} (h : ∀ σ', Fr (fun t i j => t = 68 ∨ t = 69 ∨ t = 70) σ0 σ' → (∀ j, j < 5 → σ'.1 68 0 j = σ0.1 80 0 j ∧ σ'.1 69 0 j = σ0.1 81 0 j ∧ σ'.1 70 0 j = σ0.1 82 0 j) → qm_Wp (qm_M d) qk_178 Q 122 [some (vR 50 0), some (vI (nI 5))] [] σ') : ∀ (k q : Nat) (σ : qm_Sg), q + k = 5 → Fr (fun t i j => t = 68 ∨ t = 69 ∨ t = 70) σ0 σ → (∀ j, j < q → σ.1 68 0 j = σ0.1 80 0 j ∧ σ.1 69 0 j = σ0.1 81 0 j ∧ σ.1 70 0 j = σ0.1 82 0 j) → qm_Wp (qm_M d) qk_178 Q 93 [some (vR 50 0), some (vI (nI q))] [] σ
  | 0, q, σ, e, f0, hq => by
    have : q = 5 := by omega
    subst this
    refine qm_go 3 (fun P hP => And.intro (fun _ => hP ?_) (fun c => absurd (by decide) c))
    exact h σ f0 hq
  | k + 1, q, σ, e, f0, hq => by
    have q6 : q < 5 := by omega
    have e0 : σ.1 80 0 q = σ0.1 80 0 q := f0.1 _ _ _ (by omega)
    have e1 : σ.1 81 0 q = σ0.1 81 0 q := f0.1 _ _ _ (by omega)
    have e2 : σ.1 82 0 q = σ0.1 82 0 q := f0.1 _ _ _ (by omega)
    refine qm_go 3 (fun P hP => And.intro (fun c => absurd c (nI_ge (b := 5) (by omega) (by omega))) (fun _ => hP ?_))
    refine qm_go 7 (fun P hP => Exists.intro (_) (And.intro (And.intro (rfl) (q6)) (hP ?_)))
    refine qm_go 1 (fun P hP => Exists.intro (_) (And.intro (And.intro (rfl) (q6)) (hP ?_)))
    refine qm_go 7 (fun P hP => Exists.intro (_) (And.intro (And.intro (rfl) (q6)) (hP ?_)))
    refine qm_go 1 (fun P hP => Exists.intro (_) (And.intro (And.intro (rfl) (q6)) (hP ?_)))
    refine qm_go 7 (fun P hP => Exists.intro (_) (And.intro (And.intro (rfl) (q6)) (hP ?_)))
    refine qm_go 1 (fun P hP => Exists.intro (_) (And.intro (And.intro (rfl) (q6)) (hP ?_)))
    refine qm_go 2 (fun P hP => hP ?_)
    rw [nI_1]
    refine m_un5 h k (q + 1) _ (by omega) (Fr.p1 (Fr.p1 (Fr.p1 f0 (by omega)) (by omega)) (by omega)) (fun j hj => ?_)
    by_cases ej : j = q
    · subst ej
      exact ⟨by rw [wF_ne _ _ (by omega), wF_ne _ _ (by omega), wv_same, e0], by rw [wF_ne _ _ (by omega), wv_same, wF_ne _ _ (by omega), e1], by rw [wv_same, wF_ne _ _ (by omega), wF_ne _ _ (by omega), e2]⟩
    · have ha := hq j (by omega)
      obtain ⟨a0, a1, a2⟩ := ha
      exact ⟨by rw [wF_ne _ _ (by omega), wF_ne _ _ (by omega), wv_ne ej]; exact a0, by rw [wF_ne _ _ (by omega), wv_ne ej, wF_ne _ _ (by omega)]; exact a1, by rw [wv_ne ej, wF_ne _ _ (by omega), wF_ne _ _ (by omega)]; exact a2⟩
theorem m_un10 {d : Nat} {σ0 : qm_Sg} {Q : qm_Po} (h : ∀ σ', Fr (fun t i j => t = 71 ∨ t = 72) σ0 σ' → (∀ j, j < 10 → σ'.1 71 0 j = σ0.1 83 0 j ∧ σ'.1 72 0 j = σ0.1 84 0 j) → qm_Wp (qm_M d) qk_178 Q 145 [some (vR 50 0), some (vI (nI 10))] [] σ') : ∀ (k q : Nat) (σ : qm_Sg), q + k = 10 → Fr (fun t i j => t = 71 ∨ t = 72) σ0 σ → (∀ j, j < q → σ.1 71 0 j = σ0.1 83 0 j ∧ σ.1 72 0 j = σ0.1 84 0 j) → qm_Wp (qm_M d) qk_178 Q 124 [some (vR 50 0), some (vI (nI q))] [] σ
  | 0, q, σ, e, f0, hq => by
    have : q = 10 := by omega
    subst this
    refine qm_go 3 (fun P hP => And.intro (fun _ => hP ?_) (fun c => absurd (by decide) c))
    exact h σ f0 hq
  | k + 1, q, σ, e, f0, hq => by
    have q6 : q < 10 := by omega
    have e0 : σ.1 83 0 q = σ0.1 83 0 q := f0.1 _ _ _ (by omega)
    have e1 : σ.1 84 0 q = σ0.1 84 0 q := f0.1 _ _ _ (by omega)
    refine qm_go 3 (fun P hP => And.intro (fun c => absurd c (nI_ge (b := 10) (by omega) (by omega))) (fun _ => hP ?_))
    refine qm_go 7 (fun P hP => Exists.intro (_) (And.intro (And.intro (rfl) (q6)) (hP ?_)))
    refine qm_go 1 (fun P hP => Exists.intro (_) (And.intro (And.intro (rfl) (q6)) (hP ?_)))
    refine qm_go 7 (fun P hP => Exists.intro (_) (And.intro (And.intro (rfl) (q6)) (hP ?_)))
    refine qm_go 1 (fun P hP => Exists.intro (_) (And.intro (And.intro (rfl) (q6)) (hP ?_)))
    refine qm_go 2 (fun P hP => hP ?_)
    rw [nI_1]
    refine m_un10 h k (q + 1) _ (by omega) (Fr.p1 (Fr.p1 f0 (by omega)) (by omega)) (fun j hj => ?_)
    by_cases ej : j = q
    · subst ej
      exact ⟨by rw [wF_ne _ _ (by omega), wv_same, e0], by rw [wv_same, wF_ne _ _ (by omega), e1]⟩
    · have ha := hq j (by omega)
      obtain ⟨a0, a1⟩ := ha
      exact ⟨by rw [wF_ne _ _ (by omega), wv_ne ej]; exact a0, by rw [wv_ne ej, wF_ne _ _ (by omega)]; exact a1⟩
theorem m_un8 {d : Nat} {σ0 : qm_Sg} {Q : qm_Po} (h : ∀ σ', Fr (fun t i j => t = 73 ∨ t = 74) σ0 σ' → (∀ j, j < 8 → σ'.1 73 0 j = σ0.1 85 0 j ∧ σ'.1 74 0 j = σ0.1 86 0 j) → qm_Wp (qm_M d) qk_178 Q 168 [some (vR 50 0), some (vI (nI 8))] [] σ') : ∀ (k q : Nat) (σ : qm_Sg), q + k = 8 → Fr (fun t i j => t = 73 ∨ t = 74) σ0 σ → (∀ j, j < q → σ.1 73 0 j = σ0.1 85 0 j ∧ σ.1 74 0 j = σ0.1 86 0 j) → qm_Wp (qm_M d) qk_178 Q 147 [some (vR 50 0), some (vI (nI q))] [] σ
  | 0, q, σ, e, f0, hq => by
    have : q = 8 := by omega
    subst this
    refine qm_go 3 (fun P hP => And.intro (fun _ => hP ?_) (fun c => absurd (by decide) c))
    exact h σ f0 hq
  | k + 1, q, σ, e, f0, hq => by
    have q6 : q < 8 := by omega
    have e0 : σ.1 85 0 q = σ0.1 85 0 q := f0.1 _ _ _ (by omega)
    have e1 : σ.1 86 0 q = σ0.1 86 0 q := f0.1 _ _ _ (by omega)
    refine qm_go 3 (fun P hP => And.intro (fun c => absurd c (nI_ge (b := 8) (by omega) (by omega))) (fun _ => hP ?_))
    refine qm_go 7 (fun P hP => Exists.intro (_) (And.intro (And.intro (rfl) (q6)) (hP ?_)))
    refine qm_go 1 (fun P hP => Exists.intro (_) (And.intro (And.intro (rfl) (q6)) (hP ?_)))
    refine qm_go 7 (fun P hP => Exists.intro (_) (And.intro (And.intro (rfl) (q6)) (hP ?_)))
    refine qm_go 1 (fun P hP => Exists.intro (_) (And.intro (And.intro (rfl) (q6)) (hP ?_)))
    refine qm_go 2 (fun P hP => hP ?_)
    rw [nI_1]
    refine m_un8 h k (q + 1) _ (by omega) (Fr.p1 (Fr.p1 f0 (by omega)) (by omega)) (fun j hj => ?_)
    by_cases ej : j = q
    · subst ej
      exact ⟨by rw [wF_ne _ _ (by omega), wv_same, e0], by rw [wv_same, wF_ne _ _ (by omega), e1]⟩
    · have ha := hq j (by omega)
      obtain ⟨a0, a1⟩ := ha
      exact ⟨by rw [wF_ne _ _ (by omega), wv_ne ej]; exact a0, by rw [wv_ne ej, wF_ne _ _ (by omega)]; exact a1⟩
def tIm (t _ j : Nat) : Prop := (t = 50 ∧ 42 ≤ j ∧ j ≤ 50) ∨ (75 ≤ t ∧ t ≤ 86)
def tUn (t _ j : Nat) : Prop := (t = 50 ∧ (j = 10 ∨ j = 0 ∨ j = 1 ∨ j = 2 ∨ j = 3 ∨ j = 32 ∨ j = 36 ∨ j = 37)) ∨ (51 ≤ t ∧ t ≤ 55) ∨ (68 ≤ t ∧ t ≤ 74)
set_option maxHeartbeats 1000000 in
theorem m_image {d : Nat} (hd : 1 ≤ d) {σ : qm_Sg} {Q : qm_Po}  (h : ∀ σ', Fr tIm σ σ' → σ'.1 50 0 42 = 1 → (σ'.1 50 0 43 = σ.1 50 0 10 ∧ σ'.1 50 0 44 = σ.1 50 0 0 ∧ σ'.1 50 0 45 = σ.1 50 0 1 ∧ σ'.1 50 0 46 = σ.1 50 0 2 ∧ σ'.1 50 0 47 = σ.1 50 0 3 ∧ σ'.1 50 0 48 = σ.1 50 0 32 ∧ σ'.1 50 0 49 = σ.1 50 0 36 ∧ σ'.1 50 0 50 = σ.1 50 0 37) → (∀ j, j < 6 → σ'.1 75 0 j = σ.1 51 0 j ∧ σ'.1 76 0 j = σ.1 52 0 j ∧ σ'.1 77 0 j = σ.1 53 0 j ∧ σ'.1 78 0 j = σ.1 54 0 j) → (∀ j, j < 24 → σ'.1 79 0 j = σ.1 55 0 j) → (∀ j, j < 5 → σ'.1 80 0 j = σ.1 68 0 j ∧ σ'.1 81 0 j = σ.1 69 0 j ∧ σ'.1 82 0 j = σ.1 70 0 j) → (∀ j, j < 10 → σ'.1 83 0 j = σ.1 71 0 j ∧ σ'.1 84 0 j = σ.1 72 0 j) → (∀ j, j < 8 → σ'.1 85 0 j = σ.1 73 0 j ∧ σ'.1 86 0 j = σ.1 74 0 j) → Q σ' (some (vI (σ.1 50 0 0)))) : qm_M d 177 [vR 50 0] σ Q := by
  obtain ⟨d, rfl, hd⟩ := qm_dn hd
  show qm_Wp (qm_M d) qk_177 Q 0 [some (vR 50 0), none] [] σ
  refine qm_go 3 (fun P hP => And.intro rfl (hP ?_))
  refine qm_go 32 (fun P hP => hP ?_)
  generalize hσ : wF _ 50 0 (upd _ 50 _) = σ1
  have F1 : Fr (fun t i j => t = 50 ∧ (j = 42 ∨ j = 43 ∨ j = 44 ∨ j = 45 ∨ j = 46 ∨ j = 47 ∨ j = 48 ∨ j = 49 ∨ j = 50)) σ σ1 := by
    rw [← hσ]
    exact (Fr.p1 (Fr.p1 (Fr.p1 (Fr.p1 (Fr.p1 (Fr.p1 (Fr.p1 (Fr.p1 (Fr.p1 Fr.rf (by omega)) (by omega)) (by omega)) (by omega)) (by omega)) (by omega)) (by omega)) (by omega)) (by omega))
  have k43 : σ1.1 50 0 43 = σ.1 50 0 10 := by rw [← hσ]; rfl
  have k44 : σ1.1 50 0 44 = σ.1 50 0 0 := by rw [← hσ]; rfl
  have k45 : σ1.1 50 0 45 = σ.1 50 0 1 := by rw [← hσ]; rfl
  have k46 : σ1.1 50 0 46 = σ.1 50 0 2 := by rw [← hσ]; rfl
  have k47 : σ1.1 50 0 47 = σ.1 50 0 3 := by rw [← hσ]; rfl
  have k48 : σ1.1 50 0 48 = σ.1 50 0 32 := by rw [← hσ]; rfl
  have k49 : σ1.1 50 0 49 = σ.1 50 0 36 := by rw [← hσ]; rfl
  have k50 : σ1.1 50 0 50 = σ.1 50 0 37 := by rw [← hσ]; rfl
  have k42 : σ1.1 50 0 42 = 1 := by rw [← hσ]; rfl
  refine qm_go 2 (fun P hP => hP ?_)
  refine m_im6 (fun σ2 F2 v2 => ?_) 6 0 σ1 rfl Fr.rf (fun j hj => absurd hj (by omega))
  refine qm_go 2 (fun P hP => hP ?_)
  refine m_im24 (fun σ3 F3 v3 => ?_) 24 0 σ2 rfl Fr.rf (fun j hj => absurd hj (by omega))
  refine qm_go 2 (fun P hP => hP ?_)
  refine m_im5 (fun σ4 F4 v4 => ?_) 5 0 σ3 rfl Fr.rf (fun j hj => absurd hj (by omega))
  refine qm_go 2 (fun P hP => hP ?_)
  refine m_im10 (fun σ5 F5 v5 => ?_) 10 0 σ4 rfl Fr.rf (fun j hj => absurd hj (by omega))
  refine qm_go 2 (fun P hP => hP ?_)
  refine m_im8 (fun σ6 F6 v6 => ?_) 8 0 σ5 rfl Fr.rf (fun j hj => absurd hj (by omega))
  have G : Fr (fun t i j => t = 75 ∨ t = 76 ∨ t = 77 ∨ t = 78 ∨ t = 79 ∨ t = 80 ∨ t = 81 ∨ t = 82 ∨ t = 83 ∨ t = 84 ∨ t = 85 ∨ t = 86) σ1 σ6 := (((((F2.mono (fun t i j q => by omega)).tr (F3.mono (fun t i j q => by omega))).tr (F4.mono (fun t i j q => by omega))).tr (F5.mono (fun t i j q => by omega))).tr (F6.mono (fun t i j q => by omega)))
  have FF : Fr tIm σ σ6 := (F1.mono (fun t i j q => by unfold tIm; omega)).tr (G.mono (fun t i j q => by unfold tIm; omega))
  refine qm_go 2 (fun P hP => hP ?_)
  rw [FF.1 50 0 0 (by unfold tIm; omega)]
  refine qm_go 1 (fun P hP => h σ6 FF (by rw [G.1 _ _ _ (by omega)]; exact k42) ⟨by rw [G.1 _ _ _ (by omega)]; exact k43, by rw [G.1 _ _ _ (by omega)]; exact k44, by rw [G.1 _ _ _ (by omega)]; exact k45, by rw [G.1 _ _ _ (by omega)]; exact k46, by rw [G.1 _ _ _ (by omega)]; exact k47, by rw [G.1 _ _ _ (by omega)]; exact k48, by rw [G.1 _ _ _ (by omega)]; exact k49, by rw [G.1 _ _ _ (by omega)]; exact k50⟩ (fun j hj => ?_) (fun j hj => ?_) (fun j hj => ?_) (fun j hj => ?_) (fun j hj => ?_))
  · have v := v2 j hj
    exact ⟨by rw [F6.1 _ _ _ (by omega), F5.1 _ _ _ (by omega), F4.1 _ _ _ (by omega), F3.1 _ _ _ (by omega), v.1, F1.1 _ _ _ (by omega)], by rw [F6.1 _ _ _ (by omega), F5.1 _ _ _ (by omega), F4.1 _ _ _ (by omega), F3.1 _ _ _ (by omega), v.2.1, F1.1 _ _ _ (by omega)], by rw [F6.1 _ _ _ (by omega), F5.1 _ _ _ (by omega), F4.1 _ _ _ (by omega), F3.1 _ _ _ (by omega), v.2.2.1, F1.1 _ _ _ (by omega)], by rw [F6.1 _ _ _ (by omega), F5.1 _ _ _ (by omega), F4.1 _ _ _ (by omega), F3.1 _ _ _ (by omega), v.2.2.2, F1.1 _ _ _ (by omega)]⟩
  · have v := v3 j hj
    exact by rw [F6.1 _ _ _ (by omega), F5.1 _ _ _ (by omega), F4.1 _ _ _ (by omega), v, F2.1 _ _ _ (by omega), F1.1 _ _ _ (by omega)]
  · have v := v4 j hj
    exact ⟨by rw [F6.1 _ _ _ (by omega), F5.1 _ _ _ (by omega), v.1, F3.1 _ _ _ (by omega), F2.1 _ _ _ (by omega), F1.1 _ _ _ (by omega)], by rw [F6.1 _ _ _ (by omega), F5.1 _ _ _ (by omega), v.2.1, F3.1 _ _ _ (by omega), F2.1 _ _ _ (by omega), F1.1 _ _ _ (by omega)], by rw [F6.1 _ _ _ (by omega), F5.1 _ _ _ (by omega), v.2.2, F3.1 _ _ _ (by omega), F2.1 _ _ _ (by omega), F1.1 _ _ _ (by omega)]⟩
  · have v := v5 j hj
    exact ⟨by rw [F6.1 _ _ _ (by omega), v.1, F4.1 _ _ _ (by omega), F3.1 _ _ _ (by omega), F2.1 _ _ _ (by omega), F1.1 _ _ _ (by omega)], by rw [F6.1 _ _ _ (by omega), v.2, F4.1 _ _ _ (by omega), F3.1 _ _ _ (by omega), F2.1 _ _ _ (by omega), F1.1 _ _ _ (by omega)]⟩
  · have v := v6 j hj
    exact ⟨by rw [v.1, F5.1 _ _ _ (by omega), F4.1 _ _ _ (by omega), F3.1 _ _ _ (by omega), F2.1 _ _ _ (by omega), F1.1 _ _ _ (by omega)], by rw [v.2, F5.1 _ _ _ (by omega), F4.1 _ _ _ (by omega), F3.1 _ _ _ (by omega), F2.1 _ _ _ (by omega), F1.1 _ _ _ (by omega)]⟩
set_option maxHeartbeats 1000000 in
theorem m_undo {d : Nat} (hd : 1 ≤ d) {σ : qm_Sg} {Q : qm_Po} (e4 : σ.1 50 0 42 = 1) (h : ∀ σ', Fr tUn σ σ' → (σ'.1 50 0 10 = σ.1 50 0 43 ∧ σ'.1 50 0 0 = σ.1 50 0 44 ∧ σ'.1 50 0 1 = σ.1 50 0 45 ∧ σ'.1 50 0 2 = σ.1 50 0 46 ∧ σ'.1 50 0 3 = σ.1 50 0 47 ∧ σ'.1 50 0 32 = σ.1 50 0 48 ∧ σ'.1 50 0 36 = σ.1 50 0 49 ∧ σ'.1 50 0 37 = σ.1 50 0 50) → (∀ j, j < 6 → σ'.1 51 0 j = σ.1 75 0 j ∧ σ'.1 52 0 j = σ.1 76 0 j ∧ σ'.1 53 0 j = σ.1 77 0 j ∧ σ'.1 54 0 j = σ.1 78 0 j) → (∀ j, j < 24 → σ'.1 55 0 j = σ.1 79 0 j) → (∀ j, j < 5 → σ'.1 68 0 j = σ.1 80 0 j ∧ σ'.1 69 0 j = σ.1 81 0 j ∧ σ'.1 70 0 j = σ.1 82 0 j) → (∀ j, j < 10 → σ'.1 71 0 j = σ.1 83 0 j ∧ σ'.1 72 0 j = σ.1 84 0 j) → (∀ j, j < 8 → σ'.1 73 0 j = σ.1 85 0 j ∧ σ'.1 74 0 j = σ.1 86 0 j) → Q σ' (some (vI (σ.1 50 0 44)))) : qm_M d 178 [vR 50 0] σ Q := by
  obtain ⟨d, rfl, hd⟩ := qm_dn hd
  show qm_Wp (qm_M d) qk_178 Q 0 [some (vR 50 0), none] [] σ
  refine qm_go 3 (fun P hP => And.intro (fun _ => hP ?_) (fun z => absurd (e4.symm.trans z) (by decide)))
  refine qm_go 32 (fun P hP => hP ?_)
  generalize hσ : wF _ 50 0 (upd _ 37 _) = σ1
  have F1 : Fr (fun t i j => t = 50 ∧ (j = 10 ∨ j = 0 ∨ j = 1 ∨ j = 2 ∨ j = 3 ∨ j = 32 ∨ j = 36 ∨ j = 37)) σ σ1 := by
    rw [← hσ]
    exact (Fr.p1 (Fr.p1 (Fr.p1 (Fr.p1 (Fr.p1 (Fr.p1 (Fr.p1 (Fr.p1 Fr.rf (by omega)) (by omega)) (by omega)) (by omega)) (by omega)) (by omega)) (by omega)) (by omega))
  have k10 : σ1.1 50 0 10 = σ.1 50 0 43 := by rw [← hσ]; rfl
  have k0 : σ1.1 50 0 0 = σ.1 50 0 44 := by rw [← hσ]; rfl
  have k1 : σ1.1 50 0 1 = σ.1 50 0 45 := by rw [← hσ]; rfl
  have k2 : σ1.1 50 0 2 = σ.1 50 0 46 := by rw [← hσ]; rfl
  have k3 : σ1.1 50 0 3 = σ.1 50 0 47 := by rw [← hσ]; rfl
  have k32 : σ1.1 50 0 32 = σ.1 50 0 48 := by rw [← hσ]; rfl
  have k36 : σ1.1 50 0 36 = σ.1 50 0 49 := by rw [← hσ]; rfl
  have k37 : σ1.1 50 0 37 = σ.1 50 0 50 := by rw [← hσ]; rfl
  refine qm_go 2 (fun P hP => hP ?_)
  refine m_un6 (fun σ2 F2 v2 => ?_) 6 0 σ1 rfl Fr.rf (fun j hj => absurd hj (by omega))
  refine qm_go 2 (fun P hP => hP ?_)
  refine m_un24 (fun σ3 F3 v3 => ?_) 24 0 σ2 rfl Fr.rf (fun j hj => absurd hj (by omega))
  refine qm_go 2 (fun P hP => hP ?_)
  refine m_un5 (fun σ4 F4 v4 => ?_) 5 0 σ3 rfl Fr.rf (fun j hj => absurd hj (by omega))
  refine qm_go 2 (fun P hP => hP ?_)
  refine m_un10 (fun σ5 F5 v5 => ?_) 10 0 σ4 rfl Fr.rf (fun j hj => absurd hj (by omega))
  refine qm_go 2 (fun P hP => hP ?_)
  refine m_un8 (fun σ6 F6 v6 => ?_) 8 0 σ5 rfl Fr.rf (fun j hj => absurd hj (by omega))
  have G : Fr (fun t i j => t = 51 ∨ t = 52 ∨ t = 53 ∨ t = 54 ∨ t = 55 ∨ t = 68 ∨ t = 69 ∨ t = 70 ∨ t = 71 ∨ t = 72 ∨ t = 73 ∨ t = 74) σ1 σ6 := (((((F2.mono (fun t i j q => by omega)).tr (F3.mono (fun t i j q => by omega))).tr (F4.mono (fun t i j q => by omega))).tr (F5.mono (fun t i j q => by omega))).tr (F6.mono (fun t i j q => by omega)))
  have FF : Fr tUn σ σ6 := (F1.mono (fun t i j q => by unfold tUn; omega)).tr (G.mono (fun t i j q => by unfold tUn; omega))
  refine qm_go 2 (fun P hP => hP ?_)
  rw [G.1 50 0 0 (by omega), k0]
  refine qm_go 1 (fun P hP => h σ6 FF ⟨by rw [G.1 _ _ _ (by omega)]; exact k10, by rw [G.1 _ _ _ (by omega)]; exact k0, by rw [G.1 _ _ _ (by omega)]; exact k1, by rw [G.1 _ _ _ (by omega)]; exact k2, by rw [G.1 _ _ _ (by omega)]; exact k3, by rw [G.1 _ _ _ (by omega)]; exact k32, by rw [G.1 _ _ _ (by omega)]; exact k36, by rw [G.1 _ _ _ (by omega)]; exact k37⟩ (fun j hj => ?_) (fun j hj => ?_) (fun j hj => ?_) (fun j hj => ?_) (fun j hj => ?_))
  · have v := v2 j hj
    exact ⟨by rw [F6.1 _ _ _ (by omega), F5.1 _ _ _ (by omega), F4.1 _ _ _ (by omega), F3.1 _ _ _ (by omega), v.1, F1.1 _ _ _ (by omega)], by rw [F6.1 _ _ _ (by omega), F5.1 _ _ _ (by omega), F4.1 _ _ _ (by omega), F3.1 _ _ _ (by omega), v.2.1, F1.1 _ _ _ (by omega)], by rw [F6.1 _ _ _ (by omega), F5.1 _ _ _ (by omega), F4.1 _ _ _ (by omega), F3.1 _ _ _ (by omega), v.2.2.1, F1.1 _ _ _ (by omega)], by rw [F6.1 _ _ _ (by omega), F5.1 _ _ _ (by omega), F4.1 _ _ _ (by omega), F3.1 _ _ _ (by omega), v.2.2.2, F1.1 _ _ _ (by omega)]⟩
  · have v := v3 j hj
    exact by rw [F6.1 _ _ _ (by omega), F5.1 _ _ _ (by omega), F4.1 _ _ _ (by omega), v, F2.1 _ _ _ (by omega), F1.1 _ _ _ (by omega)]
  · have v := v4 j hj
    exact ⟨by rw [F6.1 _ _ _ (by omega), F5.1 _ _ _ (by omega), v.1, F3.1 _ _ _ (by omega), F2.1 _ _ _ (by omega), F1.1 _ _ _ (by omega)], by rw [F6.1 _ _ _ (by omega), F5.1 _ _ _ (by omega), v.2.1, F3.1 _ _ _ (by omega), F2.1 _ _ _ (by omega), F1.1 _ _ _ (by omega)], by rw [F6.1 _ _ _ (by omega), F5.1 _ _ _ (by omega), v.2.2, F3.1 _ _ _ (by omega), F2.1 _ _ _ (by omega), F1.1 _ _ _ (by omega)]⟩
  · have v := v5 j hj
    exact ⟨by rw [F6.1 _ _ _ (by omega), v.1, F4.1 _ _ _ (by omega), F3.1 _ _ _ (by omega), F2.1 _ _ _ (by omega), F1.1 _ _ _ (by omega)], by rw [F6.1 _ _ _ (by omega), v.2, F4.1 _ _ _ (by omega), F3.1 _ _ _ (by omega), F2.1 _ _ _ (by omega), F1.1 _ _ _ (by omega)]⟩
  · have v := v6 j hj
    exact ⟨by rw [v.1, F5.1 _ _ _ (by omega), F4.1 _ _ _ (by omega), F3.1 _ _ _ (by omega), F2.1 _ _ _ (by omega), F1.1 _ _ _ (by omega)], by rw [v.2, F5.1 _ _ _ (by omega), F4.1 _ _ _ (by omega), F3.1 _ _ _ (by omega), F2.1 _ _ _ (by omega), F1.1 _ _ _ (by omega)]⟩
theorem m_undo0 {d : Nat} (hd : 1 ≤ d) {σ : qm_Sg} {Q : qm_Po} (e4 : σ.1 50 0 42 = 0) (h : Q σ (some (vI (-3)))) : qm_M d 178 [vR 50 0] σ Q := by
  obtain ⟨d, rfl, hd⟩ := qm_dn hd
  show qm_Wp (qm_M d) qk_178 Q 0 [some (vR 50 0), none] [] σ
  refine qm_go 3 (fun P hP => And.intro (fun z => absurd e4 z) (fun _ => hP ?_))
  exact qm_go 2 (fun P hP => h)
