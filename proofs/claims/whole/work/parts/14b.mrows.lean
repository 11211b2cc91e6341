theorem c_feed {d : Nat} (hd : 2 ≤ d) {σ : qm_Sg} {Q : qm_Po} {L : Nat} {s : Int32} (e8 : σ.1 0 0 8 = nI L) (hL : L ≤ 100) (h2 : ¬ inR s 128 → Q σ (some (vI (-2)))) (h4 : inR s 128 → L = 100 → Q σ (some (vI (-4)))) (h : ∀ c, s = nI c → c < 128 → L < 100 → ∀ σ', Fr (fun t i j => (t = 5 ∧ j = L) ∨ (t = 0 ∧ j = 8)) σ σ' → σ'.1 5 0 L = nI c → σ'.1 0 0 8 = nI (L + 1) → Q σ' (some (vI (nI (L + 1))))) : qm_M d 70 [vR 0 0, vI s] σ Q := by
  obtain ⟨d, rfl, hd⟩ := qm_dn hd
  show qm_Wp (qm_M d) qk_70 Q 0 [some (vR 0 0), some (vI s)] [] σ
  refine qm_go 2 (fun P hP => And.intro (fun c => hP ?_) (fun c => hP ?_))
  · exact qm_go 2 (fun P hP => h2 (fun y => (inR_lt' (by decide) y).1 c))
  · refine qm_go 3 (fun P hP => And.intro (fun c2 => hP ?_) (fun c2 => hP ?_))
    · have hs : inR s 128 := inR_of' (n := 128) (by decide) c (i_nlt c2)
      by_cases e : L = 100
      · refine qm_go 4 (fun P hP => And.intro (fun z => absurd (by rw [e8, e]; rfl) z) (fun _ => hP ?_))
        exact qm_go 2 (fun P hP => h4 hs e)
      · refine qm_go 4 (fun P hP => And.intro (fun _ => hP ?_) (fun z => absurd ((nI_eq (b := 100) (by omega) (by omega)).mp (by rw [← e8]; exact z)) e))
        obtain ⟨c9, hc9, rfl⟩ := hs
        refine qm_go 7 (fun P hP => Exists.intro (L) (And.intro (And.intro (e8) (show L < 100 by omega)) (hP ?_)))
        rw [byt_a c9 hc9]
        refine qm_go 6 (fun P hP => hP ?_)
        generalize hσ : wF _ 0 0 (upd _ 8 _) = σ2
        have F : Fr (fun t i j => (t = 5 ∧ j = L) ∨ (t = 0 ∧ j = 8)) σ σ2 := by
          rw [← hσ]
          exact Fr.p1 (Fr.w1 (by omega)) (by omega)
        have k8 : σ2.1 0 0 8 = nI (L + 1) := by rw [← hσ, wv_same, wF_ne _ _ (by omega), e8, nI_1]
        refine qm_go 2 (fun P hP => hP ?_)
        rw [k8]
        exact qm_go 1 (fun P hP => h c9 rfl hc9 (by omega) σ2 F (by rw [← hσ, wF_ne _ _ (by omega), wv_same]) k8)
    · exact qm_go 2 (fun P hP => h2 (fun y => (inR_lt' (n := 128) (by decide) y).2 (i_lt_of c2)))
theorem m_feed {d : Nat} (hd : 2 ≤ d) {σ : qm_Sg} {Q : qm_Po} {L : Nat} {s : Int32} (e8 : σ.1 50 0 11 = nI L) (hL : L ≤ 100) (h2 : ¬ inR s 128 → Q σ (some (vI (-2)))) (h4 : inR s 128 → L = 100 → Q σ (some (vI (-4)))) (h : ∀ c, s = nI c → c < 128 → L < 100 → ∀ σ', Fr (fun t i j => (t = 56 ∧ j = L) ∨ (t = 50 ∧ j = 11)) σ σ' → σ'.1 56 0 L = nI c → σ'.1 50 0 11 = nI (L + 1) → Q σ' (some (vI (nI (L + 1))))) : qm_M d 122 [vR 50 0, vI s] σ Q := by
  obtain ⟨d, rfl, hd⟩ := qm_dn hd
  show qm_Wp (qm_M d) qk_122 Q 0 [some (vR 50 0), some (vI s)] [] σ
  refine qm_go 5 (fun P hP => m_inR 128 (by decide) rfl (hd := by omega) (fun c => hP ?_) (fun c => hP ?_))
  · refine qm_go 1 (fun P hP => And.intro (fun _ => hP ?_) (fun z => absurd z (by decide)))
    by_cases e : L = 100
    · refine qm_go 4 (fun P hP => And.intro (fun z => absurd (by rw [e8, e]; rfl) z) (fun _ => hP ?_))
      exact qm_go 2 (fun P hP => h4 c e)
    · refine qm_go 4 (fun P hP => And.intro (fun _ => hP ?_) (fun z => absurd ((nI_eq (b := 100) (by omega) (by omega)).mp (by rw [← e8]; exact z)) e))
      obtain ⟨c9, hc9, rfl⟩ := c
      refine qm_go 6 (fun P hP => Exists.intro (L) (And.intro (And.intro (e8) (show L < 100 by omega)) (hP ?_)))
      refine qm_go 6 (fun P hP => hP ?_)
      generalize hσ : wF _ 50 0 (upd _ 11 _) = σ2
      have F : Fr (fun t i j => (t = 56 ∧ j = L) ∨ (t = 50 ∧ j = 11)) σ σ2 := by
        rw [← hσ]
        exact Fr.p1 (Fr.w1 (by omega)) (by omega)
      have k8 : σ2.1 50 0 11 = nI (L + 1) := by rw [← hσ, wv_same, wF_ne _ _ (by omega), e8, nI_1]
      refine qm_go 2 (fun P hP => hP ?_)
      rw [k8]
      exact qm_go 1 (fun P hP => h c9 rfl hc9 (by omega) σ2 F (by rw [← hσ, wF_ne _ _ (by omega), wv_same]) k8)
  · refine qm_go 1 (fun P hP => And.intro (fun z => absurd rfl z) (fun _ => hP ?_))
    exact qm_go 2 (fun P hP => h2 c)
theorem m_see {d : Nat} (hd : 3 ≤ d) {σ : qm_Sg} {Q : qm_Po} {A : AS} {R : R9} {s n m : Int32} (hs : mS σ A) (hr : mSeen σ R) (h : ∀ σ', Fr (fun t i j => (t = 50 ∧ j = 32) ∨ (68 ≤ t ∧ t ≤ 70)) σ σ' → mSeen σ' (seeR A R s n m) → Q σ' (some (vI (slV (seeC A R s n m) R.length)))) : qm_M d 162 [vR 50 0, vI s, vI n, vI m] σ Q := by
  obtain ⟨d, rfl, hd⟩ := qm_dn hd
  show qm_Wp (qm_M d) qk_162 Q 0 [some (vR 50 0), some (vI s), some (vI n), some (vI m)] [] σ
  have h6 := hs.le
  have hl := hr.2.1
  by_cases e : s = -1
  · refine qm_go 3 (fun P hP => And.intro (fun z => absurd e z) (fun _ => hP ?_))
    have z := see_9 (A := A) (R := R) (n := n) (m := m) e
    rw [z.1, z.2] at h
    refine qm_go 3 (fun P hP => hP ?_)
    generalize hσ : wF _ 50 0 (upd _ 32 _) = σ2
    exact qm_go 2 (fun P hP => h σ2 (by rw [← hσ]; exact Fr.w1 (by omega)) ⟨by rw [← hσ]; exact wv_same, by decide, (fun i q hq => by cases hq)⟩)
  · refine qm_go 3 (fun P hP => And.intro (fun _ => hP ?_) (fun z => absurd z e))
    refine qm_go 3 (fun P hP => m_isOne (by omega) (Nat.lt_of_le_of_lt h6 (by decide)) hs.n (fun ch => hP ?_) (fun ch => hP ?_))
    · refine qm_go 1 (fun P hP => And.intro (fun _ => hP ?_) (fun z => absurd z (by decide)))
      have h1 : seeC A R s n m = (if inP n 13 ∧ inP m 100 then (if R.length = 5 then 4 else 0) else 2) := (if_neg e).trans (if_pos ch)
      have bad : ¬ (inR n 13 ∧ inR m 100) → qm_Wp (qm_M d) qk_162 Q 26 [some (vR 50 0), some (vI s), some (vI n), some (vI m)] [] σ := fun y => by
        have hc : seeC A R s n m = 2 := h1.trans (if_neg y)
        have z := see_c hc (by decide) (by decide)
        rw [z.1, z.2] at h
        exact qm_go 2 (fun P hP => h σ Fr.rf hr)
      refine qm_go 5 (fun P hP => m_inR 13 (by decide) rfl (hd := by omega) (fun hn => hP ?_) (fun hn => hP ?_))
      · refine qm_go 1 (fun P hP => And.intro (fun z => absurd z (by decide)) (fun _ => hP ?_))
        refine qm_go 5 (fun P hP => m_inR 100 (by decide) rfl (hd := by omega) (fun cm => hP ?_) (fun cm => hP ?_))
        · refine qm_go 1 (fun P hP => And.intro (fun _ => hP ?_) (fun z => absurd z (by decide)))
          have hcc := h1.trans (if_pos ⟨hn, cm⟩)
          obtain ⟨p, hp, rfl⟩ := ch
          obtain ⟨q, hq, rfl⟩ := hn
          by_cases e5 : R.length = 5
          · refine qm_go 4 (fun P hP => And.intro (fun z => absurd (by rw [hr.1, e5]; rfl) z) (fun _ => hP ?_))
            have hc := hcc.trans (if_pos e5)
            have z := see_c hc (by decide) (by decide)
            rw [z.1, z.2] at h
            exact qm_go 2 (fun P hP => h σ Fr.rf hr)
          · refine qm_go 4 (fun P hP => And.intro (fun _ => hP ?_) (fun z => absurd ((nI_eq (b := 5) (by omega) (by omega)).mp (by rw [← hr.1]; exact z)) e5))
            have hc := hcc.trans (if_neg e5)
            have z := see_0 hc
            rw [z.1, z.2] at h
            have h5 : R.length < 5 := by omega
            refine qm_go 6 (fun P hP => Exists.intro (R.length) (And.intro (And.intro (hr.1) (h5)) (hP ?_)))
            refine qm_go 6 (fun P hP => Exists.intro (R.length) (And.intro (And.intro (hr.1) (h5)) (hP ?_)))
            refine qm_go 6 (fun P hP => Exists.intro (R.length) (And.intro (And.intro (hr.1) (h5)) (hP ?_)))
            refine qm_go 6 (fun P hP => hP ?_)
            generalize hσ : wF _ 50 0 (upd _ 32 _) = σ2
            have F : Fr (fun t i j => (t = 50 ∧ j = 32) ∨ (68 ≤ t ∧ t ≤ 70)) σ σ2 := by
              rw [← hσ]
              exact Fr.p1 (Fr.p1 (Fr.p1 (Fr.w1 (by omega)) (by omega)) (by omega)) (by omega)
            have k8 : σ2.1 50 0 32 = nI (R.length + 1) := by rw [← hσ, wv_same, wF_ne _ _ (by omega), wF_ne _ _ (by omega), wF_ne _ _ (by omega), hr.1, nI_1]
            refine qm_go 2 (fun P hP => hP ?_)
            rw [k8]
            refine qm_go 1 (fun P hP => h σ2 F ⟨by rw [k8, List.length_append]; rfl, by rw [List.length_append]; exact h5, l_app (P := fun i q => σ.1 68 0 i = nI q.1 ∧ σ.1 69 0 i = nI q.2.1 ∧ σ.1 70 0 i = q.2.2) hr.2.2 (fun i q hi w => ?_) ?_⟩)
            · have g1 : σ2.1 68 0 i = σ.1 68 0 i := by rw [← hσ, wF_ne _ _ (by omega), wF_ne _ _ (by omega), wF_ne _ _ (by omega), wv_ne (by omega)]
              have g2 : σ2.1 69 0 i = σ.1 69 0 i := by rw [← hσ, wF_ne _ _ (by omega), wF_ne _ _ (by omega), wv_ne (by omega), wF_ne _ _ (by omega)]
              have g3 : σ2.1 70 0 i = σ.1 70 0 i := by rw [← hσ, wF_ne _ _ (by omega), wv_ne (by omega), wF_ne _ _ (by omega), wF_ne _ _ (by omega)]
              rw [g1, g2, g3]
              exact w
            · rw [tN_nI (by omega), tN_nI (by omega)]
              exact ⟨by rw [← hσ, wF_ne _ _ (by omega), wF_ne _ _ (by omega), wF_ne _ _ (by omega), wv_same], by rw [← hσ, wF_ne _ _ (by omega), wF_ne _ _ (by omega), wv_same], by rw [← hσ, wF_ne _ _ (by omega), wv_same]⟩
        · exact qm_go 1 (fun P hP => And.intro (fun z => absurd rfl z) (fun _ => hP (bad (fun y => cm y.2))))
      · exact qm_go 1 (fun P hP => And.intro (fun _ => hP (bad (fun y => hn y.1))) (fun z => absurd rfl z))
    · refine qm_go 1 (fun P hP => And.intro (fun z => absurd rfl z) (fun _ => hP ?_))
      have hc : seeC A R s n m = 1 := (if_neg e).trans (if_neg ch)
      have z := see_c hc (by decide) (by decide)
      rw [z.1, z.2] at h
      exact qm_go 2 (fun P hP => h σ Fr.rf hr)
theorem m_plan {d : Nat} (hd : 3 ≤ d) {σ : qm_Sg} {Q : qm_Po} {A : AS} {R : P9} {s n : Int32} (hs : mS σ A) (hr : mPlan σ R) (h : ∀ σ', Fr (fun t i j => (t = 50 ∧ j = 36) ∨ (71 ≤ t ∧ t ≤ 72)) σ σ' → mPlan σ' (planR A R s n) → Q σ' (some (vI (slV (planC A R s n) R.length)))) : qm_M d 171 [vR 50 0, vI s, vI n] σ Q := by
  obtain ⟨d, rfl, hd⟩ := qm_dn hd
  show qm_Wp (qm_M d) qk_171 Q 0 [some (vR 50 0), some (vI s), some (vI n)] [] σ
  have h6 := hs.le
  have hl := hr.2.1
  by_cases e : s = -1
  · refine qm_go 3 (fun P hP => And.intro (fun z => absurd e z) (fun _ => hP ?_))
    have z := plan_9 (A := A) (R := R) (n := n) e
    rw [z.1, z.2] at h
    refine qm_go 3 (fun P hP => hP ?_)
    generalize hσ : wF _ 50 0 (upd _ 36 _) = σ2
    exact qm_go 2 (fun P hP => h σ2 (by rw [← hσ]; exact Fr.w1 (by omega)) ⟨by rw [← hσ]; exact wv_same, by decide, (fun i q hq => by cases hq)⟩)
  · refine qm_go 3 (fun P hP => And.intro (fun _ => hP ?_) (fun z => absurd z e))
    have bad : ¬ (inR s 4 ∧ (s = 0 ∨ inR n A.1)) → qm_Wp (qm_M d) qk_171 Q 20 [some (vR 50 0), some (vI s), some (vI n)] [] σ := fun y => by
      have hc : planC A R s n = 1 := (if_neg e).trans (if_neg y)
      have z := plan_c hc (by decide) (by decide)
      rw [z.1, z.2] at h
      exact qm_go 2 (fun P hP => h σ Fr.rf hr)
    have good : inR s 4 → (s = 0 ∨ inR n A.1) → qm_Wp (qm_M d) qk_171 Q 22 [some (vR 50 0), some (vI s), some (vI n)] [] σ := fun y1 y2 => by
      have hcc : planC A R s n = (if R.length = 10 then 4 else 0) := (if_neg e).trans (if_pos ⟨y1, y2⟩)
      obtain ⟨p, hp, rfl⟩ := y1
      by_cases hz : nI p = 0
      · by_cases e5 : R.length = 10
        · refine qm_go 4 (fun P hP => And.intro (fun z => absurd (by rw [hr.1, e5]; rfl) z) (fun _ => hP ?_))
          have hc := hcc.trans (if_pos e5)
          have z := plan_c hc (by decide) (by decide)
          rw [z.1, z.2] at h
          exact qm_go 2 (fun P hP => h σ Fr.rf hr)
        · refine qm_go 4 (fun P hP => And.intro (fun _ => hP ?_) (fun z => absurd ((nI_eq (b := 10) (by omega) (by omega)).mp (by rw [← hr.1]; exact z)) e5))
          have hc := hcc.trans (if_neg e5)
          have z := plan_0 hc
          rw [z.1, z.2] at h
          have h5 : R.length < 10 := by omega
          refine qm_go 6 (fun P hP => Exists.intro (R.length) (And.intro (And.intro (hr.1) (h5)) (hP ?_)))
          refine qm_go 6 (fun P hP => And.intro (fun _ => hP ?_) (fun z => absurd (by rw [hz]; decide) z))
          refine qm_go 2 (fun P hP => Exists.intro (R.length) (And.intro (And.intro (by rw [wF_ne _ _ (by omega)]; exact hr.1) (h5)) (hP ?_)))
          refine qm_go 6 (fun P hP => hP ?_)
          generalize hσ : wF _ 50 0 (upd _ 36 _) = σ2
          have F : Fr (fun t i j => (t = 50 ∧ j = 36) ∨ (71 ≤ t ∧ t ≤ 72)) σ σ2 := by
            rw [← hσ]
            exact Fr.p1 (Fr.p1 (Fr.w1 (by omega)) (by omega)) (by omega)
          have k8 : σ2.1 50 0 36 = nI (R.length + 1) := by rw [← hσ, wv_same, wF_ne _ _ (by omega), wF_ne _ _ (by omega), hr.1, nI_1]
          refine qm_go 2 (fun P hP => hP ?_)
          rw [k8]
          refine qm_go 1 (fun P hP => h σ2 F ⟨by rw [k8, List.length_append]; rfl, by rw [List.length_append]; exact h5, l_app (P := fun i q => σ.1 71 0 i = nI q.1 ∧ (q.1 ≠ 0 → σ.1 72 0 i = nI q.2)) hr.2.2 (fun i q hi w => ?_) ?_⟩)
          · have g1 : σ2.1 71 0 i = σ.1 71 0 i := by rw [← hσ, wF_ne _ _ (by omega), wF_ne _ _ (by omega), wv_ne (by omega)]
            have g2 : σ2.1 72 0 i = σ.1 72 0 i := by rw [← hσ, wF_ne _ _ (by omega), wv_ne (by omega), wF_ne _ _ (by omega)]
            rw [g1, g2]
            exact w
          · rw [tN_nI (by omega)]
            refine ⟨by rw [← hσ, wF_ne _ _ (by omega), wF_ne _ _ (by omega), wv_same], fun z => ?_⟩
            have z2 : ¬ nI p = 0 := fun y => z ((nI_eq (b := 0) (by omega) (by omega)).mp y)
            exact absurd hz z2
      · have hp0 : 0 < p := Nat.pos_of_ne_zero (fun y => hz (by rw [y]; rfl))
        by_cases e5 : R.length = 10
        · refine qm_go 4 (fun P hP => And.intro (fun z => absurd (by rw [hr.1, e5]; rfl) z) (fun _ => hP ?_))
          have hc := hcc.trans (if_pos e5)
          have z := plan_c hc (by decide) (by decide)
          rw [z.1, z.2] at h
          exact qm_go 2 (fun P hP => h σ Fr.rf hr)
        · refine qm_go 4 (fun P hP => And.intro (fun _ => hP ?_) (fun z => absurd ((nI_eq (b := 10) (by omega) (by omega)).mp (by rw [← hr.1]; exact z)) e5))
          have hc := hcc.trans (if_neg e5)
          have z := plan_0 hc
          rw [z.1, z.2] at h
          have h5 : R.length < 10 := by omega
          refine qm_go 6 (fun P hP => Exists.intro (R.length) (And.intro (And.intro (hr.1) (h5)) (hP ?_)))
          refine qm_go 6 (fun P hP => And.intro (fun z => absurd z (nI_nle (by omega) (by omega))) (fun _ => hP ?_))
          refine qm_go 3 (fun P hP => Exists.intro (R.length) (And.intro (And.intro (by rw [wF_ne _ _ (by omega)]; exact hr.1) (h5)) (hP ?_)))
          refine qm_go 6 (fun P hP => hP ?_)
          generalize hσ : wF _ 50 0 (upd _ 36 _) = σ2
          have F : Fr (fun t i j => (t = 50 ∧ j = 36) ∨ (71 ≤ t ∧ t ≤ 72)) σ σ2 := by
            rw [← hσ]
            exact Fr.p1 (Fr.p1 (Fr.w1 (by omega)) (by omega)) (by omega)
          have k8 : σ2.1 50 0 36 = nI (R.length + 1) := by rw [← hσ, wv_same, wF_ne _ _ (by omega), wF_ne _ _ (by omega), hr.1, nI_1]
          refine qm_go 2 (fun P hP => hP ?_)
          rw [k8]
          refine qm_go 1 (fun P hP => h σ2 F ⟨by rw [k8, List.length_append]; rfl, by rw [List.length_append]; exact h5, l_app (P := fun i q => σ.1 71 0 i = nI q.1 ∧ (q.1 ≠ 0 → σ.1 72 0 i = nI q.2)) hr.2.2 (fun i q hi w => ?_) ?_⟩)
          · have g1 : σ2.1 71 0 i = σ.1 71 0 i := by rw [← hσ, wF_ne _ _ (by omega), wF_ne _ _ (by omega), wv_ne (by omega)]
            have g2 : σ2.1 72 0 i = σ.1 72 0 i := by rw [← hσ, wF_ne _ _ (by omega), wv_ne (by omega), wF_ne _ _ (by omega)]
            rw [g1, g2]
            exact w
          · rw [tN_nI (by omega)]
            refine ⟨by rw [← hσ, wF_ne _ _ (by omega), wF_ne _ _ (by omega), wv_same], fun z => ?_⟩
            have z2 : ¬ nI p = 0 := fun y => z ((nI_eq (b := 0) (by omega) (by omega)).mp y)
            obtain ⟨q, hq, rfl⟩ := y2.resolve_left z2
            rw [← hσ, wF_ne _ _ (by omega), wv_same]
            show nI q = nI (if nI p = 0 then 0 else tN (nI q))
            rw [if_neg z2, tN_nI (by omega)]
    refine qm_go 5 (fun P hP => m_inR 4 (by decide) rfl (hd := by omega) (fun hn => hP ?_) (fun hn => hP ?_))
    · refine qm_go 1 (fun P hP => And.intro (fun z => absurd z (by decide)) (fun _ => hP ?_))
      refine qm_go 2 (fun P hP => And.intro (fun c3 => hP (good hn (Or.inl ?_))) (fun c3 => hP ?_))
      · exact i_eq.mpr (by
          have q1 := (inR_lt' (by decide) hn).1
          rw [i_lt] at q1
          rw [i_le] at c3
          omega)
      · refine qm_go 3 (fun P hP => m_isOne (by omega) (Nat.lt_of_le_of_lt h6 (by decide)) hs.n (fun ch => hP ?_) (fun ch => hP ?_))
        · exact qm_go 1 (fun P hP => And.intro (fun _ => hP (good hn (Or.inr ch))) (fun z => absurd z (by decide)))
        · exact qm_go 1 (fun P hP => And.intro (fun z => absurd rfl z) (fun _ => hP (bad (fun y => y.2.elim (fun z => c3 (by rw [z]; decide)) ch))))
    · exact qm_go 1 (fun P hP => And.intro (fun _ => hP (bad (fun y => hn y.1))) (fun z => absurd rfl z))
theorem m_book {d : Nat} (hd : 3 ≤ d) {σ : qm_Sg} {Q : qm_Po} {A : AS} {R : B9} {s n : Int32} (hs : mS σ A) (hr : mBook σ R) (h : ∀ σ', Fr (fun t i j => (t = 50 ∧ j = 37) ∨ (73 ≤ t ∧ t ≤ 74)) σ σ' → mBook σ' (bookR A R s n) → Q σ' (some (vI (slV (bookC A R s n) R.length)))) : qm_M d 174 [vR 50 0, vI s, vI n] σ Q := by
  obtain ⟨d, rfl, hd⟩ := qm_dn hd
  show qm_Wp (qm_M d) qk_174 Q 0 [some (vR 50 0), some (vI s), some (vI n)] [] σ
  have h6 := hs.le
  have hl := hr.2.1
  by_cases e : s = -1
  · refine qm_go 3 (fun P hP => And.intro (fun z => absurd e z) (fun _ => hP ?_))
    have z := book_9 (A := A) (R := R) (n := n) e
    rw [z.1, z.2] at h
    refine qm_go 3 (fun P hP => hP ?_)
    generalize hσ : wF _ 50 0 (upd _ 37 _) = σ2
    exact qm_go 2 (fun P hP => h σ2 (by rw [← hσ]; exact Fr.w1 (by omega)) ⟨by rw [← hσ]; exact wv_same, by decide, (fun i q hq => by cases hq)⟩)
  · refine qm_go 3 (fun P hP => And.intro (fun _ => hP ?_) (fun z => absurd z e))
    refine qm_go 3 (fun P hP => m_isOne (by omega) (Nat.lt_of_le_of_lt h6 (by decide)) hs.n (fun ch => hP ?_) (fun ch => hP ?_))
    · refine qm_go 1 (fun P hP => And.intro (fun _ => hP ?_) (fun z => absurd z (by decide)))
      have h1 : bookC A R s n = (if inP n 10000 then (if R.length = 8 then 4 else 0) else 2) := (if_neg e).trans (if_pos ch)
      refine qm_go 3 (fun P hP => m_isMany (by omega) (fun cm => hP ?_) (fun cm => hP ?_))
      · refine qm_go 1 (fun P hP => And.intro (fun _ => hP ?_) (fun z => absurd z (by decide)))
        have hcc := h1.trans (if_pos cm)
        obtain ⟨p, hp, rfl⟩ := ch
        by_cases e5 : R.length = 8
        · refine qm_go 4 (fun P hP => And.intro (fun z => absurd (by rw [hr.1, e5]; rfl) z) (fun _ => hP ?_))
          have hc := hcc.trans (if_pos e5)
          have z := book_c hc (by decide) (by decide)
          rw [z.1, z.2] at h
          exact qm_go 2 (fun P hP => h σ Fr.rf hr)
        · refine qm_go 4 (fun P hP => And.intro (fun _ => hP ?_) (fun z => absurd ((nI_eq (b := 8) (by omega) (by omega)).mp (by rw [← hr.1]; exact z)) e5))
          have hc := hcc.trans (if_neg e5)
          have z := book_0 hc
          rw [z.1, z.2] at h
          have h5 : R.length < 8 := by omega
          refine qm_go 6 (fun P hP => Exists.intro (R.length) (And.intro (And.intro (hr.1) (h5)) (hP ?_)))
          refine qm_go 6 (fun P hP => Exists.intro (R.length) (And.intro (And.intro (hr.1) (h5)) (hP ?_)))
          refine qm_go 6 (fun P hP => hP ?_)
          generalize hσ : wF _ 50 0 (upd _ 37 _) = σ2
          have F : Fr (fun t i j => (t = 50 ∧ j = 37) ∨ (73 ≤ t ∧ t ≤ 74)) σ σ2 := by
            rw [← hσ]
            exact Fr.p1 (Fr.p1 (Fr.w1 (by omega)) (by omega)) (by omega)
          have k8 : σ2.1 50 0 37 = nI (R.length + 1) := by rw [← hσ, wv_same, wF_ne _ _ (by omega), wF_ne _ _ (by omega), hr.1, nI_1]
          refine qm_go 2 (fun P hP => hP ?_)
          rw [k8]
          refine qm_go 1 (fun P hP => h σ2 F ⟨by rw [k8, List.length_append]; rfl, by rw [List.length_append]; exact h5, l_app (P := fun i q => σ.1 73 0 i = nI q.1 ∧ σ.1 74 0 i = q.2) hr.2.2 (fun i q hi w => ?_) ?_⟩)
          · have g1 : σ2.1 73 0 i = σ.1 73 0 i := by rw [← hσ, wF_ne _ _ (by omega), wF_ne _ _ (by omega), wv_ne (by omega)]
            have g2 : σ2.1 74 0 i = σ.1 74 0 i := by rw [← hσ, wF_ne _ _ (by omega), wv_ne (by omega), wF_ne _ _ (by omega)]
            rw [g1, g2]
            exact w
          · rw [tN_nI (by omega)]
            exact ⟨by rw [← hσ, wF_ne _ _ (by omega), wF_ne _ _ (by omega), wv_same], by rw [← hσ, wF_ne _ _ (by omega), wv_same]⟩
      · refine qm_go 1 (fun P hP => And.intro (fun z => absurd rfl z) (fun _ => hP ?_))
        have hc : bookC A R s n = 2 := h1.trans (if_neg cm)
        have z := book_c hc (by decide) (by decide)
        rw [z.1, z.2] at h
        exact qm_go 2 (fun P hP => h σ Fr.rf hr)
    · refine qm_go 1 (fun P hP => And.intro (fun z => absurd rfl z) (fun _ => hP ?_))
      have hc : bookC A R s n = 1 := (if_neg e).trans (if_neg ch)
      have z := book_c hc (by decide) (by decide)
      rw [z.1, z.2] at h
      exact qm_go 2 (fun P hP => h σ Fr.rf hr)
