def tpC (t9 s9 n9 : Int32) : Nat := if inP t9 6 then (if s9 = -1 then 0 else if inP s9 5 ∧ n9 ≤ 60 then (if n9 < 0 then 14 else 0) else 2) else 1
def tpZ (Z : TP9) (t z9 : Nat) (s9 : Int32) : TP9 := (upd Z.1 t s9, fun a => if a = t then z9 else Z.2.1 a, fun a b => if a = t then 0 else Z.2.2 a b)
def tpT (Z : TP9) (t9 s9 n9 : Int32) : TP9 := if tpC t9 s9 n9 = 0 then tpZ Z (tN t9) (if s9 = -1 then 0 else tN n9) s9 else Z
theorem tp_c {Z : TP9} {t9 s9 n9 : Int32} {c : Nat} (h : tpC t9 s9 n9 = c) (h0 : c ≠ 0) : tcV (tpC t9 s9 n9) 1 = -nI c ∧ tpT Z t9 s9 n9 = Z := by
  unfold tcV tpT
  rw [h, if_neg h0, if_neg h0]
  exact ⟨rfl, rfl⟩
theorem tp_0 {Z : TP9} {t9 s9 n9 : Int32} (h : tpC t9 s9 n9 = 0) : tcV (tpC t9 s9 n9) 1 = 1 ∧ tpT Z t9 s9 n9 = tpZ Z (tN t9) (if s9 = -1 then 0 else tN n9) s9 := by
  unfold tcV tpT
  rw [h, if_pos rfl, if_pos rfl]
  exact ⟨rfl, rfl⟩
theorem c_fill_l {d : Nat} {σ0 : qm_Sg} {Q : qm_Po} {t : Nat} (h : ∀ σ', σ'.1 = σ0.1 → (∀ a b j, ¬ (a = 7 ∧ b = t) → σ'.2 a b j = σ0.2 a b j) → (∀ j, j < 60 → σ'.2 7 t j = 0) → Q σ' none) : ∀ (k q : Nat) (σ : qm_Sg), q + k = 60 → σ.1 = σ0.1 → (∀ a b j, ¬ (a = 7 ∧ b = t) → σ.2 a b j = σ0.2 a b j) → (∀ j, j < q → σ.2 7 t j = 0) → qm_Wp (qm_M d) qk_14 Q 5 [some (vR 7 t), some (vL 0), none, some (vI (nI q)), some (vI (nI 60))] [] σ
  | 0, q, σ, e, e1, e2, e3 => by
    have : q = 60 := by omega
    subst this
    refine qm_go 3 (fun P hP => And.intro (fun _ => hP ?_) (fun z => absurd (by decide) z))
    exact qm_go 1 (fun P hP => h σ e1 e2 e3)
  | k + 1, q, σ, e, e1, e2, e3 => by
    refine qm_go 3 (fun P hP => And.intro (fun z => absurd z (nI_ge (b := 60) (by omega) (by omega))) (fun _ => hP ?_))
    refine qm_go 4 (fun P hP => Exists.intro (q) (And.intro (And.intro (rfl) (show q < 60 by omega)) (hP ?_)))
    refine qm_go 2 (fun P hP => hP ?_)
    rw [nI_1]
    refine c_fill_l h k (q + 1) _ (by omega) e1 (fun a b j y => by rw [wG_ne _ _ y]; exact e2 a b j y) (fun j hj => ?_)
    rw [wG_same]
    by_cases ej : j = q
    · rw [ej, uL_same]
    · rw [uL_ne ej]
      exact e3 j (by omega)
theorem c_fill {d : Nat} (hd : 1 ≤ d) {σ : qm_Sg} {Q : qm_Po} {t : Nat} (h : ∀ σ', σ'.1 = σ.1 → (∀ a b j, ¬ (a = 7 ∧ b = t) → σ'.2 a b j = σ.2 a b j) → (∀ j, j < 60 → σ'.2 7 t j = 0) → Q σ' none) : qm_M d 14 [vR 7 t, vL 0] σ Q := by
  obtain ⟨d, rfl, hd⟩ := qm_dn hd
  show qm_Wp (qm_M d) qk_14 Q 0 [some (vR 7 t), some (vL 0), none, none, none] [] σ
  refine qm_go 5 (fun P hP => hP ?_)
  exact c_fill_l h 60 0 σ rfl rfl (fun _ _ _ _ => rfl) (fun j hj => absurd hj (by omega))
theorem c_tape {d : Nat} (hd : 2 ≤ d) {σ : qm_Sg} {Q : qm_Po} {Z : TP9} {t9 s9 n9 : Int32} (hz : cTap σ Z) (h : ∀ σ', FrL (fun t i j => t = 8 ∨ t = 9) (fun t => t = 7) σ σ' → cTap σ' (tpT Z t9 s9 n9) → Q σ' (some (vI (tcV (tpC t9 s9 n9) 1)))) : qm_M d 92 [vR 0 0, vI t9, vI s9, vI n9] σ Q := by
  obtain ⟨d, rfl, hd⟩ := qm_dn hd
  show qm_Wp (qm_M d) qk_92 Q 0 [some (vR 0 0), some (vI t9), some (vI s9), some (vI n9)] [] σ
  refine qm_go 3 (fun P hP => c_isWithin (n := 6) (by omega) (by decide) (fun ct => hP ?_) (fun ct => hP ?_))
  · refine qm_go 1 (fun P hP => And.intro (fun _ => hP ?_) (fun z => absurd z (by decide)))
    have h1 : tpC t9 s9 n9 = (if s9 = -1 then 0 else if inP s9 5 ∧ n9 ≤ 60 then (if n9 < 0 then 14 else 0) else 2) := if_pos ct
    obtain ⟨t, ht, rfl⟩ := ct
    by_cases e1 : s9 = -1
    · have z := tp_0 (Z := Z) (h1.trans (if_pos e1))
      rw [z.1, z.2, tN_nI (by omega), if_pos e1] at h
      subst e1
      refine qm_go 3 (fun P hP => And.intro (fun _ => hP ?_) (fun z => absurd rfl z))
      refine qm_go 3 (fun P hP => And.intro (fun _ => hP ?_) (fun z => absurd rfl z))
      refine qm_go 5 (fun P hP => Exists.intro (t) (And.intro (And.intro (rfl) (ht)) (hP ?_)))
      refine qm_go 6 (fun P hP => And.intro (fun z => absurd rfl z) (fun _ => hP ?_))
      refine qm_go 3 (fun P hP => Exists.intro (t) (And.intro (And.intro (rfl) (ht)) (hP ?_)))
      generalize hσ : wF _ 9 0 (upd _ t _) = σ1
      have F1 : Fr (fun t i j => t = 8 ∨ t = 9) σ σ1 := by
        rw [← hσ]
        exact Fr.p1 (Fr.w1 (by omega)) (by omega)
      refine qm_go 4 (fun P hP => Exists.intro (t) (And.intro (And.intro (rfl) (ht)) (hP ?_)))
      refine qm_go 2 (fun P hP => c_fill (t := t) (by omega) (fun σ2 g1 g2 g3 => hP ?_))
      refine qm_go 2 (fun P hP => h σ2 ⟨fun a b j y => by rw [g1]; exact F1.1 a b j y, fun a b j y => by rw [g2 a b j (fun w => y w.1), F1.2]⟩ (fun a ha => ?_))
      obtain ⟨c1, c2, c3⟩ := hz a ha
      rw [g1]
      by_cases e : a = t
      · subst e
        refine ⟨by rw [← hσ, wF_ne _ _ (by omega), wv_same]; exact upd_same.symm, by rw [← hσ, wv_same]; show _ = nI (if a = a then _ else _); rw [if_pos rfl]; rfl, fun j hj => by rw [g3 j hj]; show _ = (if a = a then _ else _); rw [if_pos rfl]⟩
      · refine ⟨by rw [← hσ, wF_ne _ _ (by omega), wv_ne e]; exact c1.trans (upd_ne e).symm, by rw [← hσ, wv_ne e, wF_ne _ _ (by omega)]; show _ = nI (if a = t then _ else _); rw [if_neg e]; exact c2, fun j hj => by rw [g2 _ _ _ (fun w => e w.2), F1.2]; show _ = (if a = t then _ else _); rw [if_neg e]; exact c3 j hj⟩
    · refine qm_go 3 (fun P hP => And.intro (fun z => absurd z e1) (fun _ => hP ?_))
      have bad : ¬ (inP s9 5 ∧ n9 ≤ 60) → qm_Wp (qm_M d) qk_92 Q 16 [some (vR 0 0), some (vI (nI t)), some (vI s9), some (vI n9)] [] σ := fun y => by
        have hc := h1.trans ((if_neg e1).trans (if_neg y))
        have z := tp_c (Z := Z) hc (by decide)
        rw [z.1, z.2] at h
        exact qm_go 2 (fun P hP => h σ FrL.rf hz)
      refine qm_go 3 (fun P hP => c_isWithin (n := 5) (by omega) (by decide) (fun cs => hP ?_) (fun cs => hP ?_))
      · refine qm_go 1 (fun P hP => And.intro (fun z => absurd z (by decide)) (fun _ => hP ?_))
        refine qm_go 3 (fun P hP => And.intro (fun c => hP ?_) (fun c => hP (bad (fun y => c y.2))))
        have y : inP s9 5 ∧ n9 ≤ 60 := ⟨cs, c⟩
        refine qm_go 3 (fun P hP => And.intro (fun z => absurd z e1) (fun _ => hP ?_))
        refine qm_go 2 (fun P hP => And.intro (fun c2 => hP ?_) (fun c2 => hP ?_))
        · have c3 : ¬ n9 < 0 := i_nlt c2
          have z := tp_0 (Z := Z) (h1.trans ((if_neg e1).trans ((if_pos y).trans (if_neg c3))))
          rw [z.1, z.2, tN_nI (by omega), if_neg e1] at h
          obtain ⟨m9, hm9, rfl⟩ := nI_of c3
          rw [tN_nI hm9] at h
          refine qm_go 5 (fun P hP => Exists.intro (t) (And.intro (And.intro (rfl) (ht)) (hP ?_)))
          refine qm_go 6 (fun P hP => And.intro (fun _ => hP ?_) (fun z => absurd z e1))
          refine qm_go 2 (fun P hP => Exists.intro (t) (And.intro (And.intro (rfl) (ht)) (hP ?_)))
          generalize hσ : wF _ 9 0 (upd _ t _) = σ1
          have F1 : Fr (fun t i j => t = 8 ∨ t = 9) σ σ1 := by
            rw [← hσ]
            exact Fr.p1 (Fr.w1 (by omega)) (by omega)
          refine qm_go 4 (fun P hP => Exists.intro (t) (And.intro (And.intro (rfl) (ht)) (hP ?_)))
          refine qm_go 2 (fun P hP => c_fill (t := t) (by omega) (fun σ2 g1 g2 g3 => hP ?_))
          refine qm_go 2 (fun P hP => h σ2 ⟨fun a b j y => by rw [g1]; exact F1.1 a b j y, fun a b j y => by rw [g2 a b j (fun w => y w.1), F1.2]⟩ (fun a ha => ?_))
          obtain ⟨c1, c2, c3⟩ := hz a ha
          rw [g1]
          by_cases e : a = t
          · subst e
            refine ⟨by rw [← hσ, wF_ne _ _ (by omega), wv_same]; exact upd_same.symm, by rw [← hσ, wv_same]; show _ = nI (if a = a then _ else _); rw [if_pos rfl], fun j hj => by rw [g3 j hj]; show _ = (if a = a then _ else _); rw [if_pos rfl]⟩
          · refine ⟨by rw [← hσ, wF_ne _ _ (by omega), wv_ne e]; exact c1.trans (upd_ne e).symm, by rw [← hσ, wv_ne e, wF_ne _ _ (by omega)]; show _ = nI (if a = t then _ else _); rw [if_neg e]; exact c2, fun j hj => by rw [g2 _ _ _ (fun w => e w.2), F1.2]; show _ = (if a = t then _ else _); rw [if_neg e]; exact c3 j hj⟩
        · have hc := h1.trans ((if_neg e1).trans ((if_pos y).trans (if_pos (i_lt_of c2))))
          have z := tp_c (Z := Z) hc (by decide)
          rw [z.1, z.2] at h
          exact qm_go 2 (fun P hP => h σ FrL.rf hz)
      · exact qm_go 1 (fun P hP => And.intro (fun _ => hP (bad (fun y => cs y.1))) (fun z => absurd rfl z))
  · refine qm_go 1 (fun P hP => And.intro (fun z => absurd rfl z) (fun _ => hP ?_))
    have hc : tpC t9 s9 n9 = 1 := if_neg ct
    have z := tp_c (Z := Z) hc (by decide)
    rw [z.1, z.2] at h
    exact qm_go 2 (fun P hP => h σ FrL.rf hz)
theorem m_tp_l {d : Nat} {σ0 : qm_Sg} {Q : qm_Po} {t : Nat} {x2 x3 : Int32} (ht : t < 6) (h : ∀ σ', σ'.1 = σ0.1 → (∀ a b j, ¬ (a = 90 ∧ b = 0 ∧ 60 * t ≤ j ∧ j < 60 * t + 60) → σ'.2 a b j = σ0.2 a b j) → (∀ j, j < 60 → σ'.2 90 0 (60 * t + j) = 0) → Q σ' (some (vI 1))) : ∀ (k q : Nat) (σ : qm_Sg), q + k = 60 → σ.1 = σ0.1 → (∀ a b j, ¬ (a = 90 ∧ b = 0 ∧ 60 * t ≤ j ∧ j < 60 * t + 60) → σ.2 a b j = σ0.2 a b j) → (∀ j, j < q → σ.2 90 0 (60 * t + j) = 0) → qm_Wp (qm_M d) qk_192 Q 41 [some (vR 50 0), some (vI (nI t)), some (vI x2), some (vI x3), some (vI (nI q))] [] σ
  | 0, q, σ, e, e1, e2, e3 => by
    have : q = 60 := by omega
    subst this
    refine qm_go 3 (fun P hP => And.intro (fun _ => hP ?_) (fun z => absurd (by decide) z))
    exact qm_go 2 (fun P hP => h σ e1 e2 e3)
  | k + 1, q, σ, e, e1, e2, e3 => by
    refine qm_go 3 (fun P hP => And.intro (fun z => absurd z (nI_ge (b := 60) (by omega) (by omega))) (fun _ => hP ?_))
    refine qm_go 9 (fun P hP => Exists.intro (60 * t + q) (And.intro (And.intro (ix60) (show 60 * t + q < 360 by omega)) (hP ?_)))
    refine qm_go 2 (fun P hP => hP ?_)
    rw [nI_1]
    refine m_tp_l ht h k (q + 1) _ (by omega) e1 (fun a b j y => ?_) (fun j hj => ?_)
    · by_cases eb : a = 90 ∧ b = 0
      · obtain ⟨rfl, rfl⟩ := eb
        rw [wG_same, uL_ne (by omega)]
        exact e2 _ _ _ y
      · rw [wG_ne _ _ eb]
        exact e2 _ _ _ y
    · rw [wG_same]
      by_cases ej : j = q
      · rw [ej, uL_same]; rfl
      · rw [uL_ne (by omega)]
        exact e3 j (by omega)
theorem m_tape {d : Nat} (hd : 3 ≤ d) {σ : qm_Sg} {Q : qm_Po} {Z : TP9} {t9 s9 n9 : Int32} (hz : mTap σ Z) (h : ∀ σ', FrL (fun t i j => t = 88 ∨ t = 89) (fun t => t = 90 ∨ t = 91) σ σ' → mTap σ' (tpT Z t9 s9 n9) → Q σ' (some (vI (tcV (tpC t9 s9 n9) 1)))) : qm_M d 192 [vR 50 0, vI t9, vI s9, vI n9] σ Q := by
  obtain ⟨d, rfl, hd⟩ := qm_dn hd
  show qm_Wp (qm_M d) qk_192 Q 0 [some (vR 50 0), some (vI t9), some (vI s9), some (vI n9), none] [] σ
  refine qm_go 3 (fun P hP => m_isTape (by omega) (fun ct => hP ?_) (fun ct => hP ?_))
  · refine qm_go 1 (fun P hP => And.intro (fun _ => hP ?_) (fun z => absurd z (by decide)))
    have h1 : tpC t9 s9 n9 = (if s9 = -1 then 0 else if inP s9 5 ∧ n9 ≤ 60 then (if n9 < 0 then 14 else 0) else 2) := if_pos ct
    obtain ⟨t, ht, rfl⟩ := ct
    by_cases e1 : s9 = -1
    · have z := tp_0 (Z := Z) (h1.trans (if_pos e1))
      rw [z.1, z.2, tN_nI (by omega), if_pos e1] at h
      subst e1
      refine qm_go 5 (fun P hP => m_in (by omega) (fun _ _ => hP ?_) (fun y => absurd ⟨by decide, by decide⟩ y))
      refine qm_go 1 (fun P hP => And.intro (fun z => absurd z (by decide)) (fun _ => hP ?_))
      refine qm_go 2 (fun P hP => And.intro (fun _ => hP ?_) (fun z => absurd (by decide) z))
      refine qm_go 2 (fun P hP => And.intro (fun _ => hP ?_) (fun z => absurd (by decide) z))
      refine qm_go 5 (fun P hP => Exists.intro (t) (And.intro (And.intro (rfl) (ht)) (hP ?_)))
      refine qm_go 5 (fun P hP => And.intro (fun z => absurd z (by decide)) (fun _ => hP ?_))
      refine qm_go 3 (fun P hP => Exists.intro (t) (And.intro (And.intro (rfl) (ht)) (hP ?_)))
      generalize hσ : wF _ 89 0 (upd _ t _) = σ1
      have F1 : Fr (fun t i j => t = 88 ∨ t = 89) σ σ1 := by
        rw [← hσ]
        exact Fr.p1 (Fr.w1 (by omega)) (by omega)
      refine qm_go 2 (fun P hP => hP ?_)
      refine m_tp_l ht (fun σ2 g1 g2 g3 => ?_) 60 0 σ1 rfl rfl (fun _ _ _ _ => rfl) (fun j hj => absurd hj (by omega))
      refine h σ2 ⟨fun a b j y => by rw [g1]; exact F1.1 a b j y, fun a b j y => by rw [g2 a b j (fun w => y (Or.inl w.1)), F1.2]⟩ (fun a ha => ?_)
      obtain ⟨c1, c2, c3⟩ := hz a ha
      rw [g1]
      by_cases e : a = t
      · subst e
        refine ⟨by rw [← hσ, wF_ne _ _ (by omega), wv_same]; exact upd_same.symm, by rw [← hσ, wv_same]; show _ = nI (if a = a then _ else _); rw [if_pos rfl]; rfl, fun j hj => by rw [g3 j hj]; show _ = (if a = a then _ else _); rw [if_pos rfl]⟩
      · refine ⟨by rw [← hσ, wF_ne _ _ (by omega), wv_ne e]; exact c1.trans (upd_ne e).symm, by rw [← hσ, wv_ne e, wF_ne _ _ (by omega)]; show _ = nI (if a = t then _ else _); rw [if_neg e]; exact c2, fun j hj => by rw [g2 _ _ _ (fun w => by omega), F1.2]; show _ = (if a = t then _ else _); rw [if_neg e]; exact c3 j hj⟩
    · have bad : ¬ (inP s9 5 ∧ n9 ≤ 60) → qm_Wp (qm_M d) qk_192 Q 17 [some (vR 50 0), some (vI (nI t)), some (vI s9), some (vI n9), none] [] σ := fun y => by
        have hc := h1.trans ((if_neg e1).trans (if_neg y))
        have z := tp_c (Z := Z) hc (by decide)
        rw [z.1, z.2] at h
        exact qm_go 2 (fun P hP => h σ FrL.rf hz)
      refine qm_go 5 (fun P hP => m_in (by omega) (fun c1 c2 => hP ?_) (fun y => hP ?_))
      · have cs : inR s9 5 := inR_of' (n := 5) (by decide) (fun q => e1 (i_eq.mpr (by
          rw [i_lt] at c1 q
          have z1 : (-1 : Int32).toInt = -1 := rfl
          have z0 : (0 : Int32).toInt = 0 := rfl
          omega))) c2
        have s0 : ¬ s9 < 0 := (inR_ge (by decide) cs).1
        refine qm_go 1 (fun P hP => And.intro (fun z => absurd z (by decide)) (fun _ => hP ?_))
        refine qm_go 2 (fun P hP => And.intro (fun z => absurd z s0) (fun _ => hP ?_))
        refine qm_go 3 (fun P hP => And.intro (fun c => hP ?_) (fun c => hP (bad (fun y => c y.2))))
        have y : inP s9 5 ∧ n9 ≤ 60 := ⟨cs, c⟩
        refine qm_go 2 (fun P hP => And.intro (fun z => absurd z s0) (fun _ => hP ?_))
        refine qm_go 2 (fun P hP => And.intro (fun c2 => hP ?_) (fun c2 => hP ?_))
        · have c3 : ¬ n9 < 0 := i_nlt c2
          have z := tp_0 (Z := Z) (h1.trans ((if_neg e1).trans ((if_pos y).trans (if_neg c3))))
          rw [z.1, z.2, tN_nI (by omega), if_neg e1] at h
          obtain ⟨m9, hm9, rfl⟩ := nI_of c3
          rw [tN_nI hm9] at h
          refine qm_go 5 (fun P hP => Exists.intro (t) (And.intro (And.intro (rfl) (ht)) (hP ?_)))
          refine qm_go 5 (fun P hP => And.intro (fun _ => hP ?_) (fun z => absurd (i_le_of s0) z))
          refine qm_go 2 (fun P hP => Exists.intro (t) (And.intro (And.intro (rfl) (ht)) (hP ?_)))
          generalize hσ : wF _ 89 0 (upd _ t _) = σ1
          have F1 : Fr (fun t i j => t = 88 ∨ t = 89) σ σ1 := by
            rw [← hσ]
            exact Fr.p1 (Fr.w1 (by omega)) (by omega)
          refine qm_go 2 (fun P hP => hP ?_)
          refine m_tp_l ht (fun σ2 g1 g2 g3 => ?_) 60 0 σ1 rfl rfl (fun _ _ _ _ => rfl) (fun j hj => absurd hj (by omega))
          refine h σ2 ⟨fun a b j y => by rw [g1]; exact F1.1 a b j y, fun a b j y => by rw [g2 a b j (fun w => y (Or.inl w.1)), F1.2]⟩ (fun a ha => ?_)
          obtain ⟨c1, c2, c3⟩ := hz a ha
          rw [g1]
          by_cases e : a = t
          · subst e
            refine ⟨by rw [← hσ, wF_ne _ _ (by omega), wv_same]; exact upd_same.symm, by rw [← hσ, wv_same]; show _ = nI (if a = a then _ else _); rw [if_pos rfl], fun j hj => by rw [g3 j hj]; show _ = (if a = a then _ else _); rw [if_pos rfl]⟩
          · refine ⟨by rw [← hσ, wF_ne _ _ (by omega), wv_ne e]; exact c1.trans (upd_ne e).symm, by rw [← hσ, wv_ne e, wF_ne _ _ (by omega)]; show _ = nI (if a = t then _ else _); rw [if_neg e]; exact c2, fun j hj => by rw [g2 _ _ _ (fun w => by omega), F1.2]; show _ = (if a = t then _ else _); rw [if_neg e]; exact c3 j hj⟩
        · have hc := h1.trans ((if_neg e1).trans ((if_pos y).trans (if_pos (i_lt_of c2))))
          have z := tp_c (Z := Z) hc (by decide)
          rw [z.1, z.2] at h
          exact qm_go 2 (fun P hP => h σ FrL.rf hz)
      · refine qm_go 1 (fun P hP => And.intro (fun _ => hP (bad (fun w => y ?_))) (fun z => absurd rfl z))
        obtain ⟨p, hp, e⟩ := w.1
        rw [e]
        exact ⟨fun q => nI_pos (n := p) (by omega) (by rw [i_lt] at q ⊢; have z1 : (-1 : Int32).toInt = -1 := rfl; have z0 : (0 : Int32).toInt = 0 := rfl; omega), nI_nlt (a := 4) (by omega) (by omega)⟩
  · refine qm_go 1 (fun P hP => And.intro (fun z => absurd rfl z) (fun _ => hP ?_))
    have hc : tpC t9 s9 n9 = 1 := if_neg ct
    have z := tp_c (Z := Z) hc (by decide)
    rw [z.1, z.2] at h
    exact qm_go 2 (fun P hP => h σ FrL.rf hz)
