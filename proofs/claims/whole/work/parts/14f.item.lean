abbrev TP9 : Type := (Nat → Int32) × (Nat → Nat) × (Nat → Nat → Int64)
def cTap (σ : qm_Sg) (Z : TP9) : Prop := ∀ t, t < 6 → σ.1 8 0 t = Z.1 t ∧ σ.1 9 0 t = nI (Z.2.1 t) ∧ ∀ j, j < 60 → σ.2 7 t j = Z.2.2 t j
def mTap (σ : qm_Sg) (Z : TP9) : Prop := ∀ t, t < 6 → σ.1 88 0 t = Z.1 t ∧ σ.1 89 0 t = nI (Z.2.1 t) ∧ ∀ j, j < 60 → σ.2 90 0 (60 * t + j) = Z.2.2 t j
def wfTap (Z : TP9) : Prop := ∀ t, t < 6 → Z.2.1 t ≤ 60 ∧ (Z.1 t = -1 → Z.2.1 t = 0) ∧ (Z.1 t = -1 ∨ inR (Z.1 t) 5)
theorem so_neg {Z : TP9} (h : wfTap Z) {t : Nat} (ht : t < 6) : Z.1 t < 0 ↔ Z.1 t = -1 := by
  obtain ⟨h1, h2, h3⟩ := h t ht
  constructor
  · intro q
    rcases h3 with h3 | h3
    · exact h3
    · exact absurd q (inR_ge (by decide) h3).1
  · intro q
    rw [q]
    decide
theorem inR_0 {x : Int32} : ¬ inR x 0 := fun ⟨p, hp, _⟩ => by omega
def rdV (Z : TP9) (t9 i9 : Int32) : Int64 := if inP t9 6 ∧ inP i9 (Z.2.1 (tN t9)) then Z.2.2 (tN t9) (tN i9) else -9223372036854775808
theorem ix60 {t i : Nat} : (60 : Int32) * nI t + nI i = nI (60 * t + i) := by rw [show (60 : Int32) = nI 60 from rfl, pk_mul, nI_add]
theorem c_read {d : Nat} (hd : 2 ≤ d) {σ : qm_Sg} {Q : qm_Po} {Z : TP9} {t9 i9 : Int32} (hz : cTap σ Z) (hw : wfTap Z) (h : Q σ (some (vL (rdV Z t9 i9)))) : qm_M d 94 [vR 0 0, vI t9, vI i9] σ Q := by
  obtain ⟨d, rfl, hd⟩ := qm_dn hd
  show qm_Wp (qm_M d) qk_94 Q 0 [some (vR 0 0), some (vI t9), some (vI i9)] [] σ
  unfold rdV at h
  refine qm_go 3 (fun P hP => c_isWithin (n := 6) (by omega) (by decide) (fun ct => hP ?_) (fun ct => hP ?_))
  · refine qm_go 1 (fun P hP => And.intro (fun z => absurd z (by decide)) (fun _ => hP ?_))
    obtain ⟨t, ht, rfl⟩ := ct
    obtain ⟨a1, a2, a3⟩ := hz t ht
    obtain ⟨b1, b2, b3⟩ := hw t ht
    rw [tN_nI (by omega)] at h
    refine qm_go 5 (fun P hP => Exists.intro (t) (And.intro (And.intro (rfl) (ht)) (hP ?_)))
    rw [a2]
    refine qm_go 1 (fun P hP => c_isWithin (by omega) (by omega) (fun ci => hP ?_) (fun ci => hP ?_))
    · refine qm_go 1 (fun P hP => And.intro (fun _ => hP ?_) (fun z => absurd z (by decide)))
      have hi : inP (nI t) 6 ∧ inP i9 (Z.2.1 t) := ⟨⟨t, ht, rfl⟩, ci⟩
      rw [if_pos hi] at h
      obtain ⟨i, hi2, rfl⟩ := ci
      rw [tN_nI (by omega)] at h
      refine qm_go 4 (fun P hP => Exists.intro (t) (And.intro (And.intro (rfl) (ht)) (hP ?_)))
      refine qm_go 2 (fun P hP => Exists.intro (i) (And.intro (And.intro (rfl) (show i < 60 by omega)) (hP ?_)))
      rw [a3 i (by omega)]
      exact qm_go 1 (fun P hP => h)
    · refine qm_go 1 (fun P hP => And.intro (fun z => absurd rfl z) (fun _ => hP ?_))
      have hi : ¬ (inP (nI t) 6 ∧ inP i9 (Z.2.1 t)) := fun y => ci y.2
      rw [if_neg hi] at h
      exact qm_go 2 (fun P hP => h)
  · refine qm_go 1 (fun P hP => And.intro (fun _ => hP ?_) (fun z => absurd rfl z))
    have hi : ¬ (inP t9 6 ∧ inP i9 (Z.2.1 (tN t9))) := fun y => ct y.1
    rw [if_neg hi] at h
    exact qm_go 2 (fun P hP => h)
theorem m_read {d : Nat} (hd : 3 ≤ d) {σ : qm_Sg} {Q : qm_Po} {Z : TP9} {t9 i9 : Int32} (hz : mTap σ Z) (hw : wfTap Z) (h : Q σ (some (vL (rdV Z t9 i9)))) : qm_M d 195 [vR 50 0, vI t9, vI i9] σ Q := by
  obtain ⟨d, rfl, hd⟩ := qm_dn hd
  show qm_Wp (qm_M d) qk_195 Q 0 [some (vR 50 0), some (vI t9), some (vI i9)] [] σ
  unfold rdV at h
  refine qm_go 3 (fun P hP => m_isTape (by omega) (fun ct => hP ?_) (fun ct => hP ?_))
  · refine qm_go 1 (fun P hP => And.intro (fun z => absurd z (by decide)) (fun _ => hP ?_))
    obtain ⟨t, ht, rfl⟩ := ct
    obtain ⟨a1, a2, a3⟩ := hz t ht
    obtain ⟨b1, b2, b3⟩ := hw t ht
    have sn := so_neg hw ht
    rw [tN_nI (by omega)] at h
    refine qm_go 4 (fun P hP => Exists.intro (t) (And.intro (And.intro (rfl) (ht)) (hP ?_)))
    rw [a1]
    refine qm_go 1 (fun P hP => And.intro (fun c => hP ?_) (fun c => hP ?_))
    · have hi : ¬ (inP (nI t) 6 ∧ inP i9 (Z.2.1 t)) := fun y => by
        have y2 : inR i9 (Z.2.1 t) := y.2
        rw [b2 (sn.mp c)] at y2
        exact inR_0 y2
      rw [if_neg hi] at h
      exact qm_go 3 (fun P hP => h)
    · refine qm_go 7 (fun P hP => Exists.intro (t) (And.intro (And.intro (rfl) (ht)) (hP ?_)))
      rw [a2]
      refine qm_go 3 (fun P hP => m_inR (Z.2.1 t) (by omega) rfl (hd := by omega) (fun ci => hP ?_) (fun ci => hP ?_))
      · refine qm_go 1 (fun P hP => And.intro (fun _ => hP ?_) (fun z => absurd z (by decide)))
        have hi : inP (nI t) 6 ∧ inP i9 (Z.2.1 t) := ⟨⟨t, ht, rfl⟩, ci⟩
        rw [if_pos hi] at h
        obtain ⟨i, hi2, rfl⟩ := ci
        rw [tN_nI (by omega)] at h
        refine qm_go 8 (fun P hP => Exists.intro (60 * t + i) (And.intro (And.intro (ix60) (show 60 * t + i < 360 by omega)) (hP ?_)))
        rw [a3 i (by omega)]
        exact qm_go 1 (fun P hP => h)
      · refine qm_go 1 (fun P hP => And.intro (fun z => absurd rfl z) (fun _ => hP ?_))
        have hi : ¬ (inP (nI t) 6 ∧ inP i9 (Z.2.1 t)) := fun y => ci y.2
        rw [if_neg hi] at h
        exact qm_go 3 (fun P hP => h)
  · refine qm_go 1 (fun P hP => And.intro (fun _ => hP ?_) (fun z => absurd rfl z))
    have hi : ¬ (inP t9 6 ∧ inP i9 (Z.2.1 (tN t9))) := fun y => ct y.1
    rw [if_neg hi] at h
    exact qm_go 3 (fun P hP => h)
def nrw (s9 : Int32) (z9 : Int64) : Int64 := if s9 = 0 then z9.toInt32.toInt8.toInt32.toInt64 else if s9 = 1 then z9.toInt32.toInt16.toInt32.toInt64 else if s9 = 2 then z9.toInt32.toInt64 else if s9 = 4 then (if z9 = 0 then 0 else 1) else z9
theorem m_nrw {d : Nat} (hd : 1 ≤ d) {σ : qm_Sg} {Q : qm_Po} {s9 : Int32} {z9 : Int64} (h : Q σ (some (vL (nrw s9 z9)))) : qm_M d 193 [vR 50 0, vI s9, vL z9] σ Q := by
  obtain ⟨d, rfl, hd⟩ := qm_dn hd
  show qm_Wp (qm_M d) qk_193 Q 0 [some (vR 50 0), some (vI s9), some (vL z9), none] [] σ
  unfold nrw at h
  refine qm_go 2 (fun P hP => And.intro (fun c => hP ?_) (fun c => hP ?_))
  · rw [if_neg c] at h
    refine qm_go 3 (fun P hP => And.intro (fun c2 => hP ?_) (fun c2 => hP ?_))
    · rw [if_neg c2] at h
      refine qm_go 3 (fun P hP => And.intro (fun c3 => hP ?_) (fun c3 => hP ?_))
      · rw [if_neg c3] at h
        refine qm_go 3 (fun P hP => And.intro (fun c4 => hP ?_) (fun c4 => hP ?_))
        · rw [if_neg c4] at h
          exact qm_go 2 (fun P hP => h)
        · rw [if_pos c4] at h
          refine qm_go 4 (fun P hP => And.intro (fun c5 => hP ?_) (fun c5 => hP ?_))
          · rw [if_pos (show z9 = 0 from (lg_cmp_eq _ _).mp c5)] at h
            exact qm_go 3 (fun P hP => h)
          · rw [if_neg (show ¬ z9 = 0 from fun y => c5 ((lg_cmp_eq _ _).mpr y))] at h
            exact qm_go 3 (fun P hP => h)
      · rw [if_pos c3] at h
        exact qm_go 5 (fun P hP => h)
    · rw [if_pos c2] at h
      exact qm_go 6 (fun P hP => h)
  · rw [if_pos c] at h
    exact qm_go 6 (fun P hP => h)
theorem c_nrw {d : Nat} (hd : 1 ≤ d) {σ : qm_Sg} {Q : qm_Po} {s9 : Int32} {z9 : Int64} (h : Q σ (some (vL (nrw s9 z9)))) : qm_M d 100 [vI s9, vL z9] σ Q := by
  obtain ⟨d, rfl, hd⟩ := qm_dn hd
  show qm_Wp (qm_M d) qk_100 Q 0 [some (vI s9), some (vL z9), none] [] σ
  unfold nrw at h
  refine qm_go 2 (fun P hP => And.intro (fun c0 => hP ?_) (fun n0 => And.intro (fun c1 => hP ?_) (fun n1 => And.intro (fun c2 => hP ?_) (fun n2 => And.intro (fun c3 => hP ?_) (fun n3 => And.intro (fun c4 => hP ?_) (fun n4 => hP ?_))))))
  · rw [if_pos c0] at h
    exact qm_go 5 (fun P hP => h)
  · rw [if_neg n0, if_pos c1] at h
    exact qm_go 5 (fun P hP => h)
  · rw [if_neg n0, if_neg n1, if_pos c2] at h
    exact qm_go 4 (fun P hP => h)
  · have n4 : ¬ s9 = 4 := by rw [c3]; decide
    rw [if_neg n0, if_neg n1, if_neg n2, if_neg n4] at h
    exact qm_go 2 (fun P hP => h)
  · rw [if_neg n0, if_neg n1, if_neg n2, if_pos c4] at h
    refine qm_go 4 (fun P hP => And.intro (fun c5 => hP ?_) (fun c5 => hP ?_))
    · rw [if_pos (show z9 = 0 from (lg_cmp_eq _ _).mp c5)] at h
      exact qm_go 2 (fun P hP => h)
    · rw [if_neg (show ¬ z9 = 0 from fun y => c5 ((lg_cmp_eq _ _).mpr y))] at h
      exact qm_go 3 (fun P hP => h)
  · rw [if_neg n0, if_neg n1, if_neg n2, if_neg n4] at h
    exact qm_go 2 (fun P hP => h)
def itC (Z : TP9) (t9 i9 : Int32) : Nat := if inP t9 6 then (if Z.1 (tN t9) = -1 then 11 else if inP i9 (Z.2.1 (tN t9)) then 0 else 13) else 1
def tcV (c : Nat) (x : Int32) : Int32 := if c = 0 then x else -nI c
def itZ (Z : TP9) (t i : Nat) (y : Int64) : TP9 := (Z.1, Z.2.1, fun a b => if a = t ∧ b = i then y else Z.2.2 a b)
def itT (Z : TP9) (t9 i9 : Int32) (z9 : Int64) : TP9 := if itC Z t9 i9 = 0 then itZ Z (tN t9) (tN i9) (nrw (Z.1 (tN t9)) z9) else Z
theorem it_c {Z : TP9} {t9 i9 : Int32} {z9 : Int64} {c : Nat} (h : itC Z t9 i9 = c) (h0 : c ≠ 0) : tcV (itC Z t9 i9) 1 = -nI c ∧ itT Z t9 i9 z9 = Z := by
  unfold tcV itT
  rw [h, if_neg h0, if_neg h0]
  exact ⟨rfl, rfl⟩
theorem it_0 {Z : TP9} {t9 i9 : Int32} {z9 : Int64} (h : itC Z t9 i9 = 0) : tcV (itC Z t9 i9) 1 = 1 ∧ itT Z t9 i9 z9 = itZ Z (tN t9) (tN i9) (nrw (Z.1 (tN t9)) z9) := by
  unfold tcV itT
  rw [h, if_pos rfl, if_pos rfl]
  exact ⟨rfl, rfl⟩
def FrL (T : Nat → Nat → Nat → Prop) (U : Nat → Prop) (σ σ' : qm_Sg) : Prop := (∀ t i j : Nat, ¬ T t i j → σ'.1 t i j = σ.1 t i j) ∧ ∀ t i j : Nat, ¬ U t → σ'.2 t i j = σ.2 t i j
theorem FrL.rf {T : Nat → Nat → Nat → Prop} {U : Nat → Prop} {σ : qm_Sg} : FrL T U σ σ := ⟨fun _ _ _ _ => rfl, fun _ _ _ _ => rfl⟩
theorem FrL.tr {T : Nat → Nat → Nat → Prop} {U : Nat → Prop} {σ σ1 σ2 : qm_Sg} (h1 : FrL T U σ σ1) (h2 : FrL T U σ1 σ2) : FrL T U σ σ2 := ⟨fun t i j h => (h2.1 t i j h).trans (h1.1 t i j h), fun t i j h => (h2.2 t i j h).trans (h1.2 t i j h)⟩
theorem FrL.of {T : Nat → Nat → Nat → Prop} {U : Nat → Prop} {σ σ' : qm_Sg} (h : Fr T σ σ') : FrL T U σ σ' := ⟨h.1, fun _ _ _ _ => by rw [h.2]⟩
theorem FrL.w {T : Nat → Nat → Nat → Prop} {U : Nat → Prop} {σ : qm_Sg} {t i : Nat} {f : Nat → Int64} (hU : U t) : FrL T U σ (wG σ t i f) := ⟨fun _ _ _ _ => rfl, fun a b j h => by rw [wG_ne _ _ (fun q => h (by rw [q.1]; exact hU))]⟩
def tNo (_ _ _ : Nat) : Prop := False
theorem uL_same {f : Nat → Int64} {k : Nat} {x : Int64} : vp_updL f k x k = x := pk_uLs
theorem uL_ne {f : Nat → Int64} {k j : Nat} {x : Int64} (h : j ≠ k) : vp_updL f k x j = f j := pk_uLn h
theorem itZ_at {Z : TP9} {t i : Nat} {y : Int64} : (itZ Z t i y).2.2 t i = y := if_pos ⟨rfl, rfl⟩
theorem itZ_ne {Z : TP9} {t i a b : Nat} {y : Int64} (h : ¬ (a = t ∧ b = i)) : (itZ Z t i y).2.2 a b = Z.2.2 a b := if_neg h
theorem c_item {d : Nat} (hd : 2 ≤ d) {σ : qm_Sg} {Q : qm_Po} {Z : TP9} {t9 i9 : Int32} {z9 : Int64} (hz : cTap σ Z) (hw : wfTap Z) (h : ∀ σ', FrL tNo (fun t => t = 7) σ σ' → cTap σ' (itT Z t9 i9 z9) → Q σ' (some (vI (tcV (itC Z t9 i9) 1)))) : qm_M d 93 [vR 0 0, vI t9, vI i9, vL z9] σ Q := by
  obtain ⟨d, rfl, hd⟩ := qm_dn hd
  show qm_Wp (qm_M d) qk_93 Q 0 [some (vR 0 0), some (vI t9), some (vI i9), some (vL z9), none] [] σ
  refine qm_go 3 (fun P hP => c_isWithin (n := 6) (by omega) (by decide) (fun ct => hP ?_) (fun ct => hP ?_))
  · refine qm_go 1 (fun P hP => And.intro (fun _ => hP ?_) (fun z => absurd z (by decide)))
    have h1 : itC Z t9 i9 = (if Z.1 (tN t9) = -1 then 11 else if inP i9 (Z.2.1 (tN t9)) then 0 else 13) := if_pos ct
    obtain ⟨t, ht, rfl⟩ := ct
    obtain ⟨a1, a2, a3⟩ := hz t ht
    obtain ⟨b1, b2, b3⟩ := hw t ht
    rw [tN_nI (by omega)] at h1
    refine qm_go 4 (fun P hP => Exists.intro (t) (And.intro (And.intro (rfl) (ht)) (hP ?_)))
    rw [a1]
    refine qm_go 2 (fun P hP => And.intro (fun c => hP ?_) (fun c => hP ?_))
    · refine qm_go 5 (fun P hP => Exists.intro (t) (And.intro (And.intro (rfl) (ht)) (hP ?_)))
      rw [a2]
      refine qm_go 1 (fun P hP => c_isWithin (by omega) (by omega) (fun ci => hP ?_) (fun ci => hP ?_))
      · refine qm_go 1 (fun P hP => And.intro (fun _ => hP ?_) (fun z => absurd z (by decide)))
        have z := it_0 (z9 := z9) (h1.trans ((if_neg c).trans (if_pos ci)))
        rw [z.1, z.2] at h
        obtain ⟨i, hi, rfl⟩ := ci
        rw [tN_nI (by omega), tN_nI (by omega)] at h
        refine qm_go 4 (fun P hP => Exists.intro (t) (And.intro (And.intro (rfl) (ht)) (hP ?_)))
        refine qm_go 5 (fun P hP => Exists.intro (t) (And.intro (And.intro (rfl) (ht)) (hP ?_)))
        rw [a1]
        refine qm_go 2 (fun P hP => c_nrw (by omega) (hP ?_))
        refine qm_go 1 (fun P hP => Exists.intro (i) (And.intro (And.intro (rfl) (show i < 60 by omega)) (hP ?_)))
        refine qm_go 2 (fun P hP => h _ (FrL.w rfl) (fun a ha => ?_))
        obtain ⟨c1, c2, c3⟩ := hz a ha
        refine ⟨c1, c2, fun j hj => ?_⟩
        by_cases e : a = t
        · subst e
          rw [wG_same]
          by_cases e2 : j = i
          · subst e2
            rw [uL_same, itZ_at]
          · rw [uL_ne e2, itZ_ne (fun y => e2 y.2)]
            exact c3 j hj
        · rw [wG_ne _ _ (fun y => e y.2), itZ_ne (fun y => e y.1)]
          exact c3 j hj
      · refine qm_go 1 (fun P hP => And.intro (fun z => absurd rfl z) (fun _ => hP ?_))
        have hc := h1.trans ((if_neg c).trans (if_neg ci))
        have z := it_c (z9 := z9) hc (by decide)
        rw [z.1, z.2] at h
        exact qm_go 2 (fun P hP => h σ FrL.rf hz)
    · have hc := h1.trans (if_pos c)
      have z := it_c (z9 := z9) hc (by decide)
      rw [z.1, z.2] at h
      exact qm_go 2 (fun P hP => h σ FrL.rf hz)
  · refine qm_go 1 (fun P hP => And.intro (fun z => absurd rfl z) (fun _ => hP ?_))
    have hc : itC Z t9 i9 = 1 := if_neg ct
    have z := it_c (z9 := z9) hc (by decide)
    rw [z.1, z.2] at h
    exact qm_go 2 (fun P hP => h σ FrL.rf hz)
theorem m_item {d : Nat} (hd : 3 ≤ d) {σ : qm_Sg} {Q : qm_Po} {Z : TP9} {t9 i9 : Int32} {z9 : Int64} (hz : mTap σ Z) (hw : wfTap Z) (h : ∀ σ', FrL tNo (fun t => t = 90 ∨ t = 91) σ σ' → mTap σ' (itT Z t9 i9 z9) → Q σ' (some (vI (tcV (itC Z t9 i9) 1)))) : qm_M d 194 [vR 50 0, vI t9, vI i9, vL z9] σ Q := by
  obtain ⟨d, rfl, hd⟩ := qm_dn hd
  show qm_Wp (qm_M d) qk_194 Q 0 [some (vR 50 0), some (vI t9), some (vI i9), some (vL z9), none] [] σ
  refine qm_go 3 (fun P hP => m_isTape (by omega) (fun ct => hP ?_) (fun ct => hP ?_))
  · refine qm_go 1 (fun P hP => And.intro (fun _ => hP ?_) (fun z => absurd z (by decide)))
    have h1 : itC Z t9 i9 = (if Z.1 (tN t9) = -1 then 11 else if inP i9 (Z.2.1 (tN t9)) then 0 else 13) := if_pos ct
    obtain ⟨t, ht, rfl⟩ := ct
    obtain ⟨a1, a2, a3⟩ := hz t ht
    obtain ⟨b1, b2, b3⟩ := hw t ht
    have sn := so_neg hw ht
    rw [tN_nI (by omega)] at h1
    refine qm_go 4 (fun P hP => Exists.intro (t) (And.intro (And.intro (rfl) (ht)) (hP ?_)))
    rw [a1]
    refine qm_go 1 (fun P hP => And.intro (fun c => hP ?_) (fun c => hP ?_))
    · have c : ¬ Z.1 t = -1 := fun y => i_nlt c (sn.mpr y)
      refine qm_go 7 (fun P hP => Exists.intro (t) (And.intro (And.intro (rfl) (ht)) (hP ?_)))
      rw [a2]
      refine qm_go 3 (fun P hP => m_inR (Z.2.1 t) (by omega) rfl (hd := by omega) (fun ci => hP ?_) (fun ci => hP ?_))
      · refine qm_go 1 (fun P hP => And.intro (fun _ => hP ?_) (fun z => absurd z (by decide)))
        have z := it_0 (z9 := z9) (h1.trans ((if_neg c).trans (if_pos ci)))
        rw [z.1, z.2] at h
        obtain ⟨i, hi, rfl⟩ := ci
        rw [tN_nI (by omega), tN_nI (by omega)] at h
        refine qm_go 12 (fun P hP => Exists.intro (t) (And.intro (And.intro (rfl) (ht)) (hP ?_)))
        rw [a1]
        refine qm_go 2 (fun P hP => m_nrw (by omega) (hP ?_))
        refine qm_go 1 (fun P hP => Exists.intro (60 * t + i) (And.intro (And.intro (ix60) (show 60 * t + i < 360 by omega)) (hP ?_)))
        refine qm_go 2 (fun P hP => h _ (FrL.w (Or.inl rfl)) (fun a ha => ?_))
        obtain ⟨c1, c2, c3⟩ := hz a ha
        refine ⟨c1, c2, fun j hj => ?_⟩
        rw [wG_same]
        by_cases e2 : a = t ∧ j = i
        · rw [e2.1, e2.2, uL_same, itZ_at]
        · rw [uL_ne (by omega), itZ_ne e2]
          exact c3 j hj
      · refine qm_go 1 (fun P hP => And.intro (fun z => absurd rfl z) (fun _ => hP ?_))
        have hc := h1.trans ((if_neg c).trans (if_neg ci))
        have z := it_c (z9 := z9) hc (by decide)
        rw [z.1, z.2] at h
        exact qm_go 2 (fun P hP => h σ FrL.rf hz)
    · have hc := h1.trans (if_pos (sn.mp (i_lt_of c)))
      have z := it_c (z9 := z9) hc (by decide)
      rw [z.1, z.2] at h
      exact qm_go 2 (fun P hP => h σ FrL.rf hz)
  · refine qm_go 1 (fun P hP => And.intro (fun z => absurd rfl z) (fun _ => hP ?_))
    have hc : itC Z t9 i9 = 1 := if_neg ct
    have z := it_c (z9 := z9) hc (by decide)
    rw [z.1, z.2] at h
    exact qm_go 2 (fun P hP => h σ FrL.rf hz)
