def judF (w9 : Nat → Int64) (z9 : Nat) (f : Nat → Int32) (i9 : Int32) : Nat → Nat → Int32
  | 0, _ => -5
  | k + 1, p => if inP i9 z9 ∧ tN i9 + p < z9 then (if w9 (tN i9 + p) = (f p).toInt64 then judF w9 z9 f i9 k (p + 1) else nI p) else 100 + nI p
def judV (A : AS) (D : DD) (Z : TP9) (t9 i9 : Int32) : Int32 := if inP t9 6 then (if Z.1 (tN t9) = -1 ∨ Z.1 (tN t9) = 2 then judF (Z.2.2 (tN t9)) (Z.2.1 (tN t9)) D.1 i9 A.1 0 else -12) else -1
theorem c_jud_l {d : Nat} {σ : qm_Sg} {Q : qm_Po} {A : AS} {D : DD} {Z : TP9} {t : Nat} {i9 : Int32} (ht : t < 6) (hz : cTap σ Z) (hw : wfTap Z) (hs : cS 0 σ A) (hv : cV 0 σ D) : ∀ (k p : Nat), p + k = A.1 → Q σ (some (vI (judF (Z.2.2 t) (Z.2.1 t) D.1 i9 k p))) → qm_Wp (qm_M d) qk_85 Q 22 [some (vR 0 0), some (vI (nI t)), some (vI i9), some (vI (nI p))] [] σ
  | 0, p, e, h => by
    have h6 := hs.le
    refine qm_go 5 (fun P hP => And.intro (fun _ => hP ?_) (fun z => absurd (by rw [hs.n]; exact nI_le (by omega) (by omega)) z))
    exact qm_go 2 (fun P hP => h)
  | k + 1, p, e, h => by
    have h6 := hs.le
    obtain ⟨a1, a2, a3⟩ := hz t ht
    obtain ⟨b1, b2, b3⟩ := hw t ht
    unfold judF at h
    refine qm_go 5 (fun P hP => And.intro (fun z => absurd (by rw [← hs.n]; exact z) (nI_ge (show p < A.1 by omega) (by omega))) (fun _ => hP ?_))
    have bad : ¬ (inP i9 (Z.2.1 t) ∧ tN i9 + p < Z.2.1 t) → qm_Wp (qm_M d) qk_85 Q 43 [some (vR 0 0), some (vI (nI t)), some (vI i9), some (vI (nI p))] [] σ := fun y => by
      rw [if_neg y] at h
      exact qm_go 4 (fun P hP => h)
    refine qm_go 2 (fun P hP => And.intro (fun c => hP (bad (fun y => (inR_ge (by omega) y.1).1 c))) (fun c => hP ?_))
    refine qm_go 5 (fun P hP => Exists.intro (t) (And.intro (And.intro (rfl) (ht)) (hP ?_)))
    rw [a2]
    refine qm_go 1 (fun P hP => And.intro (fun c2 => hP (bad (fun y => (inR_ge (by omega) y.1).2 c2))) (fun c2 => hP ?_))
    have hi : inR i9 (Z.2.1 t) := inR_of (by omega) c c2
    obtain ⟨i, hi2, rfl⟩ := hi
    rw [tN_nI (by omega)] at h bad
    refine qm_go 7 (fun P hP => Exists.intro (t) (And.intro (And.intro (rfl) (ht)) (hP ?_)))
    rw [a2, nI_add]
    by_cases e1 : i + p < Z.2.1 t
    · refine qm_go 1 (fun P hP => And.intro (fun _ => hP ?_) (fun z => absurd (nI_lt e1 (by omega)) z))
      have y : inP (nI i) (Z.2.1 t) ∧ i + p < Z.2.1 t := ⟨⟨i, hi2, rfl⟩, e1⟩
      rw [if_pos y] at h
      refine qm_go 4 (fun P hP => Exists.intro (t) (And.intro (And.intro (rfl) (ht)) (hP ?_)))
      refine qm_go 4 (fun P hP => Exists.intro (i + p) (And.intro (And.intro (nI_add i p) (show i + p < 60 by omega)) (hP ?_)))
      rw [a3 (i + p) (by omega)]
      refine qm_go 5 (fun P hP => Exists.intro (p) (And.intro (And.intro (rfl) (show p < 6 by omega)) (hP ?_)))
      rw [hv.o p (by omega)]
      by_cases e2 : Z.2.2 t (i + p) = (D.1 p).toInt64
      · rw [if_pos e2] at h
        refine qm_go 3 (fun P hP => And.intro (fun _ => hP ?_) (fun z => absurd ((lg_cmp_eq _ _).mpr e2) z))
        refine qm_go 2 (fun P hP => hP ?_)
        rw [nI_1]
        exact c_jud_l ht hz hw hs hv k (p + 1) (by omega) h
      · rw [if_neg e2] at h
        refine qm_go 3 (fun P hP => And.intro (fun z => absurd ((lg_cmp_eq _ _).mp z) e2) (fun _ => hP ?_))
        exact qm_go 2 (fun P hP => h)
    · refine qm_go 1 (fun P hP => And.intro (fun z => absurd z (nI_nlt (by omega) (by omega))) (fun _ => hP (bad (fun y => e1 y.2))))
theorem m_jud_l {d : Nat} {σ : qm_Sg} {Q : qm_Po} {A : AS} {D : DD} {Z : TP9} {t : Nat} {i9 : Int32} (ht : t < 6) (hz : mTap σ Z) (hw : wfTap Z) (hs : mS σ A) (hv : mV σ D) : ∀ (k p : Nat), p + k = A.1 → Q σ (some (vI (judF (Z.2.2 t) (Z.2.1 t) D.1 i9 k p))) → qm_Wp (qm_M d) qk_176 Q 21 [some (vR 50 0), some (vI (nI t)), some (vI i9), some (vI (nI p))] [] σ
  | 0, p, e, h => by
    have h6 := hs.le
    refine qm_go 4 (fun P hP => And.intro (fun _ => hP ?_) (fun z => absurd (by rw [hs.n]; exact nI_le (by omega) (by omega)) z))
    exact qm_go 2 (fun P hP => h)
  | k + 1, p, e, h => by
    have h6 := hs.le
    obtain ⟨a1, a2, a3⟩ := hz t ht
    obtain ⟨b1, b2, b3⟩ := hw t ht
    have sn := so_neg hw ht
    unfold judF at h
    refine qm_go 4 (fun P hP => And.intro (fun z => absurd (by rw [← hs.n]; exact z) (nI_ge (show p < A.1 by omega) (by omega))) (fun _ => hP ?_))
    have bad : ¬ (inP i9 (Z.2.1 t) ∧ tN i9 + p < Z.2.1 t) → qm_Wp (qm_M d) qk_176 Q 42 [some (vR 50 0), some (vI (nI t)), some (vI i9), some (vI (nI p))] [] σ := fun y => by
      rw [if_neg y] at h
      exact qm_go 4 (fun P hP => h)
    refine qm_go 4 (fun P hP => Exists.intro (t) (And.intro (And.intro (rfl) (ht)) (hP ?_)))
    rw [a1]
    refine qm_go 1 (fun P hP => And.intro (fun c => hP (bad (fun y => by have y2 : inR i9 (Z.2.1 t) := y.1; rw [b2 (sn.mp c)] at y2; exact inR_0 y2))) (fun c0 => hP ?_))
    refine qm_go 2 (fun P hP => And.intro (fun c => hP (bad (fun y => (inR_ge (by omega) y.1).1 c))) (fun c => hP ?_))
    refine qm_go 5 (fun P hP => Exists.intro (t) (And.intro (And.intro (rfl) (ht)) (hP ?_)))
    rw [a2]
    obtain ⟨i, hi0, rfl⟩ := nI_of c
    rw [tN_nI hi0] at h bad
    have ei : (nI (Z.2.1 t) - nI p - 1 : Int32).toInt = (Z.2.1 t : Int) - p - 1 := by
      by_cases e0 : p + 1 ≤ Z.2.1 t
      · rw [pk_sub (by omega), show (1 : Int32) = nI 1 from rfl, pk_sub (by omega), nI_toInt (by omega)]
        omega
      · have q : (nI (Z.2.1 t) - nI p : Int32).toInt = (Z.2.1 t : Int) - p := pk_sub_toInt (by omega) (by omega)
        rw [Int32.toInt_sub, q]
        show Int.bmod ((Z.2.1 t : Int) - p - 1) (2 ^ 32) = _
        rw [Int.bmod_eq_of_le (by omega) (by omega)]
    by_cases e1 : i + p < Z.2.1 t
    · refine qm_go 5 (fun P hP => And.intro (fun _ => hP ?_) (fun z => absurd (by rw [i_le, ei, nI_toInt hi0]; omega) z))
      have y : inP (nI i) (Z.2.1 t) ∧ i + p < Z.2.1 t := ⟨⟨i, by omega, rfl⟩, e1⟩
      rw [if_pos y] at h
      refine qm_go 10 (fun P hP => Exists.intro (60 * t + (i + p)) (And.intro (And.intro (by rw [ix60, nI_add, Nat.add_assoc]) (show 60 * t + (i + p) < 360 by omega)) (hP ?_)))
      rw [a3 (i + p) (by omega)]
      refine qm_go 4 (fun P hP => Exists.intro (p) (And.intro (And.intro (rfl) (show p < 6 by omega)) (hP ?_)))
      rw [hv.o p (by omega)]
      by_cases e2 : Z.2.2 t (i + p) = (D.1 p).toInt64
      · rw [if_pos e2] at h
        refine qm_go 3 (fun P hP => And.intro (fun _ => hP ?_) (fun z => absurd ((lg_cmp_eq _ _).mpr e2) z))
        refine qm_go 2 (fun P hP => hP ?_)
        rw [nI_1]
        exact m_jud_l ht hz hw hs hv k (p + 1) (by omega) h
      · rw [if_neg e2] at h
        refine qm_go 3 (fun P hP => And.intro (fun z => absurd ((lg_cmp_eq _ _).mp z) e2) (fun _ => hP ?_))
        exact qm_go 2 (fun P hP => h)
    · exact qm_go 5 (fun P hP => And.intro (fun z => absurd z (by rw [i_le, ei, nI_toInt hi0]; omega)) (fun _ => hP (bad (fun y => e1 y.2))))
theorem c_judge {d : Nat} (hd : 2 ≤ d) {σ : qm_Sg} {Q : qm_Po} {A : AS} {D : DD} {Z : TP9} {t9 i9 : Int32} (hz : cTap σ Z) (hw : wfTap Z) (hs : cS 0 σ A) (hv : cV 0 σ D) (h : Q σ (some (vI (judV A D Z t9 i9)))) : qm_M d 85 [vR 0 0, vI t9, vI i9] σ Q := by
  obtain ⟨d, rfl, hd⟩ := qm_dn hd
  show qm_Wp (qm_M d) qk_85 Q 0 [some (vR 0 0), some (vI t9), some (vI i9), none] [] σ
  unfold judV at h
  refine qm_go 3 (fun P hP => c_isWithin (n := 6) (by omega) (by decide) (fun ct => hP ?_) (fun ct => hP ?_))
  · refine qm_go 1 (fun P hP => And.intro (fun _ => hP ?_) (fun z => absurd z (by decide)))
    rw [if_pos (show inP t9 6 from ct)] at h
    obtain ⟨t, ht, rfl⟩ := ct
    obtain ⟨a1, a2, a3⟩ := hz t ht
    rw [tN_nI (by omega)] at h
    have good : (Z.1 t = -1 ∨ Z.1 t = 2) → qm_Wp (qm_M d) qk_85 Q 20 [some (vR 0 0), some (vI (nI t)), some (vI i9), none] [] σ := fun y => by
      rw [if_pos y] at h
      refine qm_go 2 (fun P hP => hP ?_)
      exact c_jud_l ht hz hw hs hv A.1 0 (by omega) h
    refine qm_go 4 (fun P hP => Exists.intro (t) (And.intro (And.intro (rfl) (ht)) (hP ?_)))
    rw [a1]
    refine qm_go 2 (fun P hP => And.intro (fun c => hP (good (Or.inl c))) (fun c => hP ?_))
    refine qm_go 4 (fun P hP => Exists.intro (t) (And.intro (And.intro (rfl) (ht)) (hP ?_)))
    rw [a1]
    refine qm_go 2 (fun P hP => And.intro (fun c2 => hP (good (Or.inr c2))) (fun c2 => hP ?_))
    rw [if_neg (fun y => y.elim c c2)] at h
    exact qm_go 2 (fun P hP => h)
  · refine qm_go 1 (fun P hP => And.intro (fun z => absurd rfl z) (fun _ => hP ?_))
    rw [if_neg (show ¬ inP t9 6 from ct)] at h
    exact qm_go 2 (fun P hP => h)
theorem m_judge {d : Nat} (hd : 3 ≤ d) {σ : qm_Sg} {Q : qm_Po} {A : AS} {D : DD} {Z : TP9} {t9 i9 : Int32} (hz : mTap σ Z) (hw : wfTap Z) (hs : mS σ A) (hv : mV σ D) (h : Q σ (some (vI (judV A D Z t9 i9)))) : qm_M d 176 [vR 50 0, vI t9, vI i9] σ Q := by
  obtain ⟨d, rfl, hd⟩ := qm_dn hd
  show qm_Wp (qm_M d) qk_176 Q 0 [some (vR 50 0), some (vI t9), some (vI i9), none] [] σ
  unfold judV at h
  refine qm_go 3 (fun P hP => m_isTape (by omega) (fun ct => hP ?_) (fun ct => hP ?_))
  · refine qm_go 1 (fun P hP => And.intro (fun _ => hP ?_) (fun z => absurd z (by decide)))
    rw [if_pos (show inP t9 6 from ct)] at h
    obtain ⟨t, ht, rfl⟩ := ct
    obtain ⟨a1, a2, a3⟩ := hz t ht
    have sn := so_neg hw ht
    rw [tN_nI (by omega)] at h
    have good : (Z.1 t = -1 ∨ Z.1 t = 2) → qm_Wp (qm_M d) qk_176 Q 19 [some (vR 50 0), some (vI (nI t)), some (vI i9), none] [] σ := fun y => by
      rw [if_pos y] at h
      refine qm_go 2 (fun P hP => hP ?_)
      exact m_jud_l ht hz hw hs hv A.1 0 (by omega) h
    refine qm_go 4 (fun P hP => Exists.intro (t) (And.intro (And.intro (rfl) (ht)) (hP ?_)))
    rw [a1]
    refine qm_go 1 (fun P hP => And.intro (fun c => hP (good (Or.inl (sn.mp c)))) (fun c => hP ?_))
    refine qm_go 4 (fun P hP => Exists.intro (t) (And.intro (And.intro (rfl) (ht)) (hP ?_)))
    rw [a1]
    refine qm_go 2 (fun P hP => And.intro (fun c2 => hP (good (Or.inr c2))) (fun c2 => hP ?_))
    rw [if_neg (fun y => y.elim (fun y => c (sn.mpr y)) c2)] at h
    exact qm_go 2 (fun P hP => h)
  · refine qm_go 1 (fun P hP => And.intro (fun z => absurd rfl z) (fun _ => hP ?_))
    rw [if_neg (show ¬ inP t9 6 from ct)] at h
    exact qm_go 2 (fun P hP => h)
