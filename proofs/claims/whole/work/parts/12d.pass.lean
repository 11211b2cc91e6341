def passV (D : DD) (n : Int32) : Int32 := if inP n 61 then (if nI D.2.2.2 + n ≤ 9999 then nI (D.2.2.2 + tN n) else -3) else -2
def passD (A : AS) (D : DD) (n : Int32) : DD := if inP n 61 then (if nI D.2.2.2 + n ≤ 9999 then goA A (tN n) D else D) else D
theorem pass_1 {A : AS} {D : DD} {n : Int32} (h : ¬ inR n 61) : passV D n = -2 ∧ passD A D n = D := ⟨if_neg h, if_neg h⟩
theorem pass_2 {A : AS} {D : DD} {n : Int32} (h : inR n 61) (h2 : ¬ nI D.2.2.2 + n ≤ 9999) : passV D n = -3 ∧ passD A D n = D := ⟨(if_pos h).trans (if_neg h2), (if_pos h).trans (if_neg h2)⟩
theorem pass_3 {A : AS} {D : DD} {k : Nat} (h : k < 61) (h2 : nI D.2.2.2 + nI k ≤ 9999) : passV D (nI k) = nI (D.2.2.2 + k) ∧ passD A D (nI k) = goA A k D := by
  have hi : inP (nI k) 61 := ⟨k, h, rfl⟩
  unfold passV passD
  rw [if_pos hi, if_pos hi, if_pos h2, if_pos h2, tN_nI (show k < 2 ^ 31 by omega)]
  exact ⟨rfl, rfl⟩
theorem c_pass {d : Nat} (hd : 8 ≤ d) {σ : qm_Sg} {Q : qm_Po} {A : AS} {D : DD} {n : Int32} (hs : cS 0 σ A) (hv : cV 0 σ D) (hm : D.2.2.2 + 100 < 2 ^ 30) (h : ∀ σ', Fr (tC 0) σ σ' → cS 0 σ' A → cV 0 σ' (passD A D n) → Q σ' (some (vI (passV D n)))) : qm_M d 73 [vR 0 0, vI n] σ Q := by
  obtain ⟨d, rfl, hd⟩ := qm_dn hd
  show qm_Wp (qm_M d) qk_73 Q 0 [some (vR 0 0), some (vI n)] [] σ
  refine qm_go 2 (fun P hP => And.intro (fun c1 => hP ?_) (fun c1 => hP ?_))
  · refine qm_go 2 (fun P hP => ?_)
    have hz : ¬ inR n 61 := fun z => by
      have y := in_lt (n := 61) (by decide) z
      first
        | exact y.1 c1
        | exact y.2 (i_lt_of c4)
    have z := pass_1 (A := A) (D := D) hz
    rw [z.1, z.2] at h
    exact h σ Fr.rf hs hv
  · refine qm_go 3 (fun P hP => And.intro (fun c4 => hP ?_) (fun c4 => hP ?_))
    · refine qm_go 1 (fun P hP => hP ?_)
      obtain ⟨k, hk, rfl⟩ := inR_of' (n := 61) (by decide) c1 (i_nlt c4)
      refine qm_go 6 (fun P hP => And.intro (fun c13 => hP ?_) (fun c13 => hP ?_))
      · refine qm_go 1 (fun P hP => hP ?_)
        rw [hv.m] at c13
        have z := pass_3 (A := A) (D := D) hk c13
        rw [z.1, z.2] at h
        refine qm_go 3 (fun P hP => c_goA (by omega) (show k < 2 ^ 20 by omega) hs hv (by omega) (fun σ1 f1 s1 v1 => hP ?_))
        refine qm_go 4 (fun P hP => ?_)
        have h := h σ1 f1 s1 v1
        rw [← goA_m A k D, ← v1.m] at h
        exact h
      · refine qm_go 2 (fun P hP => ?_)
        rw [hv.m] at c13
        have z := pass_2 (A := A) (D := D) ⟨k, hk, rfl⟩ c13
        rw [z.1, z.2] at h
        exact h σ Fr.rf hs hv
    · refine qm_go 2 (fun P hP => ?_)
      have hz : ¬ inR n 61 := fun z => by
        have y := in_lt (n := 61) (by decide) z
        first
          | exact y.1 c1
          | exact y.2 (i_lt_of c4)
      have z := pass_1 (A := A) (D := D) hz
      rw [z.1, z.2] at h
      exact h σ Fr.rf hs hv
theorem m_pass {d : Nat} (hd : 12 ≤ d) {σ : qm_Sg} {Q : qm_Po} {A : AS} {D : DD} {n : Int32} (hs : mS σ A) (hv : mV σ D) (hm : D.2.2.2 + 100 < 2 ^ 30) (h : ∀ σ', Fr tM σ σ' → mS σ' A → mV σ' (passD A D n) → Q σ' (some (vI (passV D n)))) : qm_M d 153 [vR 50 0, vI n] σ Q := by
  obtain ⟨d, rfl, hd⟩ := qm_dn hd
  show qm_Wp (qm_M d) qk_153 Q 0 [some (vR 50 0), some (vI n)] [] σ
  refine qm_go 3 (fun P hP => m_isMornings (by omega) (fun cn => hP ?_) (fun cn => hP ?_))
  · refine qm_go 1 (fun P hP => And.intro (fun _ => hP ?_) (fun c => absurd c (by decide)))
    refine qm_go 1 (fun P hP => hP ?_)
    obtain ⟨k, hk, rfl⟩ := cn
    refine qm_go 5 (fun P hP => And.intro (fun c11 => hP ?_) (fun c11 => hP ?_))
    · refine qm_go 1 (fun P hP => hP ?_)
      rw [hv.m] at c11
      have z := pass_3 (A := A) (D := D) hk c11
      rw [z.1, z.2] at h
      refine qm_go 2 (fun P hP => m_goA (by omega) (show k < 2 ^ 20 by omega) hs hv (by omega) (fun σ1 f1 s1 v1 => hP ?_))
      refine qm_go 3 (fun P hP => ?_)
      have h := h σ1 f1 s1 v1
      rw [← goA_m A k D, ← v1.m] at h
      exact h
    · refine qm_go 2 (fun P hP => ?_)
      rw [hv.m] at c11
      have z := pass_2 (A := A) (D := D) ⟨k, hk, rfl⟩ c11
      rw [z.1, z.2] at h
      exact h σ Fr.rf hs hv
  · refine qm_go 1 (fun P hP => And.intro (fun c => absurd (by decide) c) (fun _ => hP ?_))
    refine qm_go 2 (fun P hP => ?_)
    have z := pass_1 (A := A) (D := D) cn
    rw [z.1, z.2] at h
    exact h σ Fr.rf hs hv
