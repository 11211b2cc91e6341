def toldV (A : AS) (D : DD) (w : Int32) : Int32 := if w = 0 then nI D.2.2.2 else if w = 1 then A.2.2.2.2.2.2 else if w = 2 then D.2.2.1 else if w = 3 then awO A else if w = 4 then sumF D.1 A.1 0 0 else if w = 5 then sumF D.2.1 A.1 0 0 else -1
theorem cS.st {X : Nat} {σ : qm_Sg} {A : AS} (h : cS X σ A) : cSt X σ A.2.2.2.2.2.1 A.2.2.2.2.2.2 := by obtain ⟨kd, vv, rw9, q1, q2, q3, h1, h2, h3, h4, h5, h6, h7, h8⟩ := h; exact h8
theorem mS.st {σ : qm_Sg} {A : AS} (h : mS σ A) : mSt σ A.2.2.2.2.2.1 A.2.2.2.2.2.2 := by obtain ⟨kd, vv, rw9, q1, q2, q3, h1, h2, h3, h4, h5, h6, h7, h8⟩ := h; exact h8
theorem aw_and : ∀ n, n < 7 → ∀ a, a < 2 ^ n → nI a &&& (nI (2 ^ n) - 1) = nI a := by decide +kernel
theorem c_told {d : Nat} (hd : 2 ≤ d) {σ : qm_Sg} {Q : qm_Po} {A : AS} {D : DD} {w : Int32} (hs : cS 0 σ A) (hv : cV 0 σ D) (h : Q σ (some (vI (toldV A D w)))) : qm_M d 72 [vR 0 0, vI w] σ Q := by
  obtain ⟨d, rfl, hd⟩ := qm_dn hd
  show qm_Wp (qm_M d) qk_72 Q 0 [some (vR 0 0), some (vI w)] [] σ
  refine qm_go 2 (fun P hP => And.intro (fun c1_0 => hP ?_) (fun n1_0 => And.intro (fun c1_1 => hP ?_) (fun n1_1 => And.intro (fun c1_2 => hP ?_) (fun n1_2 => And.intro (fun c1_3 => hP ?_) (fun n1_3 => And.intro (fun c1_4 => hP ?_) (fun n1_4 => And.intro (fun c1_5 => hP ?_) (fun n1_5 => hP ?_)))))))
  · refine qm_go 4 (fun P hP => ?_)
    unfold toldV at h
    rw [if_pos c1_0] at h
    rw [← hv.m] at h
    exact h
  · refine qm_go 3 (fun P hP => c_bear (by omega) hs.st (hP ?_))
    refine qm_go 1 (fun P hP => ?_)
    unfold toldV at h
    rw [if_neg n1_0, if_pos c1_1] at h
    exact h
  · refine qm_go 4 (fun P hP => ?_)
    unfold toldV at h
    rw [if_neg n1_0, if_neg n1_1, if_pos c1_2] at h
    rw [← hv.d] at h
    exact h
  · refine qm_go 4 (fun P hP => ?_)
    unfold toldV at h
    rw [if_neg n1_0, if_neg n1_1, if_neg n1_2, if_pos c1_3] at h
    rw [← hs.aw] at h
    exact h
  · refine qm_go 6 (fun P hP => c_tog013 (n := A.1) (g := D.1) (by omega) hs.le hs.n hv.o (hP ?_))
    refine qm_go 1 (fun P hP => ?_)
    unfold toldV at h
    rw [if_neg n1_0, if_neg n1_1, if_neg n1_2, if_neg n1_3, if_pos c1_4] at h
    exact h
  · refine qm_go 6 (fun P hP => c_tog014 (n := A.1) (g := D.2.1) (by omega) hs.le hs.n hv.l (hP ?_))
    refine qm_go 1 (fun P hP => ?_)
    unfold toldV at h
    rw [if_neg n1_0, if_neg n1_1, if_neg n1_2, if_neg n1_3, if_neg n1_4, if_pos c1_5] at h
    exact h
  · refine qm_go 2 (fun P hP => ?_)
    unfold toldV at h
    rw [if_neg n1_0, if_neg n1_1, if_neg n1_2, if_neg n1_3, if_neg n1_4, if_neg n1_5] at h
    exact h
theorem m_told {d : Nat} (hd : 3 ≤ d) {σ : qm_Sg} {Q : qm_Po} {A : AS} {D : DD} {w : Int32} (hw : ∃ a, awO A = nI a ∧ a < 2 ^ A.1) (hs : mS σ A) (hv : mV σ D) (h : Q σ (some (vI (toldV A D w)))) : qm_M d 148 [vR 50 0, vI w] σ Q := by
  obtain ⟨d, rfl, hd⟩ := qm_dn hd
  show qm_Wp (qm_M d) qk_148 Q 0 [some (vR 50 0), some (vI w)] [] σ
  refine qm_go 2 (fun P hP => And.intro (fun c1_0 => hP ?_) (fun n1_0 => And.intro (fun c1_1 => hP ?_) (fun n1_1 => And.intro (fun c1_2 => hP ?_) (fun n1_2 => And.intro (fun c1_3 => hP ?_) (fun n1_3 => And.intro (fun c1_4 => hP ?_) (fun n1_4 => And.intro (fun c1_5 => hP ?_) (fun n1_5 => hP ?_)))))))
  · refine qm_go 3 (fun P hP => ?_)
    unfold toldV at h
    rw [if_pos c1_0] at h
    rw [← hv.m] at h
    exact h
  · refine qm_go 2 (fun P hP => m_bear (by omega) hs.st (hP ?_))
    refine qm_go 1 (fun P hP => ?_)
    unfold toldV at h
    rw [if_neg n1_0, if_pos c1_1] at h
    exact h
  · refine qm_go 3 (fun P hP => ?_)
    unfold toldV at h
    rw [if_neg n1_0, if_neg n1_1, if_pos c1_2] at h
    rw [← hv.d] at h
    exact h
  · refine qm_go 10 (fun P hP => ?_)
    unfold toldV at h
    rw [if_neg n1_0, if_neg n1_1, if_neg n1_2, if_pos c1_3] at h
    show Q σ (some (vI (σ.1 50 0 1 &&& (1 <<< (σ.1 50 0 0 &&& 31) - 1))))
    obtain ⟨a, e, ha⟩ := hw
    rw [hs.aw, hs.n, sh6 hs.le, e, aw_and A.1 (by have := hs.le; omega) a ha]
    rw [e] at h
    exact h
  · refine qm_go 3 (fun P hP => m_sum53 (n := A.1) (g := D.1) (by omega) hs.le hs.n hv.o (hP ?_))
    refine qm_go 1 (fun P hP => ?_)
    unfold toldV at h
    rw [if_neg n1_0, if_neg n1_1, if_neg n1_2, if_neg n1_3, if_pos c1_4] at h
    exact h
  · refine qm_go 3 (fun P hP => m_sum54 (n := A.1) (g := D.2.1) (by omega) hs.le hs.n hv.l (hP ?_))
    refine qm_go 1 (fun P hP => ?_)
    unfold toldV at h
    rw [if_neg n1_0, if_neg n1_1, if_neg n1_2, if_neg n1_3, if_neg n1_4, if_pos c1_5] at h
    exact h
  · refine qm_go 2 (fun P hP => ?_)
    unfold toldV at h
    rw [if_neg n1_0, if_neg n1_1, if_neg n1_2, if_neg n1_3, if_neg n1_4, if_neg n1_5] at h
    exact h
