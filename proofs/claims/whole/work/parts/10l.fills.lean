def fillF (A : AS) (q : Int32) : Nat → Nat → DD → Int32
  | 0, g, D => if D.2.2.1 < q then -5 else nI g
  | k + 1, g, D => if D.2.2.1 < q then fillF A q k (g + 1) (goA A 1 D) else nI g
def fillV (A : AS) (D : DD) (q : Int32) : Int32 := if inP q 10000 then fillF A q 60 0 D else -2
theorem c_fills_l {d : Nat} (hd : 6 ≤ d) {σ0 : qm_Sg} {Q : qm_Po} {A : AS} {q : Int32} : ∀ (k g : Nat) (D : DD) (σ : qm_Sg), g + k = 60 → D.2.2.2 + k < 2 ^ 30 → Fr tT σ0 σ → cS 2 σ A → cV 2 σ D → (∀ σ', Fr tT σ0 σ' → Q σ' (some (vI (fillF A q k g D)))) → qm_Wp (qm_M d) qk_75 Q 12 [some (vR 0 0), some (vI q), some (vI (nI g))] [] σ
  | 0, g, D, σ, e, hm, f0, hs, hv, h => by
    have : g = 60 := by omega
    subst this
    have h := h σ f0
    unfold fillF at h
    refine qm_go 3 (fun P hP => And.intro (fun _ => hP ?_) (fun c => absurd (by decide) c))
    refine qm_go 5 (fun P hP => And.intro (fun c32 => hP ?_) (fun c32 => hP ?_))
    · refine qm_go 2 (fun P hP => ?_)
      rw [hv.d] at c32
      first
        | (rw [if_pos c32] at h; exact h)
        | (rw [if_neg c32] at h; exact h)
    · refine qm_go 3 (fun P hP => ?_)
      rw [hv.d] at c32
      first
        | (rw [if_pos c32] at h; exact h)
        | (rw [if_neg c32] at h; exact h)
  | k + 1, g, D, σ, e, hm, f0, hs, hv, h => by
    unfold fillF at h
    refine qm_go 3 (fun P hP => And.intro (fun c => absurd c (nI_ge (b := 60) (by omega) (by omega))) (fun _ => hP ?_))
    refine qm_go 5 (fun P hP => And.intro (fun c19 => hP ?_) (fun c19 => hP ?_))
    · refine qm_go 4 (fun P hP => c_goA (k9 := 1) hd (by omega) hs hv (by omega) (fun σ1 f1 s1 v1 => hP ?_))
      refine qm_go 2 (fun P hP => hP ?_)
      rw [hv.d] at c19
      rw [nI_1]
      rw [if_pos c19] at h
      exact c_fills_l hd k (g + 1) _ σ1 (by omega) (by rw [goA_m]; omega) (f0.tr (f1.mono (fun _ _ _ q => tC_T q))) s1 v1 h
    · refine qm_go 2 (fun P hP => ?_)
      rw [hv.d] at c19
      have h := h σ f0
      rw [if_neg c19] at h
      exact h
theorem c_fills {d : Nat} (hd : 7 ≤ d) {σ : qm_Sg} {Q : qm_Po} {A : AS} {D : DD} {q : Int32} (hs : cS 0 σ A) (hv : cV 0 σ D) (hm : D.2.2.2 + 100 < 2 ^ 30) (h : ∀ σ', Fr tT σ σ' → Q σ' (some (vI (fillV A D q)))) : qm_M d 75 [vR 0 0, vI q] σ Q := by
  obtain ⟨d, rfl, hd⟩ := qm_dn hd
  show qm_Wp (qm_M d) qk_75 Q 0 [some (vR 0 0), some (vI q), none] [] σ
  refine qm_go 2 (fun P hP => c_isAmount (by omega) (fun ca => hP ?_) (fun ca => hP ?_))
  · refine qm_go 1 (fun P hP => And.intro (fun _ => hP ?_) (fun c => absurd c (by decide)))
    refine qm_go 5 (fun P hP => c_takes20 (by omega) hs hv (fun σ1 f1 s1 v1 => hP ?_))
    refine qm_go 2 (fun P hP => hP ?_)
    unfold fillV at h
    have ca : inP q 10000 := ca
    rw [if_pos ca] at h
    exact c_fills_l (by omega) 60 0 D σ1 (by omega) (by omega) (f1.mono (fun _ _ _ q => tK_T q)) s1 v1 h
  · refine qm_go 1 (fun P hP => And.intro (fun c => absurd (by decide) c) (fun _ => hP ?_))
    refine qm_go 2 (fun P hP => ?_)
    have h := h σ Fr.rf
    unfold fillV at h
    rw [if_neg (show ¬ inP q 10000 from ca)] at h
    exact h
theorem m_fills_t {d : Nat} (hd : 1 ≤ d) {σ0 σ : qm_Sg} {Q : qm_Po} {A : AS} {D0 : DD} {q : Int32} {g : Nat} {r : Int32} (hr : (g < 61 ∧ r = nI g) ∨ (g = 61 ∧ r = -5)) (f0 : Fr tQ σ0 σ) (hs : mS σ A) (hk : mK σ (awO A) D0) (h : ∀ σ', Fr tQ σ0 σ' → mS σ' A → mV σ' D0 → Q σ' (some (vI r))) : qm_Wp (qm_M d) qk_157 Q 21 [some (vR 50 0), some (vI q), some (vI (nI g))] [] σ := by
  have H : ∀ σ2, Fr tPB σ σ2 → mS σ2 (awA A (awO A)) → mV σ2 D0 → Q σ2 (some (vI r)) := fun σ2 f2 s2 v2 => h σ2 (f0.tr (f2.mono (fun _ _ _ q => tPB_Q q))) s2 v2
  rcases hr with ⟨h1, rfl⟩ | ⟨rfl, rfl⟩
  · skip
    refine qm_go 2 (fun P hP => m_putBack hd hs hk (fun σ2 f2 s2 v2 => hP ?_))
    refine qm_go 3 (fun P hP => And.intro (fun c => absurd c (nI_ge (b := 61) (by omega) (by omega))) (fun _ => hP ?_))
    refine qm_go 3 (fun P hP => H σ2 f2 s2 v2)
  · skip
    refine qm_go 2 (fun P hP => m_putBack hd hs hk (fun σ2 f2 s2 v2 => hP ?_))
    refine qm_go 3 (fun P hP => And.intro (fun _ => hP ?_) (fun c => absurd (by decide) c))
    refine qm_go 2 (fun P hP => H σ2 f2 s2 v2)
theorem m_fills_l {d : Nat} (hd : 9 ≤ d) {σ0 : qm_Sg} {Q : qm_Po} {A : AS} {D0 : DD} {q : Int32} : ∀ (k g : Nat) (D : DD) (σ : qm_Sg), g + k = 60 → D.2.2.2 + k < 2 ^ 30 → Fr tQ σ0 σ → mS σ A → mV σ D → mK σ (awO A) D0 → (∀ σ', Fr tQ σ0 σ' → mS σ' A → mV σ' D0 → Q σ' (some (vI (fillF A q k g D)))) → qm_Wp (qm_M d) qk_157 Q 10 [some (vR 50 0), some (vI q), some (vI (nI g))] [] σ
  | 0, g, D, σ, e, hm, f0, hs, hv, hk, h => by
    have : g = 60 := by omega
    subst this
    unfold fillF at h
    refine qm_go 3 (fun P hP => And.intro (fun c => absurd c (by decide)) (fun _ => hP ?_))
    refine qm_go 4 (fun P hP => And.intro (fun c16 => hP ?_) (fun c16 => hP ?_))
    · rw [hv.d] at c16
      rw [if_neg (i_nlt c16)] at h
      exact m_fills_t (by omega) (Or.inl ⟨by omega, rfl⟩) f0 hs hk h
    · refine qm_go 2 (fun P hP => m_goA1 hd hs hv (by omega) (fun σ1 f1 s1 v1 => hP ?_))
      refine qm_go 2 (fun P hP => hP ?_)
      have F1 : Fr tQ σ0 σ1 := f0.tr (f1.mono (fun _ _ _ q => tM_Q q))
      have k1 : mK σ1 (awO A) D0 := hk.fg f1 (fun t i j q => by unfold tM; omega)
      rw [hv.d] at c16
      rw [if_pos (i_lt_of c16)] at h
      rw [nI_1]
      refine qm_go 3 (fun P hP => And.intro (fun _ => hP ?_) (fun c => absurd (by decide) c))
      exact m_fills_t (by omega) (Or.inr ⟨rfl, rfl⟩) F1 s1 k1 h
  | k + 1, g, D, σ, e, hm, f0, hs, hv, hk, h => by
    unfold fillF at h
    refine qm_go 3 (fun P hP => And.intro (fun c => absurd c (nI_ge (b := 61) (by omega) (by omega))) (fun _ => hP ?_))
    refine qm_go 4 (fun P hP => And.intro (fun c16 => hP ?_) (fun c16 => hP ?_))
    · rw [hv.d] at c16
      rw [if_neg (i_nlt c16)] at h
      exact m_fills_t (by omega) (Or.inl ⟨by omega, rfl⟩) f0 hs hk h
    · refine qm_go 2 (fun P hP => m_goA1 hd hs hv (by omega) (fun σ1 f1 s1 v1 => hP ?_))
      refine qm_go 2 (fun P hP => hP ?_)
      have F1 : Fr tQ σ0 σ1 := f0.tr (f1.mono (fun _ _ _ q => tM_Q q))
      have k1 : mK σ1 (awO A) D0 := hk.fg f1 (fun t i j q => by unfold tM; omega)
      rw [hv.d] at c16
      rw [if_pos (i_lt_of c16)] at h
      rw [nI_1]
      exact m_fills_l hd k (g + 1) _ σ1 (by omega) (by rw [goA_m]; omega) F1 s1 v1 k1 h
theorem m_fills {d : Nat} (hd : 10 ≤ d) {σ : qm_Sg} {Q : qm_Po} {A : AS} {D : DD} {q : Int32} (hs : mS σ A) (hv : mV σ D) (hm : D.2.2.2 + 100 < 2 ^ 30) (h : ∀ σ', Fr tQ σ σ' → mS σ' A → mV σ' D → Q σ' (some (vI (fillV A D q)))) : qm_M d 157 [vR 50 0, vI q] σ Q := by
  obtain ⟨d, rfl, hd⟩ := qm_dn hd
  show qm_Wp (qm_M d) qk_157 Q 0 [some (vR 50 0), some (vI q), none] [] σ
  refine qm_go 3 (fun P hP => m_isMany (by omega) (fun ca => hP ?_) (fun ca => hP ?_))
  · refine qm_go 1 (fun P hP => And.intro (fun _ => hP ?_) (fun c => absurd c (by decide)))
    refine qm_go 2 (fun P hP => m_save (by omega) hs hv (fun σ1 f1 s1 v1 k1 => hP ?_))
    refine qm_go 2 (fun P hP => hP ?_)
    unfold fillV at h
    have ca : inP q 10000 := ca
    rw [if_pos ca] at h
    exact m_fills_l (by omega) 60 0 D σ1 (by omega) (by omega) (f1.mono (fun _ _ _ q => tSv_Q q)) s1 v1 k1 h
  · refine qm_go 1 (fun P hP => And.intro (fun c => absurd (by decide) c) (fun _ => hP ?_))
    refine qm_go 2 (fun P hP => ?_)
    have h := h σ Fr.rf hs hv
    unfold fillV at h
    rw [if_neg (show ¬ inP q 10000 from ca)] at h
    exact h
