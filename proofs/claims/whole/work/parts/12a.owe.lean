def oweV (A : AS) (D : DD) (s n : Int32) : Int32 := if inP s A.1 then (if inP n 10000 then D.1 (tN s) else -2) else -1
def oweD (A : AS) (D : DD) (s n : Int32) : DD := if inP s A.1 then (if inP n 10000 then oD D (tN s) n else D) else D
theorem owe_1 {A : AS} {D : DD} {s n : Int32} (h : ¬ inR s A.1) : oweV A D s n = -1 ∧ oweD A D s n = D := ⟨if_neg h, if_neg h⟩
theorem owe_2 {A : AS} {D : DD} {s n : Int32} (h : inR s A.1) (h2 : ¬ inR n 10000) : oweV A D s n = -2 ∧ oweD A D s n = D := ⟨(if_pos h).trans (if_neg h2), (if_pos h).trans (if_neg h2)⟩
theorem owe_3 {A : AS} {D : DD} {p : Nat} {n : Int32} (hn : A.1 ≤ 6) (h : p < A.1) (h2 : inR n 10000) : oweV A D (nI p) n = D.1 p ∧ oweD A D (nI p) n = oD D p n := by
  have e : tN (nI p) = p := tN_nI (by omega)
  have h2 : inP n 10000 := h2
  unfold oweV oweD
  rw [if_pos ⟨p, h, rfl⟩, if_pos h2, if_pos ⟨p, h, rfl⟩, if_pos h2, e]
  exact ⟨rfl, rfl⟩
theorem rg_oD {D : DD} {p : Nat} {n : Int32} (h : rg D) (hn : inR n 10000) : rg (oD D p n) := rg_up (D := D) h hn
def dipV (D : DD) (n : Int32) : Int32 := if inP n 10000 then D.2.2.1 else -2
def dipD (D : DD) (n : Int32) : DD := if inP n 10000 then (D.1, D.2.1, n, D.2.2.2) else D
theorem dip_1 {D : DD} {n : Int32} (h : ¬ inR n 10000) : dipV D n = -2 ∧ dipD D n = D := ⟨if_neg h, if_neg h⟩
theorem dip_2 {D : DD} {n : Int32} (h : inR n 10000) : dipV D n = D.2.2.1 ∧ dipD D n = (D.1, D.2.1, n, D.2.2.2) := ⟨if_pos h, if_pos h⟩
theorem c_owe {d : Nat} (hd : 2 ≤ d) {σ : qm_Sg} {Q : qm_Po} {A : AS} {D : DD} {s n : Int32} (hs : cS 0 σ A) (hv : cV 0 σ D) (h : ∀ σ', Fr (fun t i j => t = 13 ∧ i = 0) σ σ' → cS 0 σ' A → cV 0 σ' (oweD A D s n) → Q σ' (some (vI (oweV A D s n)))) : qm_M d 66 [vR 0 0, vI s, vI n] σ Q := by
  obtain ⟨d, rfl, hd⟩ := qm_dn hd
  show qm_Wp (qm_M d) qk_66 Q 0 [some (vR 0 0), some (vI s), some (vI n), none] [] σ
  refine qm_go 4 (fun P hP => c_has (by omega) (Nat.lt_of_le_of_lt hs.le (by decide)) hs.n (fun ch => hP ?_) (fun ch => hP ?_))
  · refine qm_go 1 (fun P hP => And.intro (fun _ => hP ?_) (fun c => absurd c (by decide)))
    refine qm_go 2 (fun P hP => c_isAmount (by omega) (fun ca => hP ?_) (fun ca => hP ?_))
    · refine qm_go 1 (fun P hP => And.intro (fun _ => hP ?_) (fun c => absurd c (by decide)))
      refine qm_go 1 (fun P hP => hP ?_)
      obtain ⟨p, hp, rfl⟩ := ch
      have hn6 := hs.le
      have hp6 : p < 6 := by omega
      have z := owe_3 (A := A) (D := D) (p := p) (n := n) hn6 hp ca
      rw [z.1, z.2] at h
      refine qm_go 4 (fun P hP => Exists.intro (p) (And.intro (And.intro (rfl) (hp6)) (hP ?_)))
      rw [hv.o p hp6]
      refine qm_go 7 (fun P hP => Exists.intro (p) (And.intro (And.intro (rfl) (hp6)) (hP ?_)))
      generalize hσ : wF _ 13 0 (upd _ p _) = σ2
      have F : Fr (fun t i j => t = 13 ∧ i = 0) σ σ2 := by
        rw [← hσ]
        exact Fr.w1 ⟨rfl, rfl⟩
      refine qm_go 2 (fun P hP => h σ2 F (hs.fg F (fun t i j q => by unfold pC at q; omega) (by omega)) (cV.of ?_ ?_ ?_ ?_))
      · rw [← hσ, wF_same]; exact hv.o.up p n
      · rw [F.row (fun j => by omega)]; exact hv.l
      · rw [F.1 _ _ _ (by omega)]; exact hv.d
      · rw [F.1 _ _ _ (by omega)]; exact hv.m
    · refine qm_go 1 (fun P hP => And.intro (fun c => absurd (by decide) c) (fun _ => hP ?_))
      refine qm_go 2 (fun P hP => ?_)
      have z := owe_2 (A := A) (D := D) (s := s) (n := n) ch ca
      rw [z.1, z.2] at h
      exact h σ Fr.rf hs hv
  · refine qm_go 1 (fun P hP => And.intro (fun c => absurd (by decide) c) (fun _ => hP ?_))
    refine qm_go 2 (fun P hP => ?_)
    have z := owe_1 (A := A) (D := D) (s := s) (n := n) ch
    rw [z.1, z.2] at h
    exact h σ Fr.rf hs hv
theorem m_owe {d : Nat} (hd : 3 ≤ d) {σ : qm_Sg} {Q : qm_Po} {A : AS} {D : DD} {s n : Int32} (hs : mS σ A) (hv : mV σ D) (h : ∀ σ', Fr (fun t i j => t = 53 ∧ i = 0) σ σ' → mS σ' A → mV σ' (oweD A D s n) → Q σ' (some (vI (oweV A D s n)))) : qm_M d 117 [vR 50 0, vI s, vI n] σ Q := by
  obtain ⟨d, rfl, hd⟩ := qm_dn hd
  show qm_Wp (qm_M d) qk_117 Q 0 [some (vR 50 0), some (vI s), some (vI n), none] [] σ
  refine qm_go 3 (fun P hP => m_isOne (by omega) (Nat.lt_of_le_of_lt hs.le (by decide)) hs.n (fun ch => hP ?_) (fun ch => hP ?_))
  · refine qm_go 1 (fun P hP => And.intro (fun _ => hP ?_) (fun c => absurd c (by decide)))
    refine qm_go 3 (fun P hP => m_isMany (by omega) (fun ca => hP ?_) (fun ca => hP ?_))
    · refine qm_go 1 (fun P hP => And.intro (fun _ => hP ?_) (fun c => absurd c (by decide)))
      refine qm_go 1 (fun P hP => hP ?_)
      obtain ⟨p, hp, rfl⟩ := ch
      have hn6 := hs.le
      have hp6 : p < 6 := by omega
      have z := owe_3 (A := A) (D := D) (p := p) (n := n) hn6 hp ca
      rw [z.1, z.2] at h
      refine qm_go 3 (fun P hP => Exists.intro (p) (And.intro (And.intro (rfl) (hp6)) (hP ?_)))
      rw [hv.o p hp6]
      refine qm_go 6 (fun P hP => Exists.intro (p) (And.intro (And.intro (rfl) (hp6)) (hP ?_)))
      generalize hσ : wF _ 53 0 (upd _ p _) = σ2
      have F : Fr (fun t i j => t = 53 ∧ i = 0) σ σ2 := by
        rw [← hσ]
        exact Fr.w1 ⟨rfl, rfl⟩
      refine qm_go 2 (fun P hP => h σ2 F (hs.fg F (fun t i j q => by unfold pM at q; omega) (by omega)) (mV.of ?_ ?_ ?_ ?_))
      · rw [← hσ, wF_same]; exact hv.o.up p n
      · rw [F.row (fun j => by omega)]; exact hv.l
      · rw [F.1 _ _ _ (by omega)]; exact hv.d
      · rw [F.1 _ _ _ (by omega)]; exact hv.m
    · refine qm_go 1 (fun P hP => And.intro (fun c => absurd (by decide) c) (fun _ => hP ?_))
      refine qm_go 2 (fun P hP => ?_)
      have z := owe_2 (A := A) (D := D) (s := s) (n := n) ch ca
      rw [z.1, z.2] at h
      exact h σ Fr.rf hs hv
  · refine qm_go 1 (fun P hP => And.intro (fun c => absurd (by decide) c) (fun _ => hP ?_))
    refine qm_go 2 (fun P hP => ?_)
    have z := owe_1 (A := A) (D := D) (s := s) (n := n) ch
    rw [z.1, z.2] at h
    exact h σ Fr.rf hs hv
theorem c_dip {d : Nat} (hd : 2 ≤ d) {σ : qm_Sg} {Q : qm_Po} {A : AS} {D : DD} {n : Int32} (hs : cS 0 σ A) (hv : cV 0 σ D) (h : ∀ σ', Fr (fun t i j => t = 10 ∧ i = 0 ∧ j = 9) σ σ' → cS 0 σ' A → cV 0 σ' (dipD D n) → Q σ' (some (vI (dipV D n)))) : qm_M d 68 [vR 0 0, vI n] σ Q := by
  obtain ⟨d, rfl, hd⟩ := qm_dn hd
  show qm_Wp (qm_M d) qk_68 Q 0 [some (vR 0 0), some (vI n), none] [] σ
  refine qm_go 2 (fun P hP => c_isAmount (by omega) (fun ca => hP ?_) (fun ca => hP ?_))
  · refine qm_go 1 (fun P hP => And.intro (fun _ => hP ?_) (fun c => absurd c (by decide)))
    refine qm_go 8 (fun P hP => hP ?_)
    have z := dip_2 (D := D) (n := n) ca
    rw [z.1, z.2] at h
    rw [hv.d]
    generalize hσ : wF _ 10 0 (upd _ 9 _) = σ2
    have F : Fr (fun t i j => t = 10 ∧ i = 0 ∧ j = 9) σ σ2 := by
      rw [← hσ]
      exact Fr.w1 ⟨rfl, rfl, rfl⟩
    refine qm_go 2 (fun P hP => h σ2 F (hs.fg F (fun t i j q => by unfold pC at q; omega) (by omega)) (cV.of ?_ ?_ ?_ ?_))
    · rw [F.row (fun j => by omega)]; exact hv.o
    · rw [F.row (fun j => by omega)]; exact hv.l
    · rw [← hσ, wv_same]
    · rw [F.1 _ _ _ (by omega)]; exact hv.m
  · refine qm_go 1 (fun P hP => And.intro (fun c => absurd (by decide) c) (fun _ => hP ?_))
    refine qm_go 2 (fun P hP => ?_)
    have z := dip_1 (D := D) (n := n) ca
    rw [z.1, z.2] at h
    exact h σ Fr.rf hs hv
theorem m_dip {d : Nat} (hd : 3 ≤ d) {σ : qm_Sg} {Q : qm_Po} {A : AS} {D : DD} {n : Int32} (hs : mS σ A) (hv : mV σ D) (h : ∀ σ', Fr (fun t i j => t = 50 ∧ i = 0 ∧ j = 2) σ σ' → mS σ' A → mV σ' (dipD D n) → Q σ' (some (vI (dipV D n)))) : qm_M d 120 [vR 50 0, vI n] σ Q := by
  obtain ⟨d, rfl, hd⟩ := qm_dn hd
  show qm_Wp (qm_M d) qk_120 Q 0 [some (vR 50 0), some (vI n), none] [] σ
  refine qm_go 3 (fun P hP => m_isMany (by omega) (fun ca => hP ?_) (fun ca => hP ?_))
  · refine qm_go 1 (fun P hP => And.intro (fun _ => hP ?_) (fun c => absurd c (by decide)))
    refine qm_go 6 (fun P hP => hP ?_)
    have z := dip_2 (D := D) (n := n) ca
    rw [z.1, z.2] at h
    rw [hv.d]
    generalize hσ : wF _ 50 0 (upd _ 2 _) = σ2
    have F : Fr (fun t i j => t = 50 ∧ i = 0 ∧ j = 2) σ σ2 := by
      rw [← hσ]
      exact Fr.w1 ⟨rfl, rfl, rfl⟩
    refine qm_go 2 (fun P hP => h σ2 F (hs.fg F (fun t i j q => by unfold pM at q; omega) (by omega)) (mV.of ?_ ?_ ?_ ?_))
    · rw [F.row (fun j => by omega)]; exact hv.o
    · rw [F.row (fun j => by omega)]; exact hv.l
    · rw [← hσ, wv_same]
    · rw [F.1 _ _ _ (by omega)]; exact hv.m
  · refine qm_go 1 (fun P hP => And.intro (fun c => absurd (by decide) c) (fun _ => hP ?_))
    refine qm_go 2 (fun P hP => ?_)
    have z := dip_1 (D := D) (n := n) ca
    rw [z.1, z.2] at h
    exact h σ Fr.rf hs hv
