def dwA (A : AS) (D : DD) (b : Int32) (n : Nat) : Int32 := (goA (awA A (awO A ||| b)) n D).2.2.1
theorem cS.tr {σ σ' : qm_Sg} {A : AS} (h : cS 0 σ A) (f : Fr tT σ σ') : cS 0 σ' A := h.fg f (fun t i j q => by unfold pC at q; unfold tT; omega) (by unfold tT; omega)
theorem cV.tr {σ σ' : qm_Sg} {D : DD} (h : cV 0 σ D) (f : Fr tT σ σ') : cV 0 σ' D := h.fg f (fun t i j q => by unfold tT; omega)
theorem tK_T {t i j : Nat} (h : tK 2 t i j) : tT t i j := by unfold tK at h; unfold tT; omega
theorem tC_T {t i j : Nat} (h : tC 2 t i j) : tT t i j := by unfold tC at h; unfold tT; omega
theorem tM_Q {t i j : Nat} (h : tM t i j) : tQ t i j := by unfold tM at h; unfold tQ; omega
theorem tSv_Q {t i j : Nat} (h : tSv t i j) : tQ t i j := by unfold tSv at h; unfold tQ; omega
theorem tPB_Q {t i j : Nat} (h : tPB t i j) : tQ t i j := by unfold tPB at h; unfold tQ; omega
theorem c_dw {d : Nat} (hd : 7 ≤ d) {σ : qm_Sg} {Q : qm_Po} {A : AS} {D : DD} {b : Int32} {n : Nat} (hs : cS 0 σ A) (hv : cV 0 σ D) (hn : n < 2 ^ 20) (hm : D.2.2.2 + n < 2 ^ 30) (h : ∀ σ', Fr tT σ σ' → Q σ' (some (vI (dwA A D b n)))) : qm_M d 105 [vR 0 0, vI b, vI (nI n)] σ Q := by
  obtain ⟨d, rfl, hd⟩ := qm_dn hd
  show qm_Wp (qm_M d) qk_105 Q 0 [some (vR 0 0), some (vI b), some (vI (nI n))] [] σ
  refine qm_go 5 (fun P hP => c_takes20 (by omega) hs hv (fun σ1 f1 s1 v1 => hP ?_))
  refine qm_go 8 (fun P hP => hP ?_)
  generalize hσ : wF _ 10 2 (upd _ 7 _) = σ2
  have F : Fr (fun t i j => t = 10 ∧ i = 2 ∧ j = 7) σ1 σ2 := by
    rw [← hσ]
    exact Fr.w1 ⟨rfl, rfl, rfl⟩
  have s2 : cS 2 σ2 (awA A (awO A ||| b)) := s1.fa F (fun t i j q => by unfold pC at q; omega) (by rw [← hσ, wv_same, s1.aw])
  have v2 : cV 2 σ2 D := v1.fg F (fun t i j q => by omega)
  have F2 : Fr tT σ σ2 := (f1.mono (fun _ _ _ q => tK_T q)).tr (F.mono (fun t i j q => by unfold tT; omega))
  refine qm_go 3 (fun P hP => c_goA (by omega) hn s2 v2 hm (fun σ3 f3 s3 v3 => hP ?_))
  refine qm_go 4 (fun P hP => ?_)
  show Q σ3 (some (vI (σ3.1 10 2 9)))
  rw [v3.d]
  exact h σ3 (F2.tr (f3.mono (fun _ _ _ q => tC_T q)))
theorem m_dw {d : Nat} (hd : 11 ≤ d) {σ : qm_Sg} {Q : qm_Po} {A : AS} {D : DD} {b : Int32} {n : Nat} (hs : mS σ A) (hv : mV σ D) (hn : n < 2 ^ 20) (hm : D.2.2.2 + n < 2 ^ 30) (h : ∀ σ', Fr tQ σ σ' → mS σ' A → mV σ' D → Q σ' (some (vI (dwA A D b n)))) : qm_M d 158 [vR 50 0, vI b, vI (nI n)] σ Q := by
  obtain ⟨d, rfl, hd⟩ := qm_dn hd
  show qm_Wp (qm_M d) qk_158 Q 0 [some (vR 50 0), some (vI b), some (vI (nI n)), none] [] σ
  refine qm_go 2 (fun P hP => m_save (by omega) hs hv (fun σ1 f1 s1 v1 k1 => hP ?_))
  refine qm_go 7 (fun P hP => hP ?_)
  generalize hσ : wF _ 50 0 (upd _ 1 _) = σ2
  have F : Fr (fun t i j => t = 50 ∧ i = 0 ∧ j = 1) σ1 σ2 := by
    rw [← hσ]
    exact Fr.w1 ⟨rfl, rfl, rfl⟩
  have s2 : mS σ2 (awA A (awO A ||| b)) := s1.fa F (fun t i j q => by unfold pM at q; omega) (by rw [← hσ, wv_same, s1.aw])
  have v2 : mV σ2 D := v1.fg F (fun t i j q => by omega)
  have k2 : mK σ2 (awO A) D := k1.fg F (fun t i j q => by omega)
  have F2 : Fr tQ σ σ2 := (f1.mono (fun _ _ _ q => tSv_Q q)).tr (F.mono (fun t i j q => by unfold tQ; omega))
  refine qm_go 2 (fun P hP => m_goA (by omega) hn s2 v2 hm (fun σ3 f3 s3 v3 => hP ?_))
  refine qm_go 5 (fun P hP => m_putBack (by omega) s3 (k2.fg f3 (fun t i j q => by unfold tM; omega)) (fun σ4 f4 s4 v4 => hP ?_))
  refine qm_go 2 (fun P hP => ?_)
  show Q σ4 (some (vI (σ3.1 50 0 2)))
  rw [v3.d]
  exact h σ4 ((F2.tr (f3.mono (fun _ _ _ q => tM_Q q))).tr (f4.mono (fun _ _ _ q => tPB_Q q))) s4 v4
def sentF (A : AS) (D : DD) (n : Nat) : Nat → Nat → Int32 → Int32 → Int32
  | 0, _, s, _ => s
  | k + 1, p, s, l => if isAw (awO A) p then sentF A D n k (p + 1) s l
    else if dwA A D (1 <<< (nI p &&& 31)) n < l then sentF A D n k (p + 1) (nI p) (dwA A D (1 <<< (nI p &&& 31)) n) else sentF A D n k (p + 1) s l
theorem c_sent_l {d : Nat} (hd : 7 ≤ d) {σ0 : qm_Sg} {Q : qm_Po} {A : AS} {D : DD} {n : Nat} (hs : cS 0 σ0 A) (hv : cV 0 σ0 D) (hn : n < 2 ^ 20) (hm : D.2.2.2 + n < 2 ^ 30) : ∀ (k p : Nat) (s l : Int32) (l5 : Option qm_AV) (σ : qm_Sg), p + k = A.1 → Fr tT σ0 σ → (∀ σ', Fr tT σ0 σ' → Q σ' (some (vI (sentF A D n k p s l)))) → qm_Wp (qm_M d) qk_106 Q 9 [some (vR 0 0), some (vI (nI n)), some (vI s), some (vI l), some (vI (nI p)), l5] [] σ
  | 0, p, s, l, l5, σ, e, f0, h => by
    have hn6 := hs.le
    refine qm_go 5 (fun P hP => And.intro (fun _ => hP ?_) (fun c => absurd (by rw [(hs.tr f0).n]; exact nI_le (by omega) (by omega)) c))
    refine qm_go 2 (fun P hP => h σ f0)
  | k + 1, p, s, l, l5, σ, e, f0, h => by
    have hn6 := hs.le
    have s1 := hs.tr f0
    have v1 := hv.tr f0
    unfold sentF at h
    refine qm_go 5 (fun P hP => And.intro (fun c => absurd c (by rw [s1.n]; exact nI_ge (by omega) (by omega))) (fun _ => hP ?_))
    refine qm_go 4 (fun P hP => c_isAway (by omega) (fun c => hP ?_) (fun c => hP ?_))
    · refine qm_go 1 (fun P hP => And.intro (fun c => absurd c (by decide)) (fun _ => hP ?_))
      refine qm_go 6 (fun P hP => And.intro (fun _ => hP ?_) (fun c => absurd (by rw [i_le]; omega) c))
      refine qm_go 2 (fun P hP => hP ?_)
      rw [nI_1]
      rw [s1.aw] at c
      first
        | (rw [if_pos c] at h; exact c_sent_l hd hs hv hn hm k (p + 1) s l _ σ (by omega) f0 h)
        | (rw [if_neg c, if_neg (i_nlt c30)] at h; exact c_sent_l hd hs hv hn hm k (p + 1) s l _ σ2 (by omega) (f0.tr f2) h)
        | (rw [if_neg c, if_pos (i_lt_of c30)] at h; exact c_sent_l hd hs hv hn hm k (p + 1) _ _ _ σ2 (by omega) (f0.tr f2) h)
    · refine qm_go 1 (fun P hP => And.intro (fun _ => hP ?_) (fun c => absurd (by decide) c))
      refine qm_go 6 (fun P hP => c_dw (by omega) s1 v1 hn hm (fun σ2 f2 => hP ?_))
      refine qm_go 4 (fun P hP => And.intro (fun c30 => hP ?_) (fun c30 => hP ?_))
      · refine qm_go 2 (fun P hP => hP ?_)
        rw [nI_1]
        rw [s1.aw] at c
        first
          | (rw [if_pos c] at h; exact c_sent_l hd hs hv hn hm k (p + 1) s l _ σ (by omega) f0 h)
          | (rw [if_neg c, if_neg (i_nlt c30)] at h; exact c_sent_l hd hs hv hn hm k (p + 1) s l _ σ2 (by omega) (f0.tr f2) h)
          | (rw [if_neg c, if_pos (i_lt_of c30)] at h; exact c_sent_l hd hs hv hn hm k (p + 1) _ _ _ σ2 (by omega) (f0.tr f2) h)
      · refine qm_go 6 (fun P hP => hP ?_)
        rw [nI_1]
        rw [s1.aw] at c
        first
          | (rw [if_pos c] at h; exact c_sent_l hd hs hv hn hm k (p + 1) s l _ σ (by omega) f0 h)
          | (rw [if_neg c, if_neg (i_nlt c30)] at h; exact c_sent_l hd hs hv hn hm k (p + 1) s l _ σ2 (by omega) (f0.tr f2) h)
          | (rw [if_neg c, if_pos (i_lt_of c30)] at h; exact c_sent_l hd hs hv hn hm k (p + 1) _ _ _ σ2 (by omega) (f0.tr f2) h)
theorem c_sent {d : Nat} (hd : 8 ≤ d) {σ : qm_Sg} {Q : qm_Po} {A : AS} {D : DD} {n : Nat} (hs : cS 0 σ A) (hv : cV 0 σ D) (hn : n < 2 ^ 20) (hm : D.2.2.2 + n < 2 ^ 30) (h : ∀ σ', Fr tT σ σ' → Q σ' (some (vI (sentF A D n A.1 0 (-5) (dwA A D 0 n))))) : qm_M d 106 [vR 0 0, vI (nI n)] σ Q := by
  obtain ⟨d, rfl, hd⟩ := qm_dn hd
  show qm_Wp (qm_M d) qk_106 Q 0 [some (vR 0 0), some (vI (nI n)), none, none, none, none] [] σ
  refine qm_go 6 (fun P hP => c_dw (by omega) hs hv hn hm (fun σ1 f1 => hP ?_))
  refine qm_go 3 (fun P hP => hP ?_)
  exact c_sent_l (by omega) hs hv hn hm A.1 0 _ _ _ σ1 (by omega) f1 h
theorem m_sent_l {d : Nat} (hd : 11 ≤ d) {σ0 : qm_Sg} {Q : qm_Po} {A : AS} {D : DD} {n : Nat} (hn : n < 2 ^ 20) (hm : D.2.2.2 + n < 2 ^ 30) : ∀ (k p : Nat) (s l : Int32) (l5 : Option qm_AV) (σ : qm_Sg), p + k = A.1 → Fr tQ σ0 σ → mS σ A → mV σ D → (∀ σ', Fr tQ σ0 σ' → mS σ' A → mV σ' D → Q σ' (some (vI (sentF A D n k p s l)))) → qm_Wp (qm_M d) qk_159 Q 9 [some (vR 50 0), some (vI (nI n)), some (vI s), some (vI l), some (vI (nI p)), l5] [] σ
  | 0, p, s, l, l5, σ, e, f0, hs, hv, h => by
    have hn6 := hs.le
    refine qm_go 4 (fun P hP => And.intro (fun _ => hP ?_) (fun c => absurd (by rw [hs.n]; exact nI_le (by omega) (by omega)) c))
    refine qm_go 2 (fun P hP => h σ f0 hs hv)
  | k + 1, p, s, l, l5, σ, e, f0, hs, hv, h => by
    have hn6 := hs.le
    unfold sentF at h
    refine qm_go 4 (fun P hP => And.intro (fun c => absurd c (by rw [hs.n]; exact nI_ge (by omega) (by omega))) (fun _ => hP ?_))
    refine qm_go 5 (fun P hP => m_has (by omega) (fun c => hP ?_) (fun c => hP ?_))
    · refine qm_go 1 (fun P hP => And.intro (fun c => absurd c (by decide)) (fun _ => hP ?_))
      refine qm_go 3 (fun P hP => hP ?_)
      rw [nI_1]
      rw [hs.aw] at c
      first
        | (rw [if_pos c] at h; exact m_sent_l hd hn hm k (p + 1) s l _ σ (by omega) f0 hs hv h)
        | (rw [if_neg c, if_pos c29] at h; exact m_sent_l hd hn hm k (p + 1) _ _ _ σ2 (by omega) (f0.tr f2) s2 v2 h)
        | (rw [if_neg c, if_neg c29] at h; exact m_sent_l hd hn hm k (p + 1) s l _ σ2 (by omega) (f0.tr f2) s2 v2 h)
    · refine qm_go 1 (fun P hP => And.intro (fun _ => hP ?_) (fun c => absurd (by decide) c))
      refine qm_go 6 (fun P hP => m_dw (by omega) hs hv hn hm (fun σ2 f2 s2 v2 => hP ?_))
      refine qm_go 4 (fun P hP => And.intro (fun c29 => hP ?_) (fun c29 => hP ?_))
      · refine qm_go 6 (fun P hP => hP ?_)
        rw [nI_1]
        rw [hs.aw] at c
        first
          | (rw [if_pos c] at h; exact m_sent_l hd hn hm k (p + 1) s l _ σ (by omega) f0 hs hv h)
          | (rw [if_neg c, if_pos c29] at h; exact m_sent_l hd hn hm k (p + 1) _ _ _ σ2 (by omega) (f0.tr f2) s2 v2 h)
          | (rw [if_neg c, if_neg c29] at h; exact m_sent_l hd hn hm k (p + 1) s l _ σ2 (by omega) (f0.tr f2) s2 v2 h)
      · refine qm_go 3 (fun P hP => hP ?_)
        rw [nI_1]
        rw [hs.aw] at c
        first
          | (rw [if_pos c] at h; exact m_sent_l hd hn hm k (p + 1) s l _ σ (by omega) f0 hs hv h)
          | (rw [if_neg c, if_pos c29] at h; exact m_sent_l hd hn hm k (p + 1) _ _ _ σ2 (by omega) (f0.tr f2) s2 v2 h)
          | (rw [if_neg c, if_neg c29] at h; exact m_sent_l hd hn hm k (p + 1) s l _ σ2 (by omega) (f0.tr f2) s2 v2 h)
theorem m_sent {d : Nat} (hd : 12 ≤ d) {σ : qm_Sg} {Q : qm_Po} {A : AS} {D : DD} {n : Nat} (hs : mS σ A) (hv : mV σ D) (hn : n < 2 ^ 20) (hm : D.2.2.2 + n < 2 ^ 30) (h : ∀ σ', Fr tQ σ σ' → mS σ' A → mV σ' D → Q σ' (some (vI (sentF A D n A.1 0 (-5) (dwA A D 0 n))))) : qm_M d 159 [vR 50 0, vI (nI n)] σ Q := by
  obtain ⟨d, rfl, hd⟩ := qm_dn hd
  show qm_Wp (qm_M d) qk_159 Q 0 [some (vR 50 0), some (vI (nI n)), none, none, none, none] [] σ
  refine qm_go 6 (fun P hP => m_dw (by omega) hs hv hn hm (fun σ1 f1 s1 v1 => hP ?_))
  refine qm_go 3 (fun P hP => hP ?_)
  exact m_sent_l (by omega) hn hm A.1 0 _ _ _ σ1 (by omega) f1 s1 v1 h
