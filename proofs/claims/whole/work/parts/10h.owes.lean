def mVp (σ : qm_Sg) (D : DD) (p : Nat) : Prop := (∀ j, j < 6 → j ≠ p → σ.1 53 0 j = D.1 j) ∧ Q6 (σ.1 54 0) D.2.1 ∧ σ.1 50 0 2 = D.2.2.1 ∧ σ.1 50 0 3 = nI D.2.2.2
theorem mVp.set {σ : qm_Sg} {D : DD} {p : Nat} {y : Int32} (h : mVp σ D p) : mV (wF σ 53 0 (upd (σ.1 53 0) p y)) (oD D p y) :=
  mV.of (by rw [wF_same]; exact Q6.uu h.1) (by rw [wF_ne _ _ (by omega)]; exact h.2.1) (by rw [wF_ne _ _ (by omega)]; exact h.2.2.1) (by rw [wF_ne _ _ (by omega)]; exact h.2.2.2)
theorem mVp.of {σ : qm_Sg} {D : DD} {p : Nat} {y : Int32} (h : mV σ (oD D p y)) : mVp σ D p :=
  ⟨fun j hj hne => (h.o j hj).trans (upd_ne hne), h.l, h.d, h.m⟩
theorem oD_back {D : DD} {p : Nat} : oD D p (D.1 p) = D := by
  have : upd D.1 p (D.1 p) = D.1 := by
    funext j
    by_cases e : j = p
    · rw [e, upd_same]
    · rw [upd_ne e]
  unfold oD
  rw [this]
theorem tQ52 {t i j : Nat} (h : t = 52 ∨ tQ t i j) (h2 : ¬ t = 52) : tQ t i j := h.resolve_left h2
def tR (t i j : Nat) : Prop := t = 52 ∨ tQ t i j
theorem mSeen.tr2 {σ σ' : qm_Sg} {R : R9} (h : mSeen σ R) (hF : Fr tR σ σ') : mSeen σ' R := h.fg hF (fun t i j a => by unfold tR tQ; omega)
theorem m_owes_l {d : Nat} (hd : 11 ≤ d) {σ0 : qm_Sg} {Q : qm_Po} {A : AS} {D : DD} {R : R9} {p : Nat} {b : Int32} (hp : p < A.1) (hr : mSeen σ0 R) (hw : wfR A.1 R) (hm : D.2.2.2 + 20 < 2 ^ 30) (h : ∀ σ', Fr tQ σ0 σ' → mS σ' A → mV σ' D → Q σ' (some (vI (if b = 0 then lowD (kO A D R p) 100 0 else nI (cntD (kO A D R p) 100 0))))) : ∀ (m k : Nat) (σ : qm_Sg), m + k = 100 → Fr tQ σ0 σ → mS σ A → mVp σ D p → qm_Wp (qm_M d) qk_164 Q 11 [some (vR 50 0), some (vI (nI p)), some (vI b), some (vI (D.1 p)), some (vI (nI (cntD (kO A D R p) k m))), some (vI (lowD (kO A D R p) k m)), some (vI (nI m - 1))] [] σ
  | 0, k, σ, e, f0, hs, hv => by
    have hk : k = 100 := by omega
    subst hk
    have hn6 := hs.le
    have hp6 : p < 6 := by omega
    refine qm_go 2 (fun P hP => And.intro (fun _ => hP ?_) (fun c => absurd (by decide) c))
    refine qm_go 5 (fun P hP => Exists.intro (p) (And.intro (And.intro (rfl) (hp6)) (hP ?_)))
    refine qm_go 1 (fun P hP => hP ?_)
    generalize hσ : wF _ 53 0 (upd _ p _) = σ2
    have F : Fr (fun t i j => t = 53) σ σ2 := by
      rw [← hσ]
      exact Fr.w1 rfl
    have s2 : mS σ2 A := hs.fg F (fun t i j q => by unfold pM at q; omega) (by omega)
    have v2 : mV σ2 D := by
      have v := hv.set (y := D.1 p)
      rw [hσ, oD_back] at v
      exact v
    have h := h σ2 (f0.tr (F.mono (fun t i j q => by unfold tQ; omega))) s2 v2
    refine qm_go 1 (fun P hP => And.intro (fun c33 => hP ?_) (fun c33 => hP ?_))
    · refine qm_go 2 (fun P hP => ?_)
      first
        | (rw [if_pos c33] at h; exact h)
        | (rw [if_neg c33] at h; exact h)
    · refine qm_go 3 (fun P hP => ?_)
      first
        | (rw [if_pos c33] at h; exact h)
        | (rw [if_neg c33] at h; exact h)
  | m + 1, k, σ, e, f0, hs, hv => by
    have hn6 := hs.le
    have hp6 : p < 6 := by omega
    rw [show nI (m + 1) - 1 = nI m from nI_pred _]
    have kk := m_owes_l hd hp hr hw hm h m (k + 1)
    unfold cntD lowD at kk
    refine qm_go 2 (fun P hP => And.intro (fun c => absurd c (nI_pos (by omega))) (fun _ => hP ?_))
    refine qm_go 5 (fun P hP => Exists.intro (p) (And.intro (And.intro (rfl) (hp6)) (hP ?_)))
    refine qm_go 1 (fun P hP => hP ?_)
    generalize hσ : wF _ 53 0 (upd _ p _) = σ2
    have F : Fr (fun t i j => t = 53) σ σ2 := by
      rw [← hσ]
      exact Fr.w1 rfl
    have s2 : mS σ2 A := hs.fg F (fun t i j q => by unfold pM at q; omega) (by omega)
    have v2 : mV σ2 (oD D p (nI m)) := by
      rw [← hσ]
      exact hv.set
    have F2 : Fr tQ σ0 σ2 := f0.tr (F.mono (fun t i j q => by unfold tQ; omega))
    refine qm_go 1 (fun P hP => m_isSeen (by omega) (hr.tr F2) hw s2 v2 hm (fun σ3 f3 s3 v3 z => hP ?_) (fun σ3 f3 s3 v3 z => hP ?_))
    · refine qm_go 1 (fun P hP => And.intro (fun _ => hP ?_) (fun c => absurd c (by decide)))
      refine qm_go 5 (fun P hP => hP ?_)
      rw [i_m1]
      have kk := kk σ3 (by omega) (F2.tr f3) s3 (mVp.of v3)
      first
        | (have hz : kO A D R p m = true := decide_eq_true z
           rw [if_pos hz, if_pos hz, Nat.add_comm] at kk
           rw [nI_1]
           exact kk)
        | (have hz : kO A D R p m = false := decide_eq_false z
           rw [if_neg (c := kO A D R p m = true) (by rw [hz]; decide), if_neg (c := kO A D R p m = true) (by rw [hz]; decide), Nat.zero_add] at kk
           exact kk)
    · refine qm_go 1 (fun P hP => And.intro (fun c => absurd (by decide) c) (fun _ => hP ?_))
      refine qm_go 3 (fun P hP => hP ?_)
      rw [i_m1]
      have kk := kk σ3 (by omega) (F2.tr f3) s3 (mVp.of v3)
      first
        | (have hz : kO A D R p m = true := decide_eq_true z
           rw [if_pos hz, if_pos hz, Nat.add_comm] at kk
           rw [nI_1]
           exact kk)
        | (have hz : kO A D R p m = false := decide_eq_false z
           rw [if_neg (c := kO A D R p m = true) (by rw [hz]; decide), if_neg (c := kO A D R p m = true) (by rw [hz]; decide), Nat.zero_add] at kk
           exact kk)
theorem m_owes {d : Nat} (hd : 12 ≤ d) {σ : qm_Sg} {Q : qm_Po} {A : AS} {D : DD} {R : R9} {p : Nat} {b : Int32} (hp : p < A.1) (hr : mSeen σ R) (hw : wfR A.1 R) (hm : D.2.2.2 + 20 < 2 ^ 30) (hs : mS σ A) (hv : mV σ D) (h : ∀ σ', Fr tQ σ σ' → mS σ' A → mV σ' D → Q σ' (some (vI (if b = 0 then lowD (kO A D R p) 100 0 else nI (cntD (kO A D R p) 100 0))))) : qm_M d 164 [vR 50 0, vI (nI p), vI b] σ Q := by
  obtain ⟨d, rfl, hd⟩ := qm_dn hd
  show qm_Wp (qm_M d) qk_164 Q 0 [some (vR 50 0), some (vI (nI p)), some (vI b), none, none, none, none] [] σ
  have hn6 := hs.le
  have hp6 : p < 6 := by omega
  refine qm_go 4 (fun P hP => Exists.intro (p) (And.intro (And.intro (rfl) (hp6)) (hP ?_)))
  rw [hv.o p hp6]
  refine qm_go 7 (fun P hP => hP ?_)
  exact m_owes_l (by omega) hp hr hw hm h 100 0 σ (by omega) Fr.rf hs ⟨fun j hj _ => hv.o j hj, hv.l, hv.d, hv.m⟩
theorem m_can_l {d : Nat} (hd : 11 ≤ d) {σ0 : qm_Sg} {Q : qm_Po} {A : AS} {D : DD} {R : R9} {p : Nat} {b : Int32} (hp : p < A.1) (hr : mSeen σ0 R) (hw : wfR A.1 R) (hm : D.2.2.2 + 20 < 2 ^ 30) (h : ∀ σ', Fr tR σ0 σ' → mS σ' A → mV σ' D → Q σ' (some (vI (if b = 0 then nI (cntD (kV A D R p) 10 0) else lowD (kV A D R p) 10 0)))) : ∀ (m k : Nat) (w : Int32) (σ : qm_Sg), m + k = 10 → Fr tR σ0 σ → mS σ (vA A p w) → mV σ D → qm_Wp (qm_M d) qk_166 Q 23 [some (vR 50 0), some (vI (nI p)), some (vI b), some (vI (A.2.2.1 p)), some (vI (nI (cntD (kV A D R p) k m))), some (vI (lowD (kV A D R p) k m)), some (vI (nI m - 1))] [] σ
  | 0, k, w, σ, e, f0, hs, hv => by
    have hk : k = 10 := by omega
    subst hk
    have hn6 : A.1 ≤ 6 := hs.le
    have hp6 : p < 6 := by omega
    refine qm_go 2 (fun P hP => And.intro (fun _ => hP ?_) (fun c => absurd (by decide) c))
    refine qm_go 5 (fun P hP => Exists.intro (p) (And.intro (And.intro (rfl) (hp6)) (hP ?_)))
    refine qm_go 1 (fun P hP => hP ?_)
    generalize hσ : wF _ 52 0 (upd _ p _) = σ2
    have F : Fr (fun t i j => t = 52) σ σ2 := by
      rw [← hσ]
      exact Fr.w1 rfl
    have s2 : mS σ2 A := by
      rw [← hσ]
      refine hs.v (vv' := A.2.2.1) (fun j hj => ?_)
      by_cases ej : j = p
      · rw [ej, upd_same]
      · rw [upd_ne ej]; exact upd_ne ej
    have v2 : mV σ2 D := hv.fg F (fun t i j q => by omega)
    have h := h σ2 (f0.tr (F.mono (fun t i j q => Or.inl q))) s2 v2
    refine qm_go 1 (fun P hP => And.intro (fun c45 => hP ?_) (fun c45 => hP ?_))
    · refine qm_go 2 (fun P hP => ?_)
      first
        | (rw [if_neg c45] at h; exact h)
        | (rw [if_pos c45] at h; exact h)
    · refine qm_go 3 (fun P hP => ?_)
      first
        | (rw [if_neg c45] at h; exact h)
        | (rw [if_pos c45] at h; exact h)
  | m + 1, k, w, σ, e, f0, hs, hv => by
    have hn6 : A.1 ≤ 6 := hs.le
    have hp6 : p < 6 := by omega
    rw [show nI (m + 1) - 1 = nI m from nI_pred _]
    have kk := m_can_l hd hp hr hw hm h m (k + 1) (nI m)
    unfold cntD lowD at kk
    refine qm_go 2 (fun P hP => And.intro (fun c => absurd c (nI_pos (by omega))) (fun _ => hP ?_))
    refine qm_go 5 (fun P hP => Exists.intro (p) (And.intro (And.intro (rfl) (hp6)) (hP ?_)))
    refine qm_go 1 (fun P hP => hP ?_)
    generalize hσ : wF _ 52 0 (upd _ p _) = σ2
    have F : Fr (fun t i j => t = 52) σ σ2 := by
      rw [← hσ]
      exact Fr.w1 rfl
    have s2 : mS σ2 (vA A p (nI m)) := by
      rw [← hσ]
      refine hs.v (vv' := upd A.2.2.1 p (nI m)) (fun j hj => ?_)
      by_cases ej : j = p
      · rw [ej, upd_same, upd_same]
      · rw [upd_ne ej, upd_ne ej]; exact upd_ne ej
    have v2 : mV σ2 D := hv.fg F (fun t i j q => by omega)
    have F2 : Fr tR σ0 σ2 := f0.tr (F.mono (fun t i j q => Or.inl q))
    refine qm_go 1 (fun P hP => m_isSeen (A := vA A p (nI m)) (D := D) (by omega) (hr.tr2 F2) hw s2 v2 hm (fun σ3 f3 s3 v3 z => hP ?_) (fun σ3 f3 s3 v3 z => hP ?_))
    · refine qm_go 1 (fun P hP => And.intro (fun _ => hP ?_) (fun c => absurd c (by decide)))
      refine qm_go 5 (fun P hP => hP ?_)
      rw [i_m1]
      have kk := kk σ3 (by omega) (F2.tr (f3.mono (fun _ _ _ q => Or.inr q))) s3 v3
      first
        | (have hz : kV A D R p m = true := decide_eq_true z
           rw [if_pos hz, if_pos hz, Nat.add_comm] at kk
           rw [nI_1]
           exact kk)
        | (have hz : kV A D R p m = false := decide_eq_false z
           rw [if_neg (c := kV A D R p m = true) (by rw [hz]; decide), if_neg (c := kV A D R p m = true) (by rw [hz]; decide), Nat.zero_add] at kk
           exact kk)
    · refine qm_go 1 (fun P hP => And.intro (fun c => absurd (by decide) c) (fun _ => hP ?_))
      refine qm_go 3 (fun P hP => hP ?_)
      rw [i_m1]
      have kk := kk σ3 (by omega) (F2.tr (f3.mono (fun _ _ _ q => Or.inr q))) s3 v3
      first
        | (have hz : kV A D R p m = true := decide_eq_true z
           rw [if_pos hz, if_pos hz, Nat.add_comm] at kk
           rw [nI_1]
           exact kk)
        | (have hz : kV A D R p m = false := decide_eq_false z
           rw [if_neg (c := kV A D R p m = true) (by rw [hz]; decide), if_neg (c := kV A D R p m = true) (by rw [hz]; decide), Nat.zero_add] at kk
           exact kk)
