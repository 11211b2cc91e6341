theorem w_of {w : Int32} {c p : Nat} (h : w - nI c = nI p) : w = nI (p + c) := by
  have : w - nI c + nI c = w := Int32.sub_add_cancel w (nI c)
  rw [← this, h, nI_add]
theorem w_in {w : Int32} {c n : Nat} (hc : c ≤ 20) (hc0 : 0 < c) (hn : n ≤ 6) (h1 : ¬ w < nI c) (h2 : ¬ nI (c - 1) + nI n < w) : inR (w - nI c) n := by
  rw [i_lt, nI_toInt (by omega)] at h1
  rw [nI_add, i_lt, nI_toInt (by omega)] at h2
  have e : w = nI w.toInt.toNat := by
    apply i_eq.mpr
    rw [nI_toInt (by omega)]
    omega
  refine ⟨w.toInt.toNat - c, by omega, ?_⟩
  rw [← pk_sub (by omega), ← e]
theorem w_no {p n : Nat} (hp : p < 6) : ¬ inR (nI (p + 10) - nI 20) n ∨ True := Or.inr trivial
def onV (A : AS) (D : DD) (n w : Int32) : Int32 :=
  if w = 0 ∨ inP (w - 10) A.1 ∨ inP (w - 20) A.1 then
    (if inP n 61 then (if inP (w - 10) A.1 then (goA A (tN n) D).1 (tN (w - 10)) else if inP (w - 20) A.1 then (goA A (tN n) D).2.1 (tN (w - 20)) else (goA A (tN n) D).2.2.1) else -2) else -1
theorem w_ex {w : Int32} {n : Nat} (hn : n ≤ 6) (h1 : inR (w - 10) n) (h2 : inR (w - 20) n) : False := by
  obtain ⟨p, hp, e⟩ := h1
  obtain ⟨q, hq, e2⟩ := h2
  have a1 := w_of (c := 10) e
  have a2 := w_of (c := 20) e2
  rw [a1] at a2
  have := (nI_eq (by omega) (by omega)).mp a2
  omega
theorem on_nM {A : AS} {D : DD} {n w : Int32} (hw : w = 0 ∨ inR (w - 10) A.1 ∨ inR (w - 20) A.1) (hn : ¬ inR n 61) : onV A D n w = -2 := (if_pos hw).trans (if_neg hn)
theorem on_no {A : AS} {D : DD} {n w : Int32} (hw : ¬ (w = 0 ∨ inR (w - 10) A.1 ∨ inR (w - 20) A.1)) : onV A D n w = -1 := if_neg hw
theorem on_o {A : AS} {D : DD} {k : Nat} {w : Int32} (hk : k < 61) (hw : inR (w - 10) A.1) : onV A D (nI k) w = (goA A k D).1 (tN (w - 10)) := by
  unfold onV
  have hw : inP (w - 10) A.1 := hw
  rw [if_pos (Or.inr (Or.inl hw)), if_pos ⟨k, hk, rfl⟩, if_pos hw, tN_nI (by omega)]
theorem on_l {A : AS} {D : DD} {k : Nat} {w : Int32} (hk : k < 61) (h0 : ¬ inR (w - 10) A.1) (hw : inR (w - 20) A.1) : onV A D (nI k) w = (goA A k D).2.1 (tN (w - 20)) := by
  unfold onV
  have hw : inP (w - 20) A.1 := hw
  have h0 : ¬ inP (w - 10) A.1 := h0
  rw [if_pos (Or.inr (Or.inr hw)), if_pos ⟨k, hk, rfl⟩, if_neg h0, if_pos hw, tN_nI (by omega)]
theorem on_d {A : AS} {D : DD} {k : Nat} {w : Int32} (hk : k < 61) (hw : w = 0) (h0 : ¬ inR (w - 10) A.1) (h1 : ¬ inR (w - 20) A.1) : onV A D (nI k) w = (goA A k D).2.2.1 := by
  unfold onV
  have h0 : ¬ inP (w - 10) A.1 := h0
  have h1 : ¬ inP (w - 20) A.1 := h1
  rw [if_pos (Or.inl hw), if_pos ⟨k, hk, rfl⟩, if_neg h0, if_neg h1, tN_nI (by omega)]
theorem c_on {d : Nat} (hd : 7 ≤ d) {σ : qm_Sg} {Q : qm_Po} {A : AS} {D : DD} {n w : Int32} (hs : cS 0 σ A) (hv : cV 0 σ D) (hm : D.2.2.2 + 100 < 2 ^ 30) (h : ∀ σ', Fr tT σ σ' → Q σ' (some (vI (onV A D n w)))) : qm_M d 74 [vR 0 0, vI n, vI w] σ Q := by
  obtain ⟨d, rfl, hd⟩ := qm_dn hd
  show qm_Wp (qm_M d) qk_74 Q 0 [some (vR 0 0), some (vI n), some (vI w), none, none] [] σ
  have hn6 := hs.le
  by_cases hO : inR (w - 10) A.1
  · have hL : ¬ inR (w - 20) A.1 := fun z => w_ex hn6 hO z
    have w0 : ¬ w = 0 := by
      obtain ⟨p, hp, e⟩ := hO
      rw [w_of (c := 10) e]
      exact n0 (by omega) (by omega)
    have e10 : w - 10 = nI (tN (w - 10)) ∧ tN (w - 10) < A.1 := by
      obtain ⟨p, hp, e⟩ := hO
      rw [e, tN_nI (by omega)]
      exact ⟨rfl, hp⟩
    obtain ⟨e10, b10⟩ := e10
    have b10 : tN (w - 10) < 6 := by omega
    refine qm_go 6 (fun P hP => c_has (by omega) (show A.1 < 2 ^ 31 by omega) hs.n (fun _ => hP ?_) (fun z => absurd hO z))
    refine qm_go 7 (fun P hP => c_has (by omega) (show A.1 < 2 ^ 31 by omega) hs.n (fun z => absurd z hL) (fun _ => hP ?_))
    refine qm_go 3 (fun P hP => And.intro (fun c => absurd c w0) (fun _ => hP ?_))
    refine qm_go 2 (fun P hP => And.intro (fun _ => hP ?_) (fun c => absurd c (by decide)))
    refine qm_go 2 (fun P hP => And.intro (fun c23 => hP ?_) (fun c23 => hP ?_))
    · refine qm_go 2 (fun P hP => ?_)
      have h := h σ Fr.rf
      have hbn : ¬ inR n 61 := fun z => by
        have y := in_lt (n := 61) (by decide) z
        first
          | exact y.1 c23
          | exact y.2 (i_lt_of c26)
      rw [on_nM (Or.inr (Or.inl hO)) hbn] at h
      exact h
    · refine qm_go 3 (fun P hP => And.intro (fun c26 => hP ?_) (fun c26 => hP ?_))
      · refine qm_go 1 (fun P hP => hP ?_)
        obtain ⟨k, hk, rfl⟩ := inR_of' (n := 61) (by decide) c23 (i_nlt c26)
        refine qm_go 4 (fun P hP => c_takes20 (by omega) hs hv (fun σ1 f1 s1 v1 => hP ?_))
        refine qm_go 4 (fun P hP => c_goA (by omega) (show k < 2 ^ 20 by omega) s1 v1 (by omega) (fun σ2 f2 s2 v2 => hP ?_))
        refine qm_go 2 (fun P hP => And.intro (fun c => absurd c (by decide)) (fun _ => hP ?_))
        refine qm_go 7 (fun P hP => Exists.intro (tN (w - 10)) (And.intro (And.intro (e10) (b10)) (hP ?_)))
        refine qm_go 1 (fun P hP => ?_)
        have h := h σ2 ((f1.mono (fun _ _ _ q => tK_T q)).tr (f2.mono (fun _ _ _ q => tC_T q)))
        rw [on_o hk hO, ← v2.o _ b10] at h
        exact h
      · refine qm_go 2 (fun P hP => ?_)
        have h := h σ Fr.rf
        have hbn : ¬ inR n 61 := fun z => by
          have y := in_lt (n := 61) (by decide) z
          first
            | exact y.1 c23
            | exact y.2 (i_lt_of c26)
        rw [on_nM (Or.inr (Or.inl hO)) hbn] at h
        exact h
  · by_cases hL : inR (w - 20) A.1
    · have w0 : ¬ w = 0 := by
        obtain ⟨p, hp, e⟩ := hL
        rw [w_of (c := 20) e]
        exact n0 (by omega) (by omega)
      have e20 : w - 20 = nI (tN (w - 20)) ∧ tN (w - 20) < A.1 := by
        obtain ⟨p, hp, e⟩ := hL
        rw [e, tN_nI (by omega)]
        exact ⟨rfl, hp⟩
      obtain ⟨e20, b20⟩ := e20
      have b20 : tN (w - 20) < 6 := by omega
      refine qm_go 6 (fun P hP => c_has (by omega) (show A.1 < 2 ^ 31 by omega) hs.n (fun z => absurd z hO) (fun _ => hP ?_))
      refine qm_go 7 (fun P hP => c_has (by omega) (show A.1 < 2 ^ 31 by omega) hs.n (fun _ => hP ?_) (fun z => absurd hL z))
      refine qm_go 3 (fun P hP => And.intro (fun c => absurd c w0) (fun _ => hP ?_))
      refine qm_go 2 (fun P hP => And.intro (fun c => absurd rfl c) (fun _ => hP ?_))
      refine qm_go 2 (fun P hP => And.intro (fun _ => hP ?_) (fun c => absurd c (by decide)))
      refine qm_go 2 (fun P hP => And.intro (fun c23 => hP ?_) (fun c23 => hP ?_))
      · refine qm_go 2 (fun P hP => ?_)
        have h := h σ Fr.rf
        have hbn : ¬ inR n 61 := fun z => by
          have y := in_lt (n := 61) (by decide) z
          first
            | exact y.1 c23
            | exact y.2 (i_lt_of c26)
        rw [on_nM (Or.inr (Or.inr hL)) hbn] at h
        exact h
      · refine qm_go 3 (fun P hP => And.intro (fun c26 => hP ?_) (fun c26 => hP ?_))
        · refine qm_go 1 (fun P hP => hP ?_)
          obtain ⟨k, hk, rfl⟩ := inR_of' (n := 61) (by decide) c23 (i_nlt c26)
          refine qm_go 4 (fun P hP => c_takes20 (by omega) hs hv (fun σ1 f1 s1 v1 => hP ?_))
          refine qm_go 4 (fun P hP => c_goA (by omega) (show k < 2 ^ 20 by omega) s1 v1 (by omega) (fun σ2 f2 s2 v2 => hP ?_))
          refine qm_go 2 (fun P hP => And.intro (fun _ => hP ?_) (fun c => absurd rfl c))
          refine qm_go 2 (fun P hP => And.intro (fun c => absurd c (by decide)) (fun _ => hP ?_))
          refine qm_go 7 (fun P hP => Exists.intro (tN (w - 20)) (And.intro (And.intro (e20) (b20)) (hP ?_)))
          refine qm_go 2 (fun P hP => ?_)
          have h := h σ2 ((f1.mono (fun _ _ _ q => tK_T q)).tr (f2.mono (fun _ _ _ q => tC_T q)))
          rw [on_l hk hO hL, ← v2.l _ b20] at h
          exact h
        · refine qm_go 2 (fun P hP => ?_)
          have h := h σ Fr.rf
          have hbn : ¬ inR n 61 := fun z => by
            have y := in_lt (n := 61) (by decide) z
            first
              | exact y.1 c23
              | exact y.2 (i_lt_of c26)
          rw [on_nM (Or.inr (Or.inr hL)) hbn] at h
          exact h
    · by_cases w0 : w = 0
      · skip
        refine qm_go 6 (fun P hP => c_has (by omega) (show A.1 < 2 ^ 31 by omega) hs.n (fun z => absurd z hO) (fun _ => hP ?_))
        refine qm_go 7 (fun P hP => c_has (by omega) (show A.1 < 2 ^ 31 by omega) hs.n (fun z => absurd z hL) (fun _ => hP ?_))
        refine qm_go 3 (fun P hP => And.intro (fun _ => hP ?_) (fun c => absurd w0 c))
        refine qm_go 2 (fun P hP => And.intro (fun c23 => hP ?_) (fun c23 => hP ?_))
        · refine qm_go 2 (fun P hP => ?_)
          have h := h σ Fr.rf
          have hbn : ¬ inR n 61 := fun z => by
            have y := in_lt (n := 61) (by decide) z
            first
              | exact y.1 c23
              | exact y.2 (i_lt_of c26)
          rw [on_nM (Or.inl w0) hbn] at h
          exact h
        · refine qm_go 3 (fun P hP => And.intro (fun c26 => hP ?_) (fun c26 => hP ?_))
          · refine qm_go 1 (fun P hP => hP ?_)
            obtain ⟨k, hk, rfl⟩ := inR_of' (n := 61) (by decide) c23 (i_nlt c26)
            refine qm_go 4 (fun P hP => c_takes20 (by omega) hs hv (fun σ1 f1 s1 v1 => hP ?_))
            refine qm_go 4 (fun P hP => c_goA (by omega) (show k < 2 ^ 20 by omega) s1 v1 (by omega) (fun σ2 f2 s2 v2 => hP ?_))
            refine qm_go 2 (fun P hP => And.intro (fun _ => hP ?_) (fun c => absurd rfl c))
            refine qm_go 2 (fun P hP => And.intro (fun _ => hP ?_) (fun c => absurd rfl c))
            refine qm_go 4 (fun P hP => ?_)
            have h := h σ2 ((f1.mono (fun _ _ _ q => tK_T q)).tr (f2.mono (fun _ _ _ q => tC_T q)))
            rw [on_d hk w0 hO hL, ← v2.d] at h
            exact h
          · refine qm_go 2 (fun P hP => ?_)
            have h := h σ Fr.rf
            have hbn : ¬ inR n 61 := fun z => by
              have y := in_lt (n := 61) (by decide) z
              first
                | exact y.1 c23
                | exact y.2 (i_lt_of c26)
            rw [on_nM (Or.inl w0) hbn] at h
            exact h
      · skip
        refine qm_go 6 (fun P hP => c_has (by omega) (show A.1 < 2 ^ 31 by omega) hs.n (fun z => absurd z hO) (fun _ => hP ?_))
        refine qm_go 7 (fun P hP => c_has (by omega) (show A.1 < 2 ^ 31 by omega) hs.n (fun z => absurd z hL) (fun _ => hP ?_))
        refine qm_go 3 (fun P hP => And.intro (fun c => absurd c w0) (fun _ => hP ?_))
        refine qm_go 2 (fun P hP => And.intro (fun c => absurd rfl c) (fun _ => hP ?_))
        refine qm_go 2 (fun P hP => And.intro (fun c => absurd rfl c) (fun _ => hP ?_))
        refine qm_go 2 (fun P hP => ?_)
        have h := h σ Fr.rf
        rw [on_no (fun z => z.elim w0 (fun y => y.elim hO hL))] at h
        exact h
theorem w_i10 {w : Int32} {c n : Nat} (hc : c ≤ 20) (hc0 : 0 < c) (hn : n ≤ 6) (h : inR (w - nI c) n) : ¬ w < nI c ∧ ¬ nI (c - 1) + nI n < w := by
  obtain ⟨p, hp, e⟩ := h
  rw [w_of e, nI_add]
  constructor
  · rw [i_lt, nI_toInt (by omega), nI_toInt (by omega)]; omega
  · rw [i_lt, nI_toInt (by omega), nI_toInt (by omega)]; omega
theorem m_on {d : Nat} (hd : 12 ≤ d) {σ : qm_Sg} {Q : qm_Po} {A : AS} {D : DD} {n w : Int32} (hs : mS σ A) (hv : mV σ D) (hm : D.2.2.2 + 100 < 2 ^ 30) (h : ∀ σ', Fr tQ σ σ' → mS σ' A → mV σ' D → Q σ' (some (vI (onV A D n w)))) : qm_M d 156 [vR 50 0, vI n, vI w] σ Q := by
  obtain ⟨d, rfl, hd⟩ := qm_dn hd
  show qm_Wp (qm_M d) qk_156 Q 0 [some (vR 50 0), some (vI n), some (vI w), none] [] σ
  have hn6 := hs.le
  by_cases hO : inR (w - 10) A.1
  · have hL : ¬ inR (w - 20) A.1 := fun z => w_ex hn6 hO z
    have w0 : ¬ w = 0 := by
      obtain ⟨p, hp, e⟩ := hO
      rw [w_of (c := 10) e]
      exact n0 (by omega) (by omega)
    have e10 : w - 10 = nI (tN (w - 10)) ∧ tN (w - 10) < A.1 := by
      obtain ⟨p, hp, e⟩ := hO
      rw [e, tN_nI (by omega)]
      exact ⟨rfl, hp⟩
    obtain ⟨e10, b10⟩ := e10
    have b10 : tN (w - 10) < 6 := by omega
    refine qm_go 2 (fun P hP => And.intro (fun c => absurd c w0) (fun _ => hP ?_))
    refine qm_go 8 (fun P hP => m_in (by omega) (fun _ _ => hP ?_) (fun z => absurd (by rw [hs.n]; exact w_i10 (c := 10) (by omega) (by omega) hn6 hO) z))
    refine qm_go 1 (fun P hP => And.intro (fun _ => hP ?_) (fun c => absurd c (by decide)))
    refine qm_go 3 (fun P hP => m_isMornings (by omega) (fun cn => hP ?_) (fun cn => hP ?_))
    · refine qm_go 1 (fun P hP => And.intro (fun _ => hP ?_) (fun c => absurd c (by decide)))
      refine qm_go 1 (fun P hP => hP ?_)
      obtain ⟨k, hk, rfl⟩ := cn
      refine qm_go 1 (fun P hP => m_save (by omega) hs hv (fun σ1 f1 s1 v1 k1 => hP ?_))
      refine qm_go 3 (fun P hP => m_goA (by omega) (show k < 2 ^ 20 by omega) s1 v1 (by omega) (fun σ2 f2 s2 v2 => hP ?_))
      refine qm_go 2 (fun P hP => And.intro (fun _ => hP ?_) (fun c => absurd c w0))
      refine qm_go 3 (fun P hP => And.intro (fun c => absurd c (fun z => absurd z (by rw [w_of (c := 10) e10, i_le, nI_toInt (by omega)]; show ¬ ((20 : Int) ≤ ((tN (w - 10) + 10 : Nat) : Int)); omega))) (fun _ => hP ?_))
      refine qm_go 6 (fun P hP => Exists.intro (tN (w - 10)) (And.intro (And.intro (e10) (b10)) (hP ?_)))
      refine qm_go 4 (fun P hP => m_putBack (by omega) s2 (k1.fg f2 (fun t i j q => by unfold tM; omega)) (fun σ4 f4 s4 v4 => hP ?_))
      refine qm_go 2 (fun P hP => ?_)
      have h := h σ4 (((f1.mono (fun _ _ _ q => tSv_Q q)).tr (f2.mono (fun _ _ _ q => tM_Q q))).tr (f4.mono (fun _ _ _ q => tPB_Q q))) s4 v4
      rw [on_o hk hO, ← v2.o _ b10] at h
      exact h
    · refine qm_go 1 (fun P hP => And.intro (fun c => absurd (by decide) c) (fun _ => hP ?_))
      refine qm_go 2 (fun P hP => ?_)
      have h := h σ Fr.rf hs hv
      rw [on_nM (Or.inr (Or.inl hO)) cn] at h
      exact h
  · by_cases hL : inR (w - 20) A.1
    · have w0 : ¬ w = 0 := by
        obtain ⟨p, hp, e⟩ := hL
        rw [w_of (c := 20) e]
        exact n0 (by omega) (by omega)
      have e20 : w - 20 = nI (tN (w - 20)) ∧ tN (w - 20) < A.1 := by
        obtain ⟨p, hp, e⟩ := hL
        rw [e, tN_nI (by omega)]
        exact ⟨rfl, hp⟩
      obtain ⟨e20, b20⟩ := e20
      have b20 : tN (w - 20) < 6 := by omega
      refine qm_go 2 (fun P hP => And.intro (fun c => absurd c w0) (fun _ => hP ?_))
      refine qm_go 8 (fun P hP => m_in (by omega) (fun y1 y2 => absurd (w_in (c := 10) (by omega) (by omega) hn6 y1 (by rw [hs.n] at y2; exact y2)) hO) (fun _ => hP ?_))
      refine qm_go 1 (fun P hP => And.intro (fun c => absurd rfl c) (fun _ => hP ?_))
      refine qm_go 8 (fun P hP => m_in (by omega) (fun _ _ => hP ?_) (fun z => absurd (by rw [hs.n]; exact w_i10 (c := 20) (by omega) (by omega) hn6 hL) z))
      refine qm_go 1 (fun P hP => And.intro (fun _ => hP ?_) (fun c => absurd c (by decide)))
      refine qm_go 3 (fun P hP => m_isMornings (by omega) (fun cn => hP ?_) (fun cn => hP ?_))
      · refine qm_go 1 (fun P hP => And.intro (fun _ => hP ?_) (fun c => absurd c (by decide)))
        refine qm_go 1 (fun P hP => hP ?_)
        obtain ⟨k, hk, rfl⟩ := cn
        refine qm_go 1 (fun P hP => m_save (by omega) hs hv (fun σ1 f1 s1 v1 k1 => hP ?_))
        refine qm_go 3 (fun P hP => m_goA (by omega) (show k < 2 ^ 20 by omega) s1 v1 (by omega) (fun σ2 f2 s2 v2 => hP ?_))
        refine qm_go 2 (fun P hP => And.intro (fun _ => hP ?_) (fun c => absurd c w0))
        refine qm_go 3 (fun P hP => And.intro (fun _ => hP ?_) (fun c => absurd (by rw [w_of (c := 20) e20, i_le, nI_toInt (by omega)]; show ((20 : Int) ≤ ((tN (w - 20) + 20 : Nat) : Int)); omega) c))
        refine qm_go 6 (fun P hP => Exists.intro (tN (w - 20)) (And.intro (And.intro (e20) (b20)) (hP ?_)))
        refine qm_go 3 (fun P hP => m_putBack (by omega) s2 (k1.fg f2 (fun t i j q => by unfold tM; omega)) (fun σ4 f4 s4 v4 => hP ?_))
        refine qm_go 2 (fun P hP => ?_)
        have h := h σ4 (((f1.mono (fun _ _ _ q => tSv_Q q)).tr (f2.mono (fun _ _ _ q => tM_Q q))).tr (f4.mono (fun _ _ _ q => tPB_Q q))) s4 v4
        rw [on_l hk hO hL, ← v2.l _ b20] at h
        exact h
      · refine qm_go 1 (fun P hP => And.intro (fun c => absurd (by decide) c) (fun _ => hP ?_))
        refine qm_go 2 (fun P hP => ?_)
        have h := h σ Fr.rf hs hv
        rw [on_nM (Or.inr (Or.inr hL)) cn] at h
        exact h
    · by_cases w0 : w = 0
      · skip
        refine qm_go 2 (fun P hP => And.intro (fun _ => hP ?_) (fun c => absurd w0 c))
        refine qm_go 3 (fun P hP => m_isMornings (by omega) (fun cn => hP ?_) (fun cn => hP ?_))
        · refine qm_go 1 (fun P hP => And.intro (fun _ => hP ?_) (fun c => absurd c (by decide)))
          refine qm_go 1 (fun P hP => hP ?_)
          obtain ⟨k, hk, rfl⟩ := cn
          refine qm_go 1 (fun P hP => m_save (by omega) hs hv (fun σ1 f1 s1 v1 k1 => hP ?_))
          refine qm_go 3 (fun P hP => m_goA (by omega) (show k < 2 ^ 20 by omega) s1 v1 (by omega) (fun σ2 f2 s2 v2 => hP ?_))
          refine qm_go 2 (fun P hP => And.intro (fun c => absurd w0 c) (fun _ => hP ?_))
          refine qm_go 6 (fun P hP => m_putBack (by omega) s2 (k1.fg f2 (fun t i j q => by unfold tM; omega)) (fun σ4 f4 s4 v4 => hP ?_))
          refine qm_go 2 (fun P hP => ?_)
          have h := h σ4 (((f1.mono (fun _ _ _ q => tSv_Q q)).tr (f2.mono (fun _ _ _ q => tM_Q q))).tr (f4.mono (fun _ _ _ q => tPB_Q q))) s4 v4
          rw [on_d hk w0 hO hL, ← v2.d] at h
          exact h
        · refine qm_go 1 (fun P hP => And.intro (fun c => absurd (by decide) c) (fun _ => hP ?_))
          refine qm_go 2 (fun P hP => ?_)
          have h := h σ Fr.rf hs hv
          rw [on_nM (Or.inl w0) cn] at h
          exact h
      · skip
        refine qm_go 2 (fun P hP => And.intro (fun c => absurd c w0) (fun _ => hP ?_))
        refine qm_go 8 (fun P hP => m_in (by omega) (fun y1 y2 => absurd (w_in (c := 10) (by omega) (by omega) hn6 y1 (by rw [hs.n] at y2; exact y2)) hO) (fun _ => hP ?_))
        refine qm_go 1 (fun P hP => And.intro (fun c => absurd rfl c) (fun _ => hP ?_))
        refine qm_go 8 (fun P hP => m_in (by omega) (fun y1 y2 => absurd (w_in (c := 20) (by omega) (by omega) hn6 y1 (by rw [hs.n] at y2; exact y2)) hL) (fun _ => hP ?_))
        refine qm_go 1 (fun P hP => And.intro (fun c => absurd rfl c) (fun _ => hP ?_))
        refine qm_go 2 (fun P hP => ?_)
        have h := h σ Fr.rf hs hv
        rw [on_no (fun z => z.elim w0 (fun y => y.elim hO hL))] at h
        exact h
