def ofV (A : AS) (D : DD) (R : R9) (s w : Int32) : Int32 := if inP s A.1 then
    (if w = 0 then A.2.1 (tN s) else if w = 1 then A.2.2.1 (tN s) else if w = 2 then D.1 (tN s) else if w = 3 then D.2.1 (tN s)
    else if w = 4 then (if isAw (awO A) (tN s) then 1 else 0)
    else if w = 5 then urgD A.2.1 A.2.2.1 A.2.2.2.1 D (tN s) (A.2.2.2.2.2.1 (fxD A.2.1 A.2.2.1 D (tN s)))
    else if w = 6 then (if isAw (awO A) (tN s) then -5 else nxI (nxtA (awO A) (A.1 - (tN s + 1)) (tN s + 1)))
    else if w = 7 then nI (cntD (kO A D R (tN s)) 100 0) else if w = 8 then lowD (kO A D R (tN s)) 100 0 else -10001) else -10001
def ofW (A : AS) (D : DD) (R : R9) (p : Nat) (w : Int32) : Int32 :=
    if w = 0 then A.2.1 p else if w = 1 then A.2.2.1 p else if w = 2 then D.1 p else if w = 3 then D.2.1 p
    else if w = 4 then (if isAw (awO A) p then 1 else 0)
    else if w = 5 then urgD A.2.1 A.2.2.1 A.2.2.2.1 D p (A.2.2.2.2.2.1 (fxD A.2.1 A.2.2.1 D p))
    else if w = 6 then (if isAw (awO A) p then -5 else nxI (nxtA (awO A) (A.1 - (p + 1)) (p + 1)))
    else if w = 7 then nI (cntD (kO A D R p) 100 0) else if w = 8 then lowD (kO A D R p) 100 0 else -10001
theorem of_1 {A : AS} {D : DD} {R : R9} {s w : Int32} (h : ¬ inR s A.1) : ofV A D R s w = -10001 := if_neg h
theorem of_2 {A : AS} {D : DD} {R : R9} {p : Nat} {w : Int32} (hn : A.1 ≤ 6) (hp : p < A.1) : ofV A D R (nI p) w = ofW A D R p w := by
  have hi : inP (nI p) A.1 := ⟨p, hp, rfl⟩
  unfold ofV ofW
  rw [if_pos hi, tN_nI (show p < 2 ^ 31 by omega)]
theorem c_urgA {d : Nat} (hd : 4 ≤ d) {σ : qm_Sg} {Q : qm_Po} {X p : Nat} {A : AS} {D : DD} (hs : cS X σ A) (hv : cV X σ D) (hp : p < A.1) (hm : D.2.2.2 < 2 ^ 30) (h : ∀ σ', Fr (fun t _ _ => t = 33) σ σ' → Q σ' (some (vI (urgD A.2.1 A.2.2.1 A.2.2.2.1 D p (A.2.2.2.2.2.1 (fxD A.2.1 A.2.2.1 D p)))))) : qm_M d 28 [vR 10 X, vI (nI p)] σ Q := by
  obtain ⟨kd, vv, rw9, h1, h2, h3, h4⟩ := id hs
  obtain ⟨E, e1, e2⟩ := hv
  have hp6 : p < 6 := by have := hs.le; omega
  refine c_urgeOf hd h4 e1 hp (by rw [e2.m]; exact hm) (fun σ' f => ?_)
  rw [fxD_cg hp6 h1 h2 e2, urgD_cg hp6 h1 h2 h3 e2]
  exact h σ' f
theorem m_urgA {d : Nat} (hd : 6 ≤ d) {σ : qm_Sg} {Q : qm_Po} {p : Nat} {A : AS} {D : DD} (hs : mS σ A) (hv : mV σ D) (hp : p < A.1) (hm : D.2.2.2 < 2 ^ 30) (h : ∀ σ', Fr (fun t _ _ => t = 65) σ σ' → Q σ' (some (vI (urgD A.2.1 A.2.2.1 A.2.2.2.1 D p (A.2.2.2.2.2.1 (fxD A.2.1 A.2.2.1 D p)))))) : qm_M d 144 [vR 50 0, vI (nI p)] σ Q := by
  obtain ⟨kd, vv, rw9, h1, h2, h3, h4⟩ := id hs
  obtain ⟨E, e1, e2⟩ := hv
  have hp6 : p < 6 := by have := hs.le; omega
  refine m_urge hd h4 e1 hp (by rw [e2.m]; exact hm) (fun σ' f => ?_)
  rw [fxD_cg hp6 h1 h2 e2, urgD_cg hp6 h1 h2 h3 e2]
  exact h σ' f
def canV (A : AS) (D : DD) (R : R9) (s w : Int32) : Int32 := if inP s A.1 ∧ inP w 2 then (if w = 0 then nI (cntD (kV A D R (tN s)) 10 0) else lowD (kV A D R (tN s)) 10 0) else -1
theorem can_1 {A : AS} {D : DD} {R : R9} {s w : Int32} (h : ¬ (inR s A.1 ∧ inR w 2)) : canV A D R s w = -1 := if_neg h
theorem can_2 {A : AS} {D : DD} {R : R9} {p : Nat} {w : Int32} (hn : A.1 ≤ 6) (hp : p < A.1) (hw : inR w 2) : canV A D R (nI p) w = (if w = 0 then nI (cntD (kV A D R p) 10 0) else lowD (kV A D R p) 10 0) := by
  have hi : inP (nI p) A.1 ∧ inP w 2 := ⟨⟨p, hp, rfl⟩, hw⟩
  unfold canV
  rw [if_pos hi, tN_nI (show p < 2 ^ 31 by omega)]
theorem c_of {d : Nat} (hd : 9 ≤ d) {σ : qm_Sg} {Q : qm_Po} {A : AS} {D : DD} {R : R9} {s w : Int32} (hr : cSeen σ R) (hw : wfR A.1 R) (hs : cS 0 σ A) (hv : cV 0 σ D) (hm : D.2.2.2 + 20 < 2 ^ 30) (h : ∀ σ', Fr tT σ σ' → Q σ' (some (vI (ofV A D R s w)))) : qm_M d 65 [vR 0 0, vI s, vI w] σ Q := by
  obtain ⟨d, rfl, hd⟩ := qm_dn hd
  show qm_Wp (qm_M d) qk_65 Q 0 [some (vR 0 0), some (vI s), some (vI w)] [] σ
  refine qm_go 4 (fun P hP => c_has (by omega) (Nat.lt_of_le_of_lt hs.le (by decide)) hs.n (fun ch => hP ?_) (fun ch => hP ?_))
  · refine qm_go 1 (fun P hP => And.intro (fun _ => hP ?_) (fun c => absurd c (by decide)))
    refine qm_go 1 (fun P hP => hP ?_)
    obtain ⟨p, hp, rfl⟩ := ch
    have hn6 := hs.le
    have hp6 : p < 6 := by omega
    rw [of_2 hn6 hp] at h
    refine qm_go 1 (fun P hP => And.intro (fun c8_0 => hP ?_) (fun n8_0 => And.intro (fun c8_1 => hP ?_) (fun n8_1 => And.intro (fun c8_2 => hP ?_) (fun n8_2 => And.intro (fun c8_3 => hP ?_) (fun n8_3 => And.intro (fun c8_4 => hP ?_) (fun n8_4 => And.intro (fun c8_5 => hP ?_) (fun n8_5 => And.intro (fun c8_6 => hP ?_) (fun n8_6 => And.intro (fun c8_7 => hP ?_) (fun n8_7 => And.intro (fun c8_8 => hP ?_) (fun n8_8 => hP ?_))))))))))
    · refine qm_go 5 (fun P hP => Exists.intro (p) (And.intro (And.intro (rfl) (hp6)) (hP ?_)))
      rw [hs.kd p hp6]
      refine qm_go 1 (fun P hP => ?_)
      unfold ofW at h
      rw [if_pos c8_0] at h
      exact h σ Fr.rf
    · refine qm_go 5 (fun P hP => Exists.intro (p) (And.intro (And.intro (rfl) (hp6)) (hP ?_)))
      rw [hs.vv p hp6]
      refine qm_go 1 (fun P hP => ?_)
      unfold ofW at h
      rw [if_neg n8_0, if_pos c8_1] at h
      exact h σ Fr.rf
    · refine qm_go 5 (fun P hP => Exists.intro (p) (And.intro (And.intro (rfl) (hp6)) (hP ?_)))
      rw [hv.o p hp6]
      refine qm_go 1 (fun P hP => ?_)
      unfold ofW at h
      rw [if_neg n8_0, if_neg n8_1, if_pos c8_2] at h
      exact h σ Fr.rf
    · refine qm_go 5 (fun P hP => Exists.intro (p) (And.intro (And.intro (rfl) (hp6)) (hP ?_)))
      rw [hv.l p hp6]
      refine qm_go 1 (fun P hP => ?_)
      unfold ofW at h
      rw [if_neg n8_0, if_neg n8_1, if_neg n8_2, if_pos c8_3] at h
      exact h σ Fr.rf
    · refine qm_go 4 (fun P hP => c_isAway (by omega) (fun ca => hP ?_) (fun ca => hP ?_))
      · refine qm_go 1 (fun P hP => And.intro (fun c => absurd c (by decide)) (fun _ => hP ?_))
        refine qm_go 3 (fun P hP => ?_)
        unfold ofW at h
        rw [if_neg n8_0, if_neg n8_1, if_neg n8_2, if_neg n8_3, if_pos c8_4] at h
        rw [hs.aw] at ca
        first
          | (rw [if_pos ca] at h
             exact h σ Fr.rf)
          | (rw [if_neg ca] at h
             exact h σ Fr.rf)
      · refine qm_go 1 (fun P hP => And.intro (fun _ => hP ?_) (fun c => absurd (by decide) c))
        refine qm_go 2 (fun P hP => ?_)
        unfold ofW at h
        rw [if_neg n8_0, if_neg n8_1, if_neg n8_2, if_neg n8_3, if_pos c8_4] at h
        rw [hs.aw] at ca
        first
          | (rw [if_pos ca] at h
             exact h σ Fr.rf)
          | (rw [if_neg ca] at h
             exact h σ Fr.rf)
    · refine qm_go 4 (fun P hP => c_urgA (by omega) hs hv hp (by omega) (fun σ1 f1 => hP ?_))
      refine qm_go 1 (fun P hP => ?_)
      unfold ofW at h
      rw [if_neg n8_0, if_neg n8_1, if_neg n8_2, if_neg n8_3, if_neg n8_4, if_pos c8_5] at h
      exact h σ1 (f1.mono (fun t i j q => Or.inl q))
    · refine qm_go 4 (fun P hP => c_isAway (by omega) (fun ca => hP ?_) (fun ca => hP ?_))
      · refine qm_go 1 (fun P hP => And.intro (fun c => absurd c (by decide)) (fun _ => hP ?_))
        refine qm_go 3 (fun P hP => ?_)
        unfold ofW at h
        rw [if_neg n8_0, if_neg n8_1, if_neg n8_2, if_neg n8_3, if_neg n8_4, if_neg n8_5, if_pos c8_6] at h
        rw [hs.aw] at ca
        first
          | (rw [if_pos ca] at h
             exact h σ Fr.rf)
          | (rw [if_neg ca] at h
             exact h σ Fr.rf)
      · refine qm_go 1 (fun P hP => And.intro (fun _ => hP ?_) (fun c => absurd (by decide) c))
        refine qm_go 4 (fun P hP => c_nextOf (by omega) hn6 hp hs.n hs.aw (hP ?_))
        refine qm_go 1 (fun P hP => ?_)
        unfold ofW at h
        rw [if_neg n8_0, if_neg n8_1, if_neg n8_2, if_neg n8_3, if_neg n8_4, if_neg n8_5, if_pos c8_6] at h
        rw [hs.aw] at ca
        first
          | (rw [if_pos ca] at h
             exact h σ Fr.rf)
          | (rw [if_neg ca] at h
             exact h σ Fr.rf)
    · refine qm_go 5 (fun P hP => c_fitO (by omega) hp hr hw hs hv hm (fun σ1 f1 => hP ?_))
      refine qm_go 1 (fun P hP => ?_)
      unfold ofW at h
      rw [if_neg n8_0, if_neg n8_1, if_neg n8_2, if_neg n8_3, if_neg n8_4, if_neg n8_5, if_neg n8_6, if_pos c8_7] at h
      exact h σ1 f1
    · refine qm_go 5 (fun P hP => c_fitO (by omega) hp hr hw hs hv hm (fun σ1 f1 => hP ?_))
      refine qm_go 1 (fun P hP => ?_)
      unfold ofW at h
      rw [if_neg n8_0, if_neg n8_1, if_neg n8_2, if_neg n8_3, if_neg n8_4, if_neg n8_5, if_neg n8_6, if_neg n8_7, if_pos c8_8] at h
      exact h σ1 f1
    · refine qm_go 2 (fun P hP => ?_)
      unfold ofW at h
      rw [if_neg n8_0, if_neg n8_1, if_neg n8_2, if_neg n8_3, if_neg n8_4, if_neg n8_5, if_neg n8_6, if_neg n8_7, if_neg n8_8] at h
      exact h σ Fr.rf
  · refine qm_go 1 (fun P hP => And.intro (fun c => absurd (by decide) c) (fun _ => hP ?_))
    refine qm_go 2 (fun P hP => ?_)
    rw [of_1 ch] at h
    exact h σ Fr.rf
theorem m_of {d : Nat} (hd : 13 ≤ d) {σ : qm_Sg} {Q : qm_Po} {A : AS} {D : DD} {R : R9} {s w : Int32} (hr : mSeen σ R) (hw : wfR A.1 R) (hs : mS σ A) (hv : mV σ D) (hm : D.2.2.2 + 20 < 2 ^ 30) (h : ∀ σ', Fr tQ σ σ' → mS σ' A → mV σ' D → Q σ' (some (vI (ofV A D R s w)))) : qm_M d 165 [vR 50 0, vI s, vI w] σ Q := by
  obtain ⟨d, rfl, hd⟩ := qm_dn hd
  show qm_Wp (qm_M d) qk_165 Q 0 [some (vR 50 0), some (vI s), some (vI w)] [] σ
  refine qm_go 3 (fun P hP => m_isOne (by omega) (Nat.lt_of_le_of_lt hs.le (by decide)) hs.n (fun ch => hP ?_) (fun ch => hP ?_))
  · refine qm_go 1 (fun P hP => And.intro (fun _ => hP ?_) (fun c => absurd c (by decide)))
    refine qm_go 1 (fun P hP => hP ?_)
    obtain ⟨p, hp, rfl⟩ := ch
    have hn6 := hs.le
    have hp6 : p < 6 := by omega
    rw [of_2 hn6 hp] at h
    refine qm_go 1 (fun P hP => And.intro (fun c7_0 => hP ?_) (fun n7_0 => And.intro (fun c7_1 => hP ?_) (fun n7_1 => And.intro (fun c7_2 => hP ?_) (fun n7_2 => And.intro (fun c7_3 => hP ?_) (fun n7_3 => And.intro (fun c7_4 => hP ?_) (fun n7_4 => And.intro (fun c7_5 => hP ?_) (fun n7_5 => And.intro (fun c7_6 => hP ?_) (fun n7_6 => And.intro (fun c7_7 => hP ?_) (fun n7_7 => And.intro (fun c7_8 => hP ?_) (fun n7_8 => hP ?_))))))))))
    · refine qm_go 4 (fun P hP => Exists.intro (p) (And.intro (And.intro (rfl) (hp6)) (hP ?_)))
      rw [hs.kd p hp6]
      refine qm_go 1 (fun P hP => ?_)
      unfold ofW at h
      rw [if_pos c7_0] at h
      exact h σ Fr.rf hs hv
    · refine qm_go 4 (fun P hP => Exists.intro (p) (And.intro (And.intro (rfl) (hp6)) (hP ?_)))
      rw [hs.vv p hp6]
      refine qm_go 1 (fun P hP => ?_)
      unfold ofW at h
      rw [if_neg n7_0, if_pos c7_1] at h
      exact h σ Fr.rf hs hv
    · refine qm_go 4 (fun P hP => Exists.intro (p) (And.intro (And.intro (rfl) (hp6)) (hP ?_)))
      rw [hv.o p hp6]
      refine qm_go 1 (fun P hP => ?_)
      unfold ofW at h
      rw [if_neg n7_0, if_neg n7_1, if_pos c7_2] at h
      exact h σ Fr.rf hs hv
    · refine qm_go 4 (fun P hP => Exists.intro (p) (And.intro (And.intro (rfl) (hp6)) (hP ?_)))
      rw [hv.l p hp6]
      refine qm_go 1 (fun P hP => ?_)
      unfold ofW at h
      rw [if_neg n7_0, if_neg n7_1, if_neg n7_2, if_pos c7_3] at h
      exact h σ Fr.rf hs hv
    · refine qm_go 5 (fun P hP => m_has (by omega) (fun ca => hP ?_) (fun ca => hP ?_))
      · refine qm_go 1 (fun P hP => And.intro (fun c => absurd c (by decide)) (fun _ => hP ?_))
        refine qm_go 3 (fun P hP => ?_)
        unfold ofW at h
        rw [if_neg n7_0, if_neg n7_1, if_neg n7_2, if_neg n7_3, if_pos c7_4] at h
        rw [hs.aw] at ca
        first
          | (rw [if_pos ca] at h
             exact h σ Fr.rf hs hv)
          | (rw [if_neg ca] at h
             exact h σ Fr.rf hs hv)
      · refine qm_go 1 (fun P hP => And.intro (fun _ => hP ?_) (fun c => absurd (by decide) c))
        refine qm_go 2 (fun P hP => ?_)
        unfold ofW at h
        rw [if_neg n7_0, if_neg n7_1, if_neg n7_2, if_neg n7_3, if_pos c7_4] at h
        rw [hs.aw] at ca
        first
          | (rw [if_pos ca] at h
             exact h σ Fr.rf hs hv)
          | (rw [if_neg ca] at h
             exact h σ Fr.rf hs hv)
    · refine qm_go 3 (fun P hP => m_urgA (by omega) hs hv hp (by omega) (fun σ1 f1 => hP ?_))
      refine qm_go 1 (fun P hP => ?_)
      unfold ofW at h
      rw [if_neg n7_0, if_neg n7_1, if_neg n7_2, if_neg n7_3, if_neg n7_4, if_pos c7_5] at h
      exact h σ1 (f1.mono (fun t i j q => Or.inl q)) (hs.fr f1 (fun t i j q => Or.inl q)) (hv.fg f1 (fun t i j q => by omega))
    · refine qm_go 3 (fun P hP => m_chain (by omega) hn6 hp hs.n hs.aw (fun ca => hP ?_) (fun ca => hP ?_))
      · refine qm_go 1 (fun P hP => ?_)
        unfold ofW at h
        rw [if_neg n7_0, if_neg n7_1, if_neg n7_2, if_neg n7_3, if_neg n7_4, if_neg n7_5, if_pos c7_6] at h
        first
          | (rw [if_pos ca] at h
             exact h σ Fr.rf hs hv)
          | (rw [if_neg ca] at h
             exact h σ Fr.rf hs hv)
      · refine qm_go 1 (fun P hP => ?_)
        unfold ofW at h
        rw [if_neg n7_0, if_neg n7_1, if_neg n7_2, if_neg n7_3, if_neg n7_4, if_neg n7_5, if_pos c7_6] at h
        first
          | (rw [if_pos ca] at h
             exact h σ Fr.rf hs hv)
          | (rw [if_neg ca] at h
             exact h σ Fr.rf hs hv)
    · refine qm_go 4 (fun P hP => m_owes (by omega) hp hr hw hm hs hv (fun σ1 f1 s1 v1 => hP ?_))
      refine qm_go 1 (fun P hP => ?_)
      unfold ofW at h
      rw [if_neg n7_0, if_neg n7_1, if_neg n7_2, if_neg n7_3, if_neg n7_4, if_neg n7_5, if_neg n7_6, if_pos c7_7] at h
      exact h σ1 f1 s1 v1
    · refine qm_go 4 (fun P hP => m_owes (by omega) hp hr hw hm hs hv (fun σ1 f1 s1 v1 => hP ?_))
      refine qm_go 1 (fun P hP => ?_)
      unfold ofW at h
      rw [if_neg n7_0, if_neg n7_1, if_neg n7_2, if_neg n7_3, if_neg n7_4, if_neg n7_5, if_neg n7_6, if_neg n7_7, if_pos c7_8] at h
      exact h σ1 f1 s1 v1
    · refine qm_go 2 (fun P hP => ?_)
      unfold ofW at h
      rw [if_neg n7_0, if_neg n7_1, if_neg n7_2, if_neg n7_3, if_neg n7_4, if_neg n7_5, if_neg n7_6, if_neg n7_7, if_neg n7_8] at h
      exact h σ Fr.rf hs hv
  · refine qm_go 1 (fun P hP => And.intro (fun c => absurd (by decide) c) (fun _ => hP ?_))
    refine qm_go 2 (fun P hP => ?_)
    rw [of_1 ch] at h
    exact h σ Fr.rf hs hv
theorem c_can {d : Nat} (hd : 9 ≤ d) {σ : qm_Sg} {Q : qm_Po} {A : AS} {D : DD} {R : R9} {s w : Int32} (hr : cSeen σ R) (hw : wfR A.1 R) (hs : cS 0 σ A) (hv : cV 0 σ D) (hm : D.2.2.2 + 20 < 2 ^ 30) (h : ∀ σ', Fr tT σ σ' → Q σ' (some (vI (canV A D R s w)))) : qm_M d 78 [vR 0 0, vI s, vI w] σ Q := by
  obtain ⟨d, rfl, hd⟩ := qm_dn hd
  show qm_Wp (qm_M d) qk_78 Q 0 [some (vR 0 0), some (vI s), some (vI w)] [] σ
  refine qm_go 4 (fun P hP => c_has (by omega) (Nat.lt_of_le_of_lt hs.le (by decide)) hs.n (fun ch => hP ?_) (fun ch => hP ?_))
  · refine qm_go 1 (fun P hP => And.intro (fun c => absurd c (by decide)) (fun _ => hP ?_))
    refine qm_go 2 (fun P hP => And.intro (fun c6 => hP ?_) (fun c6 => hP ?_))
    · obtain ⟨p, hp, rfl⟩ := ch
      have hn6 := hs.le
      have cw : inR w 2 := by
        first
          | exact ⟨0, by decide, c6⟩
          | exact ⟨1, by decide, c9⟩
      rw [can_2 hn6 hp cw] at h
      by_cases w0 : w = 0
      · subst w0
        refine qm_go 6 (fun P hP => And.intro (fun _ => hP ?_) (fun c => absurd c (by decide)))
        refine qm_go 2 (fun P hP => c_fitV (by omega) hp hr hw hs hv hm (fun σ1 f1 => hP ?_))
        refine qm_go 1 (fun P hP => h σ1 f1)
      · have w1 : w = 1 := by
          obtain ⟨q, hq, e⟩ := cw
          rcases (show q = 0 ∨ q = 1 by omega) with rfl | rfl
          · exact absurd e w0
          · exact e
        subst w1
        refine qm_go 6 (fun P hP => And.intro (fun c => absurd rfl c) (fun _ => hP ?_))
        refine qm_go 3 (fun P hP => c_fitV (by omega) hp hr hw hs hv hm (fun σ1 f1 => hP ?_))
        refine qm_go 1 (fun P hP => h σ1 f1)
    · refine qm_go 3 (fun P hP => And.intro (fun c9 => hP ?_) (fun c9 => hP ?_))
      · obtain ⟨p, hp, rfl⟩ := ch
        have hn6 := hs.le
        have cw : inR w 2 := by
          first
            | exact ⟨0, by decide, c6⟩
            | exact ⟨1, by decide, c9⟩
        rw [can_2 hn6 hp cw] at h
        by_cases w0 : w = 0
        · subst w0
          refine qm_go 6 (fun P hP => And.intro (fun _ => hP ?_) (fun c => absurd c (by decide)))
          refine qm_go 2 (fun P hP => c_fitV (by omega) hp hr hw hs hv hm (fun σ1 f1 => hP ?_))
          refine qm_go 1 (fun P hP => h σ1 f1)
        · have w1 : w = 1 := by
            obtain ⟨q, hq, e⟩ := cw
            rcases (show q = 0 ∨ q = 1 by omega) with rfl | rfl
            · exact absurd e w0
            · exact e
          subst w1
          refine qm_go 6 (fun P hP => And.intro (fun c => absurd rfl c) (fun _ => hP ?_))
          refine qm_go 3 (fun P hP => c_fitV (by omega) hp hr hw hs hv hm (fun σ1 f1 => hP ?_))
          refine qm_go 1 (fun P hP => h σ1 f1)
      · refine qm_go 2 (fun P hP => ?_)
        first
          | (have hz : ¬ (inR s A.1 ∧ inR w 2) := fun z => in2 c6 c9 z.2
             rw [can_1 hz] at h
             exact h σ Fr.rf)
          | (have hz : ¬ (inR s A.1 ∧ inR w 2) := fun z => ch z.1
             rw [can_1 hz] at h
             exact h σ Fr.rf)
  · refine qm_go 1 (fun P hP => And.intro (fun _ => hP ?_) (fun c => absurd (by decide) c))
    refine qm_go 2 (fun P hP => ?_)
    first
      | (have hz : ¬ (inR s A.1 ∧ inR w 2) := fun z => in2 c6 c9 z.2
         rw [can_1 hz] at h
         exact h σ Fr.rf)
      | (have hz : ¬ (inR s A.1 ∧ inR w 2) := fun z => ch z.1
         rw [can_1 hz] at h
         exact h σ Fr.rf)
theorem m_can {d : Nat} (hd : 12 ≤ d) {σ : qm_Sg} {Q : qm_Po} {A : AS} {D : DD} {R : R9} {s w : Int32} (hr : mSeen σ R) (hw : wfR A.1 R) (hs : mS σ A) (hv : mV σ D) (hm : D.2.2.2 + 20 < 2 ^ 30) (h : ∀ σ', Fr tR σ σ' → mS σ' A → mV σ' D → Q σ' (some (vI (canV A D R s w)))) : qm_M d 166 [vR 50 0, vI s, vI w] σ Q := by
  obtain ⟨d, rfl, hd⟩ := qm_dn hd
  show qm_Wp (qm_M d) qk_166 Q 0 [some (vR 50 0), some (vI s), some (vI w), none, none, none, none] [] σ
  refine qm_go 3 (fun P hP => m_isOne (by omega) (Nat.lt_of_le_of_lt hs.le (by decide)) hs.n (fun ch => hP ?_) (fun ch => hP ?_))
  · refine qm_go 1 (fun P hP => And.intro (fun c => absurd c (by decide)) (fun _ => hP ?_))
    refine qm_go 5 (fun P hP => m_inR 2 (by decide) rfl (hd := by omega) (fun cw => hP ?_) (fun cw => hP ?_))
    · refine qm_go 1 (fun P hP => And.intro (fun _ => hP ?_) (fun c => absurd c (by decide)))
      refine qm_go 1 (fun P hP => hP ?_)
      obtain ⟨p, hp, rfl⟩ := ch
      have hn6 := hs.le
      have hp6 : p < 6 := by omega
      rw [can_2 hn6 hp cw] at h
      refine qm_go 3 (fun P hP => Exists.intro (p) (And.intro (And.intro (rfl) (hp6)) (hP ?_)))
      rw [hs.vv p hp6]
      refine qm_go 7 (fun P hP => hP ?_)
      refine m_can_l (by omega) hp hr hw hm h 10 0 (A.2.2.1 p) σ (by omega) Fr.rf ?_ hv
      have e : upd A.2.2.1 p (A.2.2.1 p) = A.2.2.1 := by
        funext j
        by_cases ej : j = p
        · rw [ej, upd_same]
        · rw [upd_ne ej]
      unfold vA
      rw [e]
      exact hs
    · refine qm_go 1 (fun P hP => And.intro (fun c => absurd (by decide) c) (fun _ => hP ?_))
      refine qm_go 2 (fun P hP => ?_)
      first
        | (have hz : ¬ (inR s A.1 ∧ inR w 2) := fun z => cw z.2
           rw [can_1 hz] at h
           exact h σ Fr.rf hs hv)
        | (have hz : ¬ (inR s A.1 ∧ inR w 2) := fun z => ch z.1
           rw [can_1 hz] at h
           exact h σ Fr.rf hs hv)
  · refine qm_go 1 (fun P hP => And.intro (fun _ => hP ?_) (fun c => absurd (by decide) c))
    refine qm_go 2 (fun P hP => ?_)
    first
      | (have hz : ¬ (inR s A.1 ∧ inR w 2) := fun z => cw z.2
         rw [can_1 hz] at h
         exact h σ Fr.rf hs hv)
      | (have hz : ¬ (inR s A.1 ∧ inR w 2) := fun z => ch z.1
         rw [can_1 hz] at h
         exact h σ Fr.rf hs hv)
