def traceV (l : List Nat) (i : Int32) : Int32 := if inP i 20 then (match l[tN i]? with | some b => nI b | none => -1) else -1
theorem trace_1 {l : List Nat} {i : Int32} (h : ¬ inR i 20) : traceV l i = -1 := if_neg h
theorem trace_2 {l : List Nat} {k : Nat} (h : k < 20) (h2 : l.length ≤ k) : traceV l (nI k) = -1 := by
  have hi : inP (nI k) 20 := ⟨k, h, rfl⟩
  unfold traceV
  rw [if_pos hi, tN_nI (show k < 2 ^ 31 by omega), List.getElem?_eq_none h2]
theorem trace_3 {l : List Nat} {k b : Nat} (h : k < 20) (h2 : l[k]? = some b) : traceV l (nI k) = nI b := by
  have hi : inP (nI k) 20 := ⟨k, h, rfl⟩
  unfold traceV
  rw [if_pos hi, tN_nI (show k < 2 ^ 31 by omega), h2]
theorem m_trace {d : Nat} (hd : 2 ≤ d) {σ : qm_Sg} {Q : qm_Po} {l : List Nat} {i : Int32} (ht : mTr σ l) (hl : l.length < 1000) (h : Q σ (some (vI (traceV l i)))) : qm_M d 188 [vR 50 0, vI i] σ Q := by
  obtain ⟨d, rfl, hd⟩ := qm_dn hd
  show qm_Wp (qm_M d) qk_188 Q 0 [some (vR 50 0), some (vI i)] [] σ
  refine qm_go 5 (fun P hP => m_inR 20 (by decide) rfl (hd := by omega) (fun ci => hP ?_) (fun ci => hP ?_))
  · refine qm_go 1 (fun P hP => And.intro (fun c => absurd c (by decide)) (fun _ => hP ?_))
    refine qm_go 1 (fun P hP => hP ?_)
    obtain ⟨k, hk, rfl⟩ := ci
    refine qm_go 3 (fun P hP => And.intro (fun c9 => hP ?_) (fun c9 => hP ?_))
    · refine qm_go 2 (fun P hP => ?_)
      first
        | (rw [trace_1 ci] at h
           exact h)
        | (rw [ht.1] at c9
           have hkl : l.length ≤ k := by
             have := i_le.mp c9
             rw [nI_toInt (by omega), nI_toInt (by omega)] at this
             omega
           rw [trace_2 hk hkl] at h
           exact h)
        | exact h
    · refine qm_go 1 (fun P hP => hP ?_)
      rw [ht.1] at c9
      have hkl : k < l.length := by
        have := i_lt.mp (i_lt_of c9)
        rw [nI_toInt (by omega), nI_toInt (by omega)] at this
        omega
      have hb : l[k]? = some l[k] := List.getElem?_eq_getElem hkl
      rw [trace_3 hk hb] at h
      refine qm_go 3 (fun P hP => Exists.intro (k) (And.intro (And.intro (rfl) (hk)) (hP ?_)))
      rw [ht.2 k _ hb hk]
      refine qm_go 2 (fun P hP => ?_)
      first
        | (rw [trace_1 ci] at h
           exact h)
        | (rw [ht.1] at c9
           have hkl : l.length ≤ k := by
             have := i_le.mp c9
             rw [nI_toInt (by omega), nI_toInt (by omega)] at this
             omega
           rw [trace_2 hk hkl] at h
           exact h)
        | exact h
  · refine qm_go 1 (fun P hP => And.intro (fun _ => hP ?_) (fun c => absurd (by decide) c))
    refine qm_go 2 (fun P hP => ?_)
    first
      | (rw [trace_1 ci] at h
         exact h)
      | (rw [ht.1] at c9
         have hkl : l.length ≤ k := by
           have := i_le.mp c9
           rw [nI_toInt (by omega), nI_toInt (by omega)] at this
           omega
         rw [trace_2 hk hkl] at h
         exact h)
      | exact h
theorem c_kept {d : Nat} (hd : 1 ≤ d) {σ : qm_Sg} {Q : qm_Po} {l : List Nat} (ht : cTr σ l) (hl : l.length < 1000) (h : Q σ (some (vI (nI (if 20 < l.length then 20 else l.length))))) : qm_M d 63 [vR 1 0] σ Q := by
  obtain ⟨d, rfl, hd⟩ := qm_dn hd
  show qm_Wp (qm_M d) qk_63 Q 0 [some (vR 1 0)] [] σ
  refine qm_go 5 (fun P hP => ?_)
  show Q σ (some (vI (if 20 < σ.1 1 0 1 then 20 else σ.1 1 0 1)))
  rw [ht.1]
  have e : ((20 : Int32) < nI l.length) ↔ 20 < l.length := by
    rw [i_lt, nI_toInt (by omega)]
    show (20 : Int) < (l.length : Int) ↔ _
    omega
  by_cases c : 20 < l.length
  · rw [if_pos c] at h
    rw [if_pos (e.mpr c)]
    exact h
  · rw [if_neg c] at h
    rw [if_neg (fun z => c (e.mp z))]
    exact h
theorem c_trace {d : Nat} (hd : 2 ≤ d) {σ : qm_Sg} {Q : qm_Po} {l : List Nat} {i : Int32} (ht : cTr σ l) (hl : l.length < 1000) (h : Q σ (some (vI (traceV l i)))) : qm_M d 89 [vR 0 0, vI i] σ Q := by
  obtain ⟨d, rfl, hd⟩ := qm_dn hd
  show qm_Wp (qm_M d) qk_89 Q 0 [some (vR 0 0), some (vI i)] [] σ
  refine qm_go 2 (fun P hP => And.intro (fun c1 => hP ?_) (fun c1 => hP ?_))
  · refine qm_go 2 (fun P hP => ?_)
    first
      | (have hz : ¬ inR i 20 := fun z => (in_lt (n := 20) (by decide) z).1 c1
         rw [trace_1 hz] at h
         exact h)
      | (have ck : nI (if 20 < l.length then 20 else l.length) ≤ i := c6
         by_cases hz : inR i 20
         · obtain ⟨k, hk, rfl⟩ := hz
           have hm : (if 20 < l.length then 20 else l.length) ≤ k := by
             have := i_le.mp ck
             rw [nI_toInt (by split <;> omega), nI_toInt (by omega)] at this
             omega
           rw [trace_2 hk (by split at hm <;> omega)] at h
           exact h
         · rw [trace_1 hz] at h
           exact h)
      | exact h
  · refine qm_go 4 (fun P hP => c_kept (by omega) ht hl (hP ?_))
    refine qm_go 1 (fun P hP => And.intro (fun c6 => hP ?_) (fun c6 => hP ?_))
    · refine qm_go 2 (fun P hP => ?_)
      first
        | (have hz : ¬ inR i 20 := fun z => (in_lt (n := 20) (by decide) z).1 c1
           rw [trace_1 hz] at h
           exact h)
        | (have ck : nI (if 20 < l.length then 20 else l.length) ≤ i := c6
           by_cases hz : inR i 20
           · obtain ⟨k, hk, rfl⟩ := hz
             have hm : (if 20 < l.length then 20 else l.length) ≤ k := by
               have := i_le.mp ck
               rw [nI_toInt (by split <;> omega), nI_toInt (by omega)] at this
               omega
             rw [trace_2 hk (by split at hm <;> omega)] at h
             exact h
           · rw [trace_1 hz] at h
             exact h)
        | exact h
    · refine qm_go 1 (fun P hP => hP ?_)
      have ck : ¬ nI (if 20 < l.length then 20 else l.length) ≤ i := c6
      obtain ⟨k, hk9, rfl⟩ := nI_of c1
      have hm : k < (if 20 < l.length then 20 else l.length) := by
        have := i_lt.mp (i_lt_of ck)
        rw [nI_toInt (by omega), nI_toInt (by split <;> omega)] at this
        omega
      have hk : k < 20 := by split at hm <;> omega
      have hkl : k < l.length := by split at hm <;> omega
      have hb : l[k]? = some l[k] := List.getElem?_eq_getElem hkl
      rw [trace_3 hk hb] at h
      refine qm_go 4 (fun P hP => Exists.intro (k) (And.intro (And.intro (rfl) (hk)) (hP ?_)))
      rw [ht.2 k _ hb hk]
      refine qm_go 2 (fun P hP => ?_)
      first
        | (have hz : ¬ inR i 20 := fun z => (in_lt (n := 20) (by decide) z).1 c1
           rw [trace_1 hz] at h
           exact h)
        | (have ck : nI (if 20 < l.length then 20 else l.length) ≤ i := c6
           by_cases hz : inR i 20
           · obtain ⟨k, hk, rfl⟩ := hz
             have hm : (if 20 < l.length then 20 else l.length) ≤ k := by
               have := i_le.mp ck
               rw [nI_toInt (by split <;> omega), nI_toInt (by omega)] at this
               omega
             rw [trace_2 hk (by split at hm <;> omega)] at h
             exact h
           · rw [trace_1 hz] at h
             exact h)
        | exact h
