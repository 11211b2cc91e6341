theorem in_lt {a : Int32} {n : Nat} (hn : n < 2 ^ 31) (h : inR a n) : ¬ a < 0 ∧ ¬ nI n - 1 < a := inR_lt' hn h
theorem c_odds {d : Nat} (hd : 9 ≤ d) {σ : qm_Sg} {Q : qm_Po} {A : AS} {D : DD} {n q part : Int32} (hs : cS 0 σ A) (hv : cV 0 σ D) (hm : D.2.2.2 + 100 < 2 ^ 30) (h : ∀ σ', Fr tT σ σ' → Q σ' (some (vL (oddV A D n q part)))) : qm_M d 79 [vR 0 0, vI n, vI q, vI part] σ Q := by
  obtain ⟨d, rfl, hd⟩ := qm_dn hd
  show qm_Wp (qm_M d) qk_79 Q 0 [some (vR 0 0), some (vI n), some (vI q), some (vI part), none, none, none] [] σ
  refine qm_go 2 (fun P hP => And.intro (fun c1 => hP ?_) (fun c1 => hP ?_))
  · refine qm_go 2 (fun P hP => ?_)
    have h := h σ Fr.rf
    unfold oddV at h
    first
      | (rw [if_neg (fun z => (in_lt (n := 21) (by decide) z.1).1 c1)] at h; exact h)
      | (rw [if_neg (fun z => (in_lt (n := 21) (by decide) z.1).2 c4)] at h; exact h)
      | (rw [if_neg (fun z => ca z.2.1)] at h; exact h)
      | (rw [if_neg (fun z => cp z.2.2)] at h; exact h)
  · refine qm_go 3 (fun P hP => And.intro (fun c4 => hP ?_) (fun c4 => hP ?_))
    · refine qm_go 2 (fun P hP => ?_)
      have h := h σ Fr.rf
      unfold oddV at h
      first
        | (rw [if_neg (fun z => (in_lt (n := 21) (by decide) z.1).1 c1)] at h; exact h)
        | (rw [if_neg (fun z => (in_lt (n := 21) (by decide) z.1).2 c4)] at h; exact h)
        | (rw [if_neg (fun z => ca z.2.1)] at h; exact h)
        | (rw [if_neg (fun z => cp z.2.2)] at h; exact h)
    · refine qm_go 2 (fun P hP => c_isAmount (by omega) (fun ca => hP ?_) (fun ca => hP ?_))
      · refine qm_go 1 (fun P hP => And.intro (fun c => absurd c (by decide)) (fun _ => hP ?_))
        refine qm_go 2 (fun P hP => c_isPart (by omega) (fun cp => hP ?_) (fun cp => hP ?_))
        · refine qm_go 1 (fun P hP => And.intro (fun _ => hP ?_) (fun c => absurd c (by decide)))
          refine qm_go 6 (fun P hP => hP ?_)
          obtain ⟨n', hn', rfl⟩ := inR_of' (n := 21) (by decide) c1 c4
          refine c_odds_l (n := n') (q := q) (part := part) (by omega) hs hv (by omega) (by omega) (fun σ' f' => ?_) A.1 0 0 0 σ (by omega) (by omega) (by omega) rfl Fr.rf
          have h := h σ' f'
          unfold oddV at h
          rw [if_pos ⟨⟨n', hn', rfl⟩, ca, cp⟩, tN_nI (by omega)] at h
          exact h
        · refine qm_go 1 (fun P hP => And.intro (fun c => absurd (by decide) c) (fun _ => hP ?_))
          refine qm_go 2 (fun P hP => ?_)
          have h := h σ Fr.rf
          unfold oddV at h
          first
            | (rw [if_neg (fun z => (in_lt (n := 21) (by decide) z.1).1 c1)] at h; exact h)
            | (rw [if_neg (fun z => (in_lt (n := 21) (by decide) z.1).2 c4)] at h; exact h)
            | (rw [if_neg (fun z => ca z.2.1)] at h; exact h)
            | (rw [if_neg (fun z => cp z.2.2)] at h; exact h)
      · refine qm_go 1 (fun P hP => And.intro (fun _ => hP ?_) (fun c => absurd (by decide) c))
        refine qm_go 2 (fun P hP => ?_)
        have h := h σ Fr.rf
        unfold oddV at h
        first
          | (rw [if_neg (fun z => (in_lt (n := 21) (by decide) z.1).1 c1)] at h; exact h)
          | (rw [if_neg (fun z => (in_lt (n := 21) (by decide) z.1).2 c4)] at h; exact h)
          | (rw [if_neg (fun z => ca z.2.1)] at h; exact h)
          | (rw [if_neg (fun z => cp z.2.2)] at h; exact h)
theorem m_odds {d : Nat} (hd : 13 ≤ d) {σ : qm_Sg} {Q : qm_Po} {A : AS} {D : DD} {n q part : Int32} (hs : mS σ A) (hv : mV σ D) (hm : D.2.2.2 + 100 < 2 ^ 30) (h : ∀ σ', Fr tQ σ σ' → mS σ' A → mV σ' D → Q σ' (some (vL (oddV A D n q part)))) : qm_M d 169 [vR 50 0, vI n, vI q, vI part] σ Q := by
  obtain ⟨d, rfl, hd⟩ := qm_dn hd
  show qm_Wp (qm_M d) qk_169 Q 0 [some (vR 50 0), some (vI n), some (vI q), some (vI part), none, none, none] [] σ
  refine qm_go 5 (fun P hP => m_inR 21 (by decide) rfl (hd := by omega) (fun cn => hP ?_) (fun cn => hP ?_))
  · refine qm_go 1 (fun P hP => And.intro (fun c => absurd c (by decide)) (fun _ => hP ?_))
    refine qm_go 3 (fun P hP => m_isMany (by omega) (fun ca => hP ?_) (fun ca => hP ?_))
    · refine qm_go 1 (fun P hP => And.intro (fun c => absurd c (by decide)) (fun _ => hP ?_))
      refine qm_go 5 (fun P hP => m_inR 2 (by decide) rfl (hd := by omega) (fun cp => hP ?_) (fun cp => hP ?_))
      · refine qm_go 1 (fun P hP => And.intro (fun _ => hP ?_) (fun c => absurd c (by decide)))
        refine qm_go 6 (fun P hP => hP ?_)
        obtain ⟨n', hn', rfl⟩ := cn
        refine m_odds_l (n := n') (q := q) (part := part) (by omega) (by omega) (by omega) (fun σ' f' s' v' => ?_) A.1 0 0 0 σ (by omega) (by omega) (by omega) rfl Fr.rf hs hv
        have h := h σ' f' s' v'
        unfold oddV at h
        rw [if_pos ⟨⟨n', hn', rfl⟩, ca, cp⟩, tN_nI (by omega)] at h
        exact h
      · refine qm_go 1 (fun P hP => And.intro (fun c => absurd (by decide) c) (fun _ => hP ?_))
        refine qm_go 2 (fun P hP => ?_)
        have h := h σ Fr.rf hs hv
        unfold oddV at h
        first
          | (rw [if_neg (fun z => cn z.1)] at h; exact h)
          | (rw [if_neg (fun z => ca z.2.1)] at h; exact h)
          | (rw [if_neg (fun z => cp z.2.2)] at h; exact h)
    · refine qm_go 1 (fun P hP => And.intro (fun _ => hP ?_) (fun c => absurd (by decide) c))
      refine qm_go 2 (fun P hP => ?_)
      have h := h σ Fr.rf hs hv
      unfold oddV at h
      first
        | (rw [if_neg (fun z => cn z.1)] at h; exact h)
        | (rw [if_neg (fun z => ca z.2.1)] at h; exact h)
        | (rw [if_neg (fun z => cp z.2.2)] at h; exact h)
  · refine qm_go 1 (fun P hP => And.intro (fun _ => hP ?_) (fun c => absurd (by decide) c))
    refine qm_go 2 (fun P hP => ?_)
    have h := h σ Fr.rf hs hv
    unfold oddV at h
    first
      | (rw [if_neg (fun z => cn z.1)] at h; exact h)
      | (rw [if_neg (fun z => ca z.2.1)] at h; exact h)
      | (rw [if_neg (fun z => cp z.2.2)] at h; exact h)
def bestV (A : AS) (D : DD) (n w : Int32) : Int32 :=
  if w = 0 then (if ¬ n < 1 ∧ ¬ 20 < n then sentF A D (tN n) A.1 0 (-5) (dwA A D 0 (tN n)) else -2)
  else if w = 1 then (if ¬ n < 1 ∧ ¬ 12 < n then stopF A D (tN n) (2 ^ A.1) 0 (-5) 7 else -2) else -1
theorem bestV_0 (A : AS) (D : DD) (n : Int32) : bestV A D n 0 = (if ¬ n < 1 ∧ ¬ 20 < n then sentF A D (tN n) A.1 0 (-5) (dwA A D 0 (tN n)) else -2) := if_pos rfl
theorem bestV_1 (A : AS) (D : DD) (n : Int32) : bestV A D n 1 = (if ¬ n < 1 ∧ ¬ 12 < n then stopF A D (tN n) (2 ^ A.1) 0 (-5) 7 else -2) := (if_neg (by decide)).trans (if_pos rfl)
theorem bestV_2 (A : AS) (D : DD) {n w : Int32} (h : ¬ w = 0) (h1 : ¬ w = 1) : bestV A D n w = -1 := (if_neg h).trans (if_neg h1)
theorem nat_of {n b : Int32} (h1 : ¬ n < 1) (h2 : ¬ b < n) (hb : b.toInt ≤ 1000) : ∃ k, k ≤ 1000 ∧ n = nI k := by
  have a1 : ¬ n.toInt < (1 : Int32).toInt := fun z => h1 (i_lt.mpr z)
  have a2 : ¬ b.toInt < n.toInt := fun z => h2 (i_lt.mpr z)
  have a3 : (1 : Int32).toInt = 1 := rfl
  refine ⟨n.toInt.toNat, by omega, ?_⟩
  apply i_eq.mpr
  rw [nI_toInt (by omega)]
  omega
theorem in2 {a : Int32} (h : ¬ a = 0) (h1 : ¬ a = 1) : ¬ inR a 2 := fun ⟨p, hp, e⟩ => by
  rcases (show p = 0 ∨ p = 1 by omega) with rfl | rfl
  · exact h e
  · exact h1 e
theorem c_best {d : Nat} (hd : 9 ≤ d) {σ : qm_Sg} {Q : qm_Po} {A : AS} {D : DD} {n w : Int32} (hs : cS 0 σ A) (hv : cV 0 σ D) (hm : D.2.2.2 + 2000 < 2 ^ 30) (h : ∀ σ', Fr tT σ σ' → Q σ' (some (vI (bestV A D n w)))) : qm_M d 76 [vR 0 0, vI n, vI w] σ Q := by
  obtain ⟨d, rfl, hd⟩ := qm_dn hd
  show qm_Wp (qm_M d) qk_76 Q 0 [some (vR 0 0), some (vI n), some (vI w)] [] σ
  by_cases w0 : w = 0
  · subst w0
    rw [bestV_0] at h
    refine qm_go 2 (fun P hP => And.intro (fun _ => hP ?_) (fun c => absurd rfl c))
    refine qm_go 3 (fun P hP => And.intro (fun c9 => hP ?_) (fun c9 => hP ?_))
    · refine qm_go 2 (fun P hP => ?_)
      have h := h σ Fr.rf
      first
        | (have hz : ¬ (¬ n < 1 ∧ ¬ 20 < n) := fun z => z.1 c9
           rw [if_neg hz] at h
           exact h)
        | (have hz : ¬ (¬ n < 1 ∧ ¬ 20 < n) := fun z => z.2 (i_lt_of c16)
           rw [if_neg hz] at h
           exact h)
    · refine qm_go 3 (fun P hP => And.intro (fun c => absurd rfl c) (fun _ => hP ?_))
      refine qm_go 3 (fun P hP => And.intro (fun c16 => hP ?_) (fun c16 => hP ?_))
      · refine qm_go 2 (fun P hP => And.intro (fun c => absurd rfl c) (fun _ => hP ?_))
        refine qm_go 2 (fun P hP => hP ?_)
        have c16 := i_nlt c16
        obtain ⟨n', hn', rfl⟩ := nat_of c9 c16 (by decide)
        rw [tN_nI (by omega)] at h
        refine qm_go 1 (fun P hP => c_sent (n := n') (by omega) hs hv (by omega) (by omega) (fun σ1 f1 => hP ?_))
        refine qm_go 2 (fun P hP => ?_)
        have h := h σ1 f1
        rw [if_pos ⟨c9, c16⟩] at h
        exact h
      · refine qm_go 2 (fun P hP => ?_)
        have h := h σ Fr.rf
        first
          | (have hz : ¬ (¬ n < 1 ∧ ¬ 20 < n) := fun z => z.1 c9
             rw [if_neg hz] at h
             exact h)
          | (have hz : ¬ (¬ n < 1 ∧ ¬ 20 < n) := fun z => z.2 (i_lt_of c16)
             rw [if_neg hz] at h
             exact h)
  · by_cases w1 : w = 1
    · subst w1
      rw [bestV_1] at h
      refine qm_go 2 (fun P hP => And.intro (fun c => absurd c (by decide)) (fun _ => hP ?_))
      refine qm_go 3 (fun P hP => And.intro (fun _ => hP ?_) (fun c => absurd rfl c))
      refine qm_go 3 (fun P hP => And.intro (fun c9 => hP ?_) (fun c9 => hP ?_))
      · refine qm_go 2 (fun P hP => ?_)
        have h := h σ Fr.rf
        first
          | (have hz : ¬ (¬ n < 1 ∧ ¬ 12 < n) := fun z => z.1 c9
             rw [if_neg hz] at h
             exact h)
          | (have hz : ¬ (¬ n < 1 ∧ ¬ 12 < n) := fun z => z.2 (i_lt_of c16)
             rw [if_neg hz] at h
             exact h)
      · refine qm_go 3 (fun P hP => And.intro (fun _ => hP ?_) (fun c => absurd c (by decide)))
        refine qm_go 2 (fun P hP => And.intro (fun c16 => hP ?_) (fun c16 => hP ?_))
        · refine qm_go 2 (fun P hP => And.intro (fun _ => hP ?_) (fun c => absurd c (by decide)))
          refine qm_go 2 (fun P hP => hP ?_)
          have c16 := i_nlt c16
          obtain ⟨n', hn', rfl⟩ := nat_of c9 c16 (by decide)
          rw [tN_nI (by omega)] at h
          refine qm_go 1 (fun P hP => c_stop (n := n') (by omega) hs hv (by omega) (by omega) (fun σ1 f1 => hP ?_))
          refine qm_go 1 (fun P hP => ?_)
          have h := h σ1 f1
          rw [if_pos ⟨c9, c16⟩] at h
          exact h
        · refine qm_go 2 (fun P hP => ?_)
          have h := h σ Fr.rf
          first
            | (have hz : ¬ (¬ n < 1 ∧ ¬ 12 < n) := fun z => z.1 c9
               rw [if_neg hz] at h
               exact h)
            | (have hz : ¬ (¬ n < 1 ∧ ¬ 12 < n) := fun z => z.2 (i_lt_of c16)
               rw [if_neg hz] at h
               exact h)
    · rw [bestV_2 A D w0 w1] at h
      refine qm_go 2 (fun P hP => And.intro (fun c => absurd c w0) (fun _ => hP ?_))
      refine qm_go 3 (fun P hP => And.intro (fun c => absurd c w1) (fun _ => hP ?_))
      refine qm_go 2 (fun P hP => h σ Fr.rf)
theorem m_best {d : Nat} (hd : 13 ≤ d) {σ : qm_Sg} {Q : qm_Po} {A : AS} {D : DD} {n w : Int32} (hs : mS σ A) (hv : mV σ D) (hm : D.2.2.2 + 2000 < 2 ^ 30) (h : ∀ σ', Fr tQ σ σ' → mS σ' A → mV σ' D → Q σ' (some (vI (bestV A D n w)))) : qm_M d 161 [vR 50 0, vI n, vI w] σ Q := by
  obtain ⟨d, rfl, hd⟩ := qm_dn hd
  show qm_Wp (qm_M d) qk_161 Q 0 [some (vR 50 0), some (vI n), some (vI w)] [] σ
  by_cases w0 : w = 0
  · subst w0
    rw [bestV_0] at h
    refine qm_go 5 (fun P hP => m_inR 2 (by decide) rfl (hd := by omega) (fun cw => hP ?_) (fun cw => absurd ⟨0, by decide, rfl⟩ cw))
    refine qm_go 1 (fun P hP => And.intro (fun _ => hP ?_) (fun c => absurd c (by decide)))
    refine qm_go 5 (fun P hP => And.intro (fun c => absurd rfl c) (fun _ => hP ?_))
    refine qm_go 3 (fun P hP => m_in (by omega) (fun c9 c16 => hP ?_) (fun cn => hP ?_))
    · refine qm_go 1 (fun P hP => And.intro (fun _ => hP ?_) (fun c => absurd c (by decide)))
      refine qm_go 2 (fun P hP => And.intro (fun c => absurd rfl c) (fun _ => hP ?_))
      refine qm_go 2 (fun P hP => hP ?_)
      obtain ⟨n', hn', rfl⟩ := nat_of c9 c16 (by decide)
      rw [tN_nI (by omega)] at h
      refine qm_go 1 (fun P hP => m_sent (n := n') (by omega) hs hv (by omega) (by omega) (fun σ1 f1 s1 v1 => hP ?_))
      refine qm_go 2 (fun P hP => ?_)
      have h := h σ1 f1 s1 v1
      rw [if_pos ⟨c9, c16⟩] at h
      exact h
    · refine qm_go 1 (fun P hP => And.intro (fun c => absurd (by decide) c) (fun _ => hP ?_))
      refine qm_go 2 (fun P hP => ?_)
      have h := h σ Fr.rf hs hv
      rw [if_neg cn] at h
      exact h
  · by_cases w1 : w = 1
    · subst w1
      rw [bestV_1] at h
      refine qm_go 5 (fun P hP => m_inR 2 (by decide) rfl (hd := by omega) (fun cw => hP ?_) (fun cw => absurd ⟨1, by decide, rfl⟩ cw))
      refine qm_go 1 (fun P hP => And.intro (fun _ => hP ?_) (fun c => absurd c (by decide)))
      refine qm_go 5 (fun P hP => And.intro (fun _ => hP ?_) (fun c => absurd c (by decide)))
      refine qm_go 2 (fun P hP => m_in (by omega) (fun c9 c16 => hP ?_) (fun cn => hP ?_))
      · refine qm_go 1 (fun P hP => And.intro (fun _ => hP ?_) (fun c => absurd c (by decide)))
        refine qm_go 2 (fun P hP => And.intro (fun _ => hP ?_) (fun c => absurd c (by decide)))
        refine qm_go 2 (fun P hP => hP ?_)
        obtain ⟨n', hn', rfl⟩ := nat_of c9 c16 (by decide)
        rw [tN_nI (by omega)] at h
        refine qm_go 1 (fun P hP => m_stop (n := n') (by omega) hs hv (by omega) (by omega) (fun σ1 f1 s1 v1 => hP ?_))
        refine qm_go 1 (fun P hP => ?_)
        have h := h σ1 f1 s1 v1
        rw [if_pos ⟨c9, c16⟩] at h
        exact h
      · refine qm_go 1 (fun P hP => And.intro (fun c => absurd (by decide) c) (fun _ => hP ?_))
        refine qm_go 2 (fun P hP => ?_)
        have h := h σ Fr.rf hs hv
        rw [if_neg cn] at h
        exact h
    · rw [bestV_2 A D w0 w1] at h
      refine qm_go 5 (fun P hP => m_inR 2 (by decide) rfl (hd := by omega) (fun cw => absurd cw (in2 w0 w1)) (fun cw => hP ?_))
      refine qm_go 1 (fun P hP => And.intro (fun c => absurd rfl c) (fun _ => hP ?_))
      refine qm_go 2 (fun P hP => h σ Fr.rf hs hv)
