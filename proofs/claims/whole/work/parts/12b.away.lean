def awayV (A : AS) (s : Int32) : Int32 := if inP s A.1 then (if isAw (awO A) (tN s) then 1 else 0) else -1
def awayA (A : AS) (s b : Int32) : AS := if inP s A.1 then awA A (if b = 0 then awO A &&& ((1 <<< (s &&& 31)) ^^^ (-1)) else awO A ||| 1 <<< (s &&& 31)) else A
theorem away_1 {A : AS} {s b : Int32} (h : ¬ inR s A.1) : awayV A s = -1 ∧ awayA A s b = A := ⟨if_neg h, if_neg h⟩
theorem away_2 {A : AS} {p : Nat} {b : Int32} (hn : A.1 ≤ 6) (h : p < A.1) : awayV A (nI p) = (if isAw (awO A) p then 1 else 0) ∧ awayA A (nI p) b = awA A (if b = 0 then awO A &&& ((1 <<< (nI p &&& 31)) ^^^ (-1)) else awO A ||| 1 <<< (nI p &&& 31)) := by
  have e : tN (nI p) = p := tN_nI (by omega)
  unfold awayV awayA
  have hi : inP (nI p) A.1 := ⟨p, h, rfl⟩
  rw [if_pos hi, if_pos hi, e]
  exact ⟨rfl, rfl⟩
theorem c_away {d : Nat} (hd : 2 ≤ d) {σ : qm_Sg} {Q : qm_Po} {A : AS} {D : DD} {s b : Int32} (hs : cS 0 σ A) (hv : cV 0 σ D) (h : ∀ σ', Fr (fun t i j => t = 10 ∧ i = 0 ∧ j = 7) σ σ' → cS 0 σ' (awayA A s b) → cV 0 σ' D → Q σ' (some (vI (awayV A s)))) : qm_M d 67 [vR 0 0, vI s, vI b] σ Q := by
  obtain ⟨d, rfl, hd⟩ := qm_dn hd
  show qm_Wp (qm_M d) qk_67 Q 0 [some (vR 0 0), some (vI s), some (vI b), none] [] σ
  refine qm_go 4 (fun P hP => c_has (by omega) (Nat.lt_of_le_of_lt hs.le (by decide)) hs.n (fun ch => hP ?_) (fun ch => hP ?_))
  · refine qm_go 1 (fun P hP => And.intro (fun _ => hP ?_) (fun c => absurd c (by decide)))
    refine qm_go 1 (fun P hP => hP ?_)
    obtain ⟨p, hp, rfl⟩ := ch
    have z := away_2 (A := A) (p := p) (b := b) hs.le hp
    rw [z.1, z.2] at h
    refine qm_go 3 (fun P hP => c_isAway (by omega) (fun ca => hP ?_) (fun ca => hP ?_))
    · refine qm_go 6 (fun P hP => c_puts (by omega) (fun z9 => hP ?_) (fun z9 => hP ?_))
      · refine qm_go 2 (fun P hP => And.intro (fun c => absurd c (by decide)) (fun _ => hP ?_))
        refine qm_go 3 (fun P hP => ?_)
        rw [hs.aw] at ca
        first
          | (have hz : ¬ b = 0 := z9
             rw [if_neg hz] at h
             first
               | (rw [if_pos ca] at h
                  exact h _ (Fr.w1 ⟨rfl, rfl, rfl⟩) (hs.fa (T := (fun t i j => t = 10 ∧ i = 0 ∧ j = 7)) (Fr.w1 ⟨rfl, rfl, rfl⟩) (fun t i j q => by unfold pC at q; omega) (by rw [wv_same, hs.aw])) (hv.fg (T := (fun t i j => t = 10 ∧ i = 0 ∧ j = 7)) (Fr.w1 ⟨rfl, rfl, rfl⟩) (fun t i j q => by omega)))
               | (rw [if_neg ca] at h
                  exact h _ (Fr.w1 ⟨rfl, rfl, rfl⟩) (hs.fa (T := (fun t i j => t = 10 ∧ i = 0 ∧ j = 7)) (Fr.w1 ⟨rfl, rfl, rfl⟩) (fun t i j q => by unfold pC at q; omega) (by rw [wv_same, hs.aw])) (hv.fg (T := (fun t i j => t = 10 ∧ i = 0 ∧ j = 7)) (Fr.w1 ⟨rfl, rfl, rfl⟩) (fun t i j q => by omega))))
          | (have hz : b = 0 := z9
             rw [if_pos hz] at h
             first
               | (rw [if_pos ca] at h
                  exact h _ (Fr.w1 ⟨rfl, rfl, rfl⟩) (hs.fa (T := (fun t i j => t = 10 ∧ i = 0 ∧ j = 7)) (Fr.w1 ⟨rfl, rfl, rfl⟩) (fun t i j q => by unfold pC at q; omega) (by rw [wv_same, hs.aw])) (hv.fg (T := (fun t i j => t = 10 ∧ i = 0 ∧ j = 7)) (Fr.w1 ⟨rfl, rfl, rfl⟩) (fun t i j q => by omega)))
               | (rw [if_neg ca] at h
                  exact h _ (Fr.w1 ⟨rfl, rfl, rfl⟩) (hs.fa (T := (fun t i j => t = 10 ∧ i = 0 ∧ j = 7)) (Fr.w1 ⟨rfl, rfl, rfl⟩) (fun t i j q => by unfold pC at q; omega) (by rw [wv_same, hs.aw])) (hv.fg (T := (fun t i j => t = 10 ∧ i = 0 ∧ j = 7)) (Fr.w1 ⟨rfl, rfl, rfl⟩) (fun t i j q => by omega))))
      · refine qm_go 2 (fun P hP => And.intro (fun c => absurd c (by decide)) (fun _ => hP ?_))
        refine qm_go 3 (fun P hP => ?_)
        rw [hs.aw] at ca
        first
          | (have hz : ¬ b = 0 := z9
             rw [if_neg hz] at h
             first
               | (rw [if_pos ca] at h
                  exact h _ (Fr.w1 ⟨rfl, rfl, rfl⟩) (hs.fa (T := (fun t i j => t = 10 ∧ i = 0 ∧ j = 7)) (Fr.w1 ⟨rfl, rfl, rfl⟩) (fun t i j q => by unfold pC at q; omega) (by rw [wv_same, hs.aw])) (hv.fg (T := (fun t i j => t = 10 ∧ i = 0 ∧ j = 7)) (Fr.w1 ⟨rfl, rfl, rfl⟩) (fun t i j q => by omega)))
               | (rw [if_neg ca] at h
                  exact h _ (Fr.w1 ⟨rfl, rfl, rfl⟩) (hs.fa (T := (fun t i j => t = 10 ∧ i = 0 ∧ j = 7)) (Fr.w1 ⟨rfl, rfl, rfl⟩) (fun t i j q => by unfold pC at q; omega) (by rw [wv_same, hs.aw])) (hv.fg (T := (fun t i j => t = 10 ∧ i = 0 ∧ j = 7)) (Fr.w1 ⟨rfl, rfl, rfl⟩) (fun t i j q => by omega))))
          | (have hz : b = 0 := z9
             rw [if_pos hz] at h
             first
               | (rw [if_pos ca] at h
                  exact h _ (Fr.w1 ⟨rfl, rfl, rfl⟩) (hs.fa (T := (fun t i j => t = 10 ∧ i = 0 ∧ j = 7)) (Fr.w1 ⟨rfl, rfl, rfl⟩) (fun t i j q => by unfold pC at q; omega) (by rw [wv_same, hs.aw])) (hv.fg (T := (fun t i j => t = 10 ∧ i = 0 ∧ j = 7)) (Fr.w1 ⟨rfl, rfl, rfl⟩) (fun t i j q => by omega)))
               | (rw [if_neg ca] at h
                  exact h _ (Fr.w1 ⟨rfl, rfl, rfl⟩) (hs.fa (T := (fun t i j => t = 10 ∧ i = 0 ∧ j = 7)) (Fr.w1 ⟨rfl, rfl, rfl⟩) (fun t i j q => by unfold pC at q; omega) (by rw [wv_same, hs.aw])) (hv.fg (T := (fun t i j => t = 10 ∧ i = 0 ∧ j = 7)) (Fr.w1 ⟨rfl, rfl, rfl⟩) (fun t i j q => by omega))))
    · refine qm_go 6 (fun P hP => c_puts (by omega) (fun z9 => hP ?_) (fun z9 => hP ?_))
      · refine qm_go 2 (fun P hP => And.intro (fun _ => hP ?_) (fun c => absurd rfl c))
        refine qm_go 2 (fun P hP => ?_)
        rw [hs.aw] at ca
        first
          | (have hz : ¬ b = 0 := z9
             rw [if_neg hz] at h
             first
               | (rw [if_pos ca] at h
                  exact h _ (Fr.w1 ⟨rfl, rfl, rfl⟩) (hs.fa (T := (fun t i j => t = 10 ∧ i = 0 ∧ j = 7)) (Fr.w1 ⟨rfl, rfl, rfl⟩) (fun t i j q => by unfold pC at q; omega) (by rw [wv_same, hs.aw])) (hv.fg (T := (fun t i j => t = 10 ∧ i = 0 ∧ j = 7)) (Fr.w1 ⟨rfl, rfl, rfl⟩) (fun t i j q => by omega)))
               | (rw [if_neg ca] at h
                  exact h _ (Fr.w1 ⟨rfl, rfl, rfl⟩) (hs.fa (T := (fun t i j => t = 10 ∧ i = 0 ∧ j = 7)) (Fr.w1 ⟨rfl, rfl, rfl⟩) (fun t i j q => by unfold pC at q; omega) (by rw [wv_same, hs.aw])) (hv.fg (T := (fun t i j => t = 10 ∧ i = 0 ∧ j = 7)) (Fr.w1 ⟨rfl, rfl, rfl⟩) (fun t i j q => by omega))))
          | (have hz : b = 0 := z9
             rw [if_pos hz] at h
             first
               | (rw [if_pos ca] at h
                  exact h _ (Fr.w1 ⟨rfl, rfl, rfl⟩) (hs.fa (T := (fun t i j => t = 10 ∧ i = 0 ∧ j = 7)) (Fr.w1 ⟨rfl, rfl, rfl⟩) (fun t i j q => by unfold pC at q; omega) (by rw [wv_same, hs.aw])) (hv.fg (T := (fun t i j => t = 10 ∧ i = 0 ∧ j = 7)) (Fr.w1 ⟨rfl, rfl, rfl⟩) (fun t i j q => by omega)))
               | (rw [if_neg ca] at h
                  exact h _ (Fr.w1 ⟨rfl, rfl, rfl⟩) (hs.fa (T := (fun t i j => t = 10 ∧ i = 0 ∧ j = 7)) (Fr.w1 ⟨rfl, rfl, rfl⟩) (fun t i j q => by unfold pC at q; omega) (by rw [wv_same, hs.aw])) (hv.fg (T := (fun t i j => t = 10 ∧ i = 0 ∧ j = 7)) (Fr.w1 ⟨rfl, rfl, rfl⟩) (fun t i j q => by omega))))
      · refine qm_go 2 (fun P hP => And.intro (fun _ => hP ?_) (fun c => absurd rfl c))
        refine qm_go 2 (fun P hP => ?_)
        rw [hs.aw] at ca
        first
          | (have hz : ¬ b = 0 := z9
             rw [if_neg hz] at h
             first
               | (rw [if_pos ca] at h
                  exact h _ (Fr.w1 ⟨rfl, rfl, rfl⟩) (hs.fa (T := (fun t i j => t = 10 ∧ i = 0 ∧ j = 7)) (Fr.w1 ⟨rfl, rfl, rfl⟩) (fun t i j q => by unfold pC at q; omega) (by rw [wv_same, hs.aw])) (hv.fg (T := (fun t i j => t = 10 ∧ i = 0 ∧ j = 7)) (Fr.w1 ⟨rfl, rfl, rfl⟩) (fun t i j q => by omega)))
               | (rw [if_neg ca] at h
                  exact h _ (Fr.w1 ⟨rfl, rfl, rfl⟩) (hs.fa (T := (fun t i j => t = 10 ∧ i = 0 ∧ j = 7)) (Fr.w1 ⟨rfl, rfl, rfl⟩) (fun t i j q => by unfold pC at q; omega) (by rw [wv_same, hs.aw])) (hv.fg (T := (fun t i j => t = 10 ∧ i = 0 ∧ j = 7)) (Fr.w1 ⟨rfl, rfl, rfl⟩) (fun t i j q => by omega))))
          | (have hz : b = 0 := z9
             rw [if_pos hz] at h
             first
               | (rw [if_pos ca] at h
                  exact h _ (Fr.w1 ⟨rfl, rfl, rfl⟩) (hs.fa (T := (fun t i j => t = 10 ∧ i = 0 ∧ j = 7)) (Fr.w1 ⟨rfl, rfl, rfl⟩) (fun t i j q => by unfold pC at q; omega) (by rw [wv_same, hs.aw])) (hv.fg (T := (fun t i j => t = 10 ∧ i = 0 ∧ j = 7)) (Fr.w1 ⟨rfl, rfl, rfl⟩) (fun t i j q => by omega)))
               | (rw [if_neg ca] at h
                  exact h _ (Fr.w1 ⟨rfl, rfl, rfl⟩) (hs.fa (T := (fun t i j => t = 10 ∧ i = 0 ∧ j = 7)) (Fr.w1 ⟨rfl, rfl, rfl⟩) (fun t i j q => by unfold pC at q; omega) (by rw [wv_same, hs.aw])) (hv.fg (T := (fun t i j => t = 10 ∧ i = 0 ∧ j = 7)) (Fr.w1 ⟨rfl, rfl, rfl⟩) (fun t i j q => by omega))))
  · refine qm_go 1 (fun P hP => And.intro (fun c => absurd (by decide) c) (fun _ => hP ?_))
    refine qm_go 2 (fun P hP => ?_)
    have z := away_1 (A := A) (s := s) (b := b) ch
    rw [z.1, z.2] at h
    exact h σ Fr.rf hs hv
theorem m_away {d : Nat} (hd : 3 ≤ d) {σ : qm_Sg} {Q : qm_Po} {A : AS} {D : DD} {s b : Int32} (hs : mS σ A) (hv : mV σ D) (h : ∀ σ', Fr (fun t i j => t = 50 ∧ i = 0 ∧ j = 1) σ σ' → mS σ' (awayA A s b) → mV σ' D → Q σ' (some (vI (awayV A s)))) : qm_M d 119 [vR 50 0, vI s, vI b] σ Q := by
  obtain ⟨d, rfl, hd⟩ := qm_dn hd
  show qm_Wp (qm_M d) qk_119 Q 0 [some (vR 50 0), some (vI s), some (vI b), none] [] σ
  refine qm_go 3 (fun P hP => m_isOne (by omega) (Nat.lt_of_le_of_lt hs.le (by decide)) hs.n (fun ch => hP ?_) (fun ch => hP ?_))
  · refine qm_go 1 (fun P hP => And.intro (fun _ => hP ?_) (fun c => absurd c (by decide)))
    refine qm_go 1 (fun P hP => hP ?_)
    obtain ⟨p, hp, rfl⟩ := ch
    have z := away_2 (A := A) (p := p) (b := b) hs.le hp
    rw [z.1, z.2] at h
    refine qm_go 4 (fun P hP => m_has (by omega) (fun ca => hP ?_) (fun ca => hP ?_))
    · refine qm_go 1 (fun P hP => And.intro (fun c => absurd c (by decide)) (fun _ => hP ?_))
      refine qm_go 7 (fun P hP => m_puts (by omega) (fun z9 => hP ?_) (fun z9 => hP ?_))
      · refine qm_go 2 (fun P hP => ?_)
        rw [hs.aw] at ca
        first
          | (have hz : ¬ b = 0 := z9
             rw [if_neg hz] at h
             first
               | (rw [if_pos ca] at h
                  exact h _ (Fr.w1 ⟨rfl, rfl, rfl⟩) (hs.fa (T := (fun t i j => t = 50 ∧ i = 0 ∧ j = 1)) (Fr.w1 ⟨rfl, rfl, rfl⟩) (fun t i j q => by unfold pM at q; omega) (by rw [wv_same, hs.aw])) (hv.fg (T := (fun t i j => t = 50 ∧ i = 0 ∧ j = 1)) (Fr.w1 ⟨rfl, rfl, rfl⟩) (fun t i j q => by omega)))
               | (rw [if_neg ca] at h
                  exact h _ (Fr.w1 ⟨rfl, rfl, rfl⟩) (hs.fa (T := (fun t i j => t = 50 ∧ i = 0 ∧ j = 1)) (Fr.w1 ⟨rfl, rfl, rfl⟩) (fun t i j q => by unfold pM at q; omega) (by rw [wv_same, hs.aw])) (hv.fg (T := (fun t i j => t = 50 ∧ i = 0 ∧ j = 1)) (Fr.w1 ⟨rfl, rfl, rfl⟩) (fun t i j q => by omega))))
          | (have hz : b = 0 := z9
             rw [if_pos hz] at h
             first
               | (rw [if_pos ca] at h
                  exact h _ (Fr.w1 ⟨rfl, rfl, rfl⟩) (hs.fa (T := (fun t i j => t = 50 ∧ i = 0 ∧ j = 1)) (Fr.w1 ⟨rfl, rfl, rfl⟩) (fun t i j q => by unfold pM at q; omega) (by rw [wv_same, hs.aw])) (hv.fg (T := (fun t i j => t = 50 ∧ i = 0 ∧ j = 1)) (Fr.w1 ⟨rfl, rfl, rfl⟩) (fun t i j q => by omega)))
               | (rw [if_neg ca] at h
                  exact h _ (Fr.w1 ⟨rfl, rfl, rfl⟩) (hs.fa (T := (fun t i j => t = 50 ∧ i = 0 ∧ j = 1)) (Fr.w1 ⟨rfl, rfl, rfl⟩) (fun t i j q => by unfold pM at q; omega) (by rw [wv_same, hs.aw])) (hv.fg (T := (fun t i j => t = 50 ∧ i = 0 ∧ j = 1)) (Fr.w1 ⟨rfl, rfl, rfl⟩) (fun t i j q => by omega))))
      · refine qm_go 2 (fun P hP => ?_)
        rw [hs.aw] at ca
        first
          | (have hz : ¬ b = 0 := z9
             rw [if_neg hz] at h
             first
               | (rw [if_pos ca] at h
                  exact h _ (Fr.w1 ⟨rfl, rfl, rfl⟩) (hs.fa (T := (fun t i j => t = 50 ∧ i = 0 ∧ j = 1)) (Fr.w1 ⟨rfl, rfl, rfl⟩) (fun t i j q => by unfold pM at q; omega) (by rw [wv_same, hs.aw])) (hv.fg (T := (fun t i j => t = 50 ∧ i = 0 ∧ j = 1)) (Fr.w1 ⟨rfl, rfl, rfl⟩) (fun t i j q => by omega)))
               | (rw [if_neg ca] at h
                  exact h _ (Fr.w1 ⟨rfl, rfl, rfl⟩) (hs.fa (T := (fun t i j => t = 50 ∧ i = 0 ∧ j = 1)) (Fr.w1 ⟨rfl, rfl, rfl⟩) (fun t i j q => by unfold pM at q; omega) (by rw [wv_same, hs.aw])) (hv.fg (T := (fun t i j => t = 50 ∧ i = 0 ∧ j = 1)) (Fr.w1 ⟨rfl, rfl, rfl⟩) (fun t i j q => by omega))))
          | (have hz : b = 0 := z9
             rw [if_pos hz] at h
             first
               | (rw [if_pos ca] at h
                  exact h _ (Fr.w1 ⟨rfl, rfl, rfl⟩) (hs.fa (T := (fun t i j => t = 50 ∧ i = 0 ∧ j = 1)) (Fr.w1 ⟨rfl, rfl, rfl⟩) (fun t i j q => by unfold pM at q; omega) (by rw [wv_same, hs.aw])) (hv.fg (T := (fun t i j => t = 50 ∧ i = 0 ∧ j = 1)) (Fr.w1 ⟨rfl, rfl, rfl⟩) (fun t i j q => by omega)))
               | (rw [if_neg ca] at h
                  exact h _ (Fr.w1 ⟨rfl, rfl, rfl⟩) (hs.fa (T := (fun t i j => t = 50 ∧ i = 0 ∧ j = 1)) (Fr.w1 ⟨rfl, rfl, rfl⟩) (fun t i j q => by unfold pM at q; omega) (by rw [wv_same, hs.aw])) (hv.fg (T := (fun t i j => t = 50 ∧ i = 0 ∧ j = 1)) (Fr.w1 ⟨rfl, rfl, rfl⟩) (fun t i j q => by omega))))
    · refine qm_go 1 (fun P hP => And.intro (fun _ => hP ?_) (fun c => absurd (by decide) c))
      refine qm_go 6 (fun P hP => m_puts (by omega) (fun z9 => hP ?_) (fun z9 => hP ?_))
      · refine qm_go 2 (fun P hP => ?_)
        rw [hs.aw] at ca
        first
          | (have hz : ¬ b = 0 := z9
             rw [if_neg hz] at h
             first
               | (rw [if_pos ca] at h
                  exact h _ (Fr.w1 ⟨rfl, rfl, rfl⟩) (hs.fa (T := (fun t i j => t = 50 ∧ i = 0 ∧ j = 1)) (Fr.w1 ⟨rfl, rfl, rfl⟩) (fun t i j q => by unfold pM at q; omega) (by rw [wv_same, hs.aw])) (hv.fg (T := (fun t i j => t = 50 ∧ i = 0 ∧ j = 1)) (Fr.w1 ⟨rfl, rfl, rfl⟩) (fun t i j q => by omega)))
               | (rw [if_neg ca] at h
                  exact h _ (Fr.w1 ⟨rfl, rfl, rfl⟩) (hs.fa (T := (fun t i j => t = 50 ∧ i = 0 ∧ j = 1)) (Fr.w1 ⟨rfl, rfl, rfl⟩) (fun t i j q => by unfold pM at q; omega) (by rw [wv_same, hs.aw])) (hv.fg (T := (fun t i j => t = 50 ∧ i = 0 ∧ j = 1)) (Fr.w1 ⟨rfl, rfl, rfl⟩) (fun t i j q => by omega))))
          | (have hz : b = 0 := z9
             rw [if_pos hz] at h
             first
               | (rw [if_pos ca] at h
                  exact h _ (Fr.w1 ⟨rfl, rfl, rfl⟩) (hs.fa (T := (fun t i j => t = 50 ∧ i = 0 ∧ j = 1)) (Fr.w1 ⟨rfl, rfl, rfl⟩) (fun t i j q => by unfold pM at q; omega) (by rw [wv_same, hs.aw])) (hv.fg (T := (fun t i j => t = 50 ∧ i = 0 ∧ j = 1)) (Fr.w1 ⟨rfl, rfl, rfl⟩) (fun t i j q => by omega)))
               | (rw [if_neg ca] at h
                  exact h _ (Fr.w1 ⟨rfl, rfl, rfl⟩) (hs.fa (T := (fun t i j => t = 50 ∧ i = 0 ∧ j = 1)) (Fr.w1 ⟨rfl, rfl, rfl⟩) (fun t i j q => by unfold pM at q; omega) (by rw [wv_same, hs.aw])) (hv.fg (T := (fun t i j => t = 50 ∧ i = 0 ∧ j = 1)) (Fr.w1 ⟨rfl, rfl, rfl⟩) (fun t i j q => by omega))))
      · refine qm_go 2 (fun P hP => ?_)
        rw [hs.aw] at ca
        first
          | (have hz : ¬ b = 0 := z9
             rw [if_neg hz] at h
             first
               | (rw [if_pos ca] at h
                  exact h _ (Fr.w1 ⟨rfl, rfl, rfl⟩) (hs.fa (T := (fun t i j => t = 50 ∧ i = 0 ∧ j = 1)) (Fr.w1 ⟨rfl, rfl, rfl⟩) (fun t i j q => by unfold pM at q; omega) (by rw [wv_same, hs.aw])) (hv.fg (T := (fun t i j => t = 50 ∧ i = 0 ∧ j = 1)) (Fr.w1 ⟨rfl, rfl, rfl⟩) (fun t i j q => by omega)))
               | (rw [if_neg ca] at h
                  exact h _ (Fr.w1 ⟨rfl, rfl, rfl⟩) (hs.fa (T := (fun t i j => t = 50 ∧ i = 0 ∧ j = 1)) (Fr.w1 ⟨rfl, rfl, rfl⟩) (fun t i j q => by unfold pM at q; omega) (by rw [wv_same, hs.aw])) (hv.fg (T := (fun t i j => t = 50 ∧ i = 0 ∧ j = 1)) (Fr.w1 ⟨rfl, rfl, rfl⟩) (fun t i j q => by omega))))
          | (have hz : b = 0 := z9
             rw [if_pos hz] at h
             first
               | (rw [if_pos ca] at h
                  exact h _ (Fr.w1 ⟨rfl, rfl, rfl⟩) (hs.fa (T := (fun t i j => t = 50 ∧ i = 0 ∧ j = 1)) (Fr.w1 ⟨rfl, rfl, rfl⟩) (fun t i j q => by unfold pM at q; omega) (by rw [wv_same, hs.aw])) (hv.fg (T := (fun t i j => t = 50 ∧ i = 0 ∧ j = 1)) (Fr.w1 ⟨rfl, rfl, rfl⟩) (fun t i j q => by omega)))
               | (rw [if_neg ca] at h
                  exact h _ (Fr.w1 ⟨rfl, rfl, rfl⟩) (hs.fa (T := (fun t i j => t = 50 ∧ i = 0 ∧ j = 1)) (Fr.w1 ⟨rfl, rfl, rfl⟩) (fun t i j q => by unfold pM at q; omega) (by rw [wv_same, hs.aw])) (hv.fg (T := (fun t i j => t = 50 ∧ i = 0 ∧ j = 1)) (Fr.w1 ⟨rfl, rfl, rfl⟩) (fun t i j q => by omega))))
  · refine qm_go 1 (fun P hP => And.intro (fun c => absurd (by decide) c) (fun _ => hP ?_))
    refine qm_go 2 (fun P hP => ?_)
    have z := away_1 (A := A) (s := s) (b := b) ch
    rw [z.1, z.2] at h
    exact h σ Fr.rf hs hv
