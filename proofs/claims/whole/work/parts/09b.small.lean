theorem c_isWithin {d : Nat} (hd : 1 ≤ d) {σ : qm_Sg} {Q : qm_Po} {a : Int32} {n : Nat} (hn : n < 2 ^ 31) (h1 : inR a n → Q σ (some (vI 1))) (h0 : ¬ inR a n → Q σ (some (vI 0))) : qm_M d 96 [vI a, vI (nI n)] σ Q := by
  obtain ⟨d, rfl, hd⟩ := qm_dn hd
  show qm_Wp (qm_M d) qk_96 Q 0 [some (vI a), some (vI (nI n))] [] σ
  refine qm_go 2 (fun P hP => And.intro (fun c1 => hP ?_) (fun c1 => hP ?_))
  · refine qm_go 2 (fun P hP => And.intro rfl ?_)
    first | exact h1 (inR_of hn c1 c4) | exact h0 (fun h => (inR_ge hn h).1 c1) | exact h0 (fun h => (inR_ge hn h).2 c4)
  · refine qm_go 3 (fun P hP => And.intro (fun c4 => hP ?_) (fun c4 => hP ?_))
    · refine qm_go 2 (fun P hP => And.intro rfl ?_)
      first | exact h1 (inR_of hn c1 c4) | exact h0 (fun h => (inR_ge hn h).1 c1) | exact h0 (fun h => (inR_ge hn h).2 c4)
    · refine qm_go 3 (fun P hP => And.intro rfl ?_)
      first | exact h1 (inR_of hn c1 c4) | exact h0 (fun h => (inR_ge hn h).1 c1) | exact h0 (fun h => (inR_ge hn h).2 c4)
theorem c_isAmount {d : Nat} (hd : 1 ≤ d) {σ : qm_Sg} {Q : qm_Po} {a : Int32} (h1 : inR a 10000 → Q σ (some (vI 1))) (h0 : ¬ inR a 10000 → Q σ (some (vI 0))) : qm_M d 97 [vI a] σ Q := by
  obtain ⟨d, rfl, hd⟩ := qm_dn hd
  show qm_Wp (qm_M d) qk_97 Q 0 [some (vI a)] [] σ
  refine qm_go 2 (fun P hP => And.intro (fun c1 => hP ?_) (fun c1 => hP ?_))
  · refine qm_go 2 (fun P hP => And.intro rfl ?_)
    first | exact h1 (inR_of' (n := 10000) (by decide) c1 c4) | exact h0 (fun h => (inR_lt' (by decide) h).1 c1) | exact h0 (fun h => (inR_lt' (n := 10000) (by decide) h).2 c4)
  · refine qm_go 3 (fun P hP => And.intro (fun c4 => hP ?_) (fun c4 => hP ?_))
    · refine qm_go 2 (fun P hP => And.intro rfl ?_)
      first | exact h1 (inR_of' (n := 10000) (by decide) c1 c4) | exact h0 (fun h => (inR_lt' (by decide) h).1 c1) | exact h0 (fun h => (inR_lt' (n := 10000) (by decide) h).2 c4)
    · refine qm_go 3 (fun P hP => And.intro rfl ?_)
      first | exact h1 (inR_of' (n := 10000) (by decide) c1 c4) | exact h0 (fun h => (inR_lt' (by decide) h).1 c1) | exact h0 (fun h => (inR_lt' (n := 10000) (by decide) h).2 c4)
theorem c_has {d : Nat} (hd : 1 ≤ d) {σ : qm_Sg} {Q : qm_Po} {a : Int32} {n X : Nat} (hn : n < 2 ^ 31) (hs : σ.1 10 X 2 = nI n) (h1 : inR a n → Q σ (some (vI 1))) (h0 : ¬ inR a n → Q σ (some (vI 0))) : qm_M d 21 [vR 10 X, vI a] σ Q := by
  obtain ⟨d, rfl, hd⟩ := qm_dn hd
  show qm_Wp (qm_M d) qk_21 Q 0 [some (vR 10 X), some (vI a)] [] σ
  refine qm_go 2 (fun P hP => And.intro (fun c1 => hP ?_) (fun c1 => hP ?_))
  · refine qm_go 2 (fun P hP => And.intro rfl ?_)
    first | exact h1 (inR_of hn c1 (by rw [← hs]; exact c5)) | exact h0 (fun h => (inR_ge hn h).1 c1) | exact h0 (fun h => (inR_ge hn h).2 (by rw [← hs]; exact c5))
  · refine qm_go 4 (fun P hP => And.intro (fun c5 => hP ?_) (fun c5 => hP ?_))
    · refine qm_go 2 (fun P hP => And.intro rfl ?_)
      first | exact h1 (inR_of hn c1 (by rw [← hs]; exact c5)) | exact h0 (fun h => (inR_ge hn h).1 c1) | exact h0 (fun h => (inR_ge hn h).2 (by rw [← hs]; exact c5))
    · refine qm_go 3 (fun P hP => And.intro rfl ?_)
      first | exact h1 (inR_of hn c1 (by rw [← hs]; exact c5)) | exact h0 (fun h => (inR_ge hn h).1 c1) | exact h0 (fun h => (inR_ge hn h).2 (by rw [← hs]; exact c5))
theorem c_isAway {d : Nat} (hd : 1 ≤ d) {σ : qm_Sg} {Q : qm_Po} {p X : Nat} (h1 : isAw (σ.1 10 X 7) p → Q σ (some (vI 1))) (h0 : ¬ isAw (σ.1 10 X 7) p → Q σ (some (vI 0))) : qm_M d 22 [vR 10 X, vI (nI p)] σ Q := by
  obtain ⟨d, rfl, hd⟩ := qm_dn hd
  show qm_Wp (qm_M d) qk_22 Q 0 [some (vR 10 X), some (vI (nI p))] [] σ
  refine qm_go 8 (fun P hP => And.intro (fun c7 => hP ?_) (fun c7 => hP ?_))
  · refine qm_go 2 (fun P hP => And.intro rfl ?_)
    first | exact h1 c7 | exact h0 c7
  · refine qm_go 3 (fun P hP => And.intro rfl ?_)
    first | exact h1 c7 | exact h0 c7
theorem c_puts {d : Nat} (hd : 1 ≤ d) {σ : qm_Sg} {Q : qm_Po} {a b : Int32} {X : Nat} (h1 : ¬ b = 0 → Q (wF σ 10 X (upd (σ.1 10 X) 7 (σ.1 10 X 7 ||| 1 <<< (a &&& 31)))) none) (h0 : b = 0 → Q (wF σ 10 X (upd (σ.1 10 X) 7 (σ.1 10 X 7 &&& ((1 <<< (a &&& 31)) ^^^ (-1))))) none) : qm_M d 23 [vR 10 X, vI a, vI b] σ Q := by
  obtain ⟨d, rfl, hd⟩ := qm_dn hd
  show qm_Wp (qm_M d) qk_23 Q 0 [some (vR 10 X), some (vI a), some (vI b)] [] σ
  refine qm_go 3 (fun P hP => And.intro (fun c2 => hP ?_) (fun c2 => hP ?_))
  · refine qm_go 10 (fun P hP => ?_)
    first | exact h1 c2 | exact h0 c2
  · refine qm_go 9 (fun P hP => ?_)
    first | exact h1 c2 | exact h0 c2
theorem m_in {d : Nat} (hd : 1 ≤ d) {σ : qm_Sg} {Q : qm_Po} {a lo hi : Int32} (h1 : ¬ a < lo → ¬ hi < a → Q σ (some (vI 1))) (h0 : ¬ (¬ a < lo ∧ ¬ hi < a) → Q σ (some (vI 0))) : qm_M d 109 [vR 50 0, vI a, vI lo, vI hi] σ Q := by
  obtain ⟨d, rfl, hd⟩ := qm_dn hd
  show qm_Wp (qm_M d) qk_109 Q 0 [some (vR 50 0), some (vI a), some (vI lo), some (vI hi)] [] σ
  refine qm_go 3 (fun P hP => And.intro (fun c2 => hP ?_) (fun c2 => hP ?_))
  · refine qm_go 2 (fun P hP => And.intro rfl ?_)
    first | exact h1 c2 c5 | exact h0 (fun h => h.1 c2) | exact h0 (fun h => h.2 c5)
  · refine qm_go 3 (fun P hP => And.intro (fun c5 => hP ?_) (fun c5 => hP ?_))
    · refine qm_go 2 (fun P hP => And.intro rfl ?_)
      first | exact h1 c2 c5 | exact h0 (fun h => h.1 c2) | exact h0 (fun h => h.2 c5)
    · refine qm_go 3 (fun P hP => And.intro rfl ?_)
      first | exact h1 c2 c5 | exact h0 (fun h => h.1 c2) | exact h0 (fun h => h.2 c5)
theorem m_inR {d : Nat} (hd : 1 ≤ d) {σ : qm_Sg} {Q : qm_Po} {a hi : Int32} (n : Nat) (hn : n < 2 ^ 31) (hh : hi = nI n - 1) (h1 : inR a n → Q σ (some (vI 1))) (h0 : ¬ inR a n → Q σ (some (vI 0))) : qm_M d 109 [vR 50 0, vI a, vI 0, vI hi] σ Q := by
  subst hh
  exact m_in hd (fun c1 c2 => h1 (inR_of' hn c1 c2)) (fun c => h0 (fun h => c (inR_lt' hn h)))
theorem m_has {d : Nat} (hd : 1 ≤ d) {σ : qm_Sg} {Q : qm_Po} {s : Int32} {p : Nat} (h1 : isAw s p → Q σ (some (vI 1))) (h0 : ¬ isAw s p → Q σ (some (vI 0))) : qm_M d 110 [vR 50 0, vI s, vI (nI p)] σ Q := by
  obtain ⟨d, rfl, hd⟩ := qm_dn hd
  show qm_Wp (qm_M d) qk_110 Q 0 [some (vR 50 0), some (vI s), some (vI (nI p))] [] σ
  refine qm_go 7 (fun P hP => And.intro (fun c6 => hP ?_) (fun c6 => hP ?_))
  · refine qm_go 2 (fun P hP => And.intro rfl ?_)
    first | exact h1 c6 | exact h0 c6
  · refine qm_go 3 (fun P hP => And.intro rfl ?_)
    first | exact h1 c6 | exact h0 c6
theorem m_least {d : Nat} (hd : 1 ≤ d) {σ : qm_Sg} {Q : qm_Po} {a b : Int32} (h : Q σ (some (vI (if a < b then a else b)))) : qm_M d 111 [vR 50 0, vI a, vI b] σ Q := by
  obtain ⟨d, rfl, hd⟩ := qm_dn hd
  show qm_Wp (qm_M d) qk_111 Q 0 [some (vR 50 0), some (vI a), some (vI b)] [] σ
  refine qm_go 3 (fun P hP => And.intro (fun c2 => hP ?_) (fun c2 => hP ?_))
  · refine qm_go 2 (fun P hP => ?_)
    first | (rw [if_neg (fun q => absurd c2 (by rw [i_le]; rw [i_lt] at q; omega))] at h; exact h) | (rw [if_pos (by rw [i_lt]; rw [i_le] at c2; omega)] at h; exact h)
  · refine qm_go 3 (fun P hP => ?_)
    first | (rw [if_neg (fun q => absurd c2 (by rw [i_le]; rw [i_lt] at q; omega))] at h; exact h) | (rw [if_pos (by rw [i_lt]; rw [i_le] at c2; omega)] at h; exact h)
theorem m_isOne {d : Nat} (hd : 2 ≤ d) {σ : qm_Sg} {Q : qm_Po} {a : Int32} {n : Nat} (hn : n < 2 ^ 31) (hs : σ.1 50 0 0 = nI n) (h1 : inR a n → Q σ (some (vI 1))) (h0 : ¬ inR a n → Q σ (some (vI 0))) : qm_M d 113 [vR 50 0, vI a] σ Q := by
  obtain ⟨d, rfl, hd⟩ := qm_dn hd
  show qm_Wp (qm_M d) qk_113 Q 0 [some (vR 50 0), some (vI a)] [] σ
  refine qm_go 8 (fun P hP => m_inR (by omega) n hn (by rw [hs]) (fun c => hP ?_) (fun c => hP ?_))
  · refine qm_go 1 (fun P hP => And.intro rfl ?_)
    first | exact h1 c | exact h0 c
  · refine qm_go 1 (fun P hP => And.intro rfl ?_)
    first | exact h1 c | exact h0 c
theorem m_isMany {d : Nat} (hd : 2 ≤ d) {σ : qm_Sg} {Q : qm_Po} {a : Int32} (h1 : inR a 10000 → Q σ (some (vI 1))) (h0 : ¬ inR a 10000 → Q σ (some (vI 0))) : qm_M d 114 [vR 50 0, vI a] σ Q := by
  obtain ⟨d, rfl, hd⟩ := qm_dn hd
  show qm_Wp (qm_M d) qk_114 Q 0 [some (vR 50 0), some (vI a)] [] σ
  refine qm_go 5 (fun P hP => m_inR (by omega) 10000 (by decide) rfl (fun c => hP ?_) (fun c => hP ?_))
  · refine qm_go 1 (fun P hP => And.intro rfl ?_)
    first | exact h1 c | exact h0 c
  · refine qm_go 1 (fun P hP => And.intro rfl ?_)
    first | exact h1 c | exact h0 c
theorem m_isMornings {d : Nat} (hd : 2 ≤ d) {σ : qm_Sg} {Q : qm_Po} {a : Int32} (h1 : inR a 61 → Q σ (some (vI 1))) (h0 : ¬ inR a 61 → Q σ (some (vI 0))) : qm_M d 115 [vR 50 0, vI a] σ Q := by
  obtain ⟨d, rfl, hd⟩ := qm_dn hd
  show qm_Wp (qm_M d) qk_115 Q 0 [some (vR 50 0), some (vI a)] [] σ
  refine qm_go 5 (fun P hP => m_inR (by omega) 61 (by decide) rfl (fun c => hP ?_) (fun c => hP ?_))
  · refine qm_go 1 (fun P hP => And.intro rfl ?_)
    first | exact h1 c | exact h0 c
  · refine qm_go 1 (fun P hP => And.intro rfl ?_)
    first | exact h1 c | exact h0 c
theorem m_isTape {d : Nat} (hd : 2 ≤ d) {σ : qm_Sg} {Q : qm_Po} {a : Int32} (h1 : inR a 6 → Q σ (some (vI 1))) (h0 : ¬ inR a 6 → Q σ (some (vI 0))) : qm_M d 191 [vR 50 0, vI a] σ Q := by
  obtain ⟨d, rfl, hd⟩ := qm_dn hd
  show qm_Wp (qm_M d) qk_191 Q 0 [some (vR 50 0), some (vI a)] [] σ
  refine qm_go 5 (fun P hP => m_inR (by omega) 6 (by decide) rfl (fun c => hP ?_) (fun c => hP ?_))
  · refine qm_go 1 (fun P hP => And.intro rfl ?_)
    first | exact h1 c | exact h0 c
  · refine qm_go 1 (fun P hP => And.intro rfl ?_)
    first | exact h1 c | exact h0 c
theorem m_puts {d : Nat} (hd : 1 ≤ d) {σ : qm_Sg} {Q : qm_Po} {a b : Int32} (h1 : ¬ b = 0 → Q (wF σ 50 0 (upd (σ.1 50 0) 1 (σ.1 50 0 1 ||| 1 <<< (a &&& 31)))) none) (h0 : b = 0 → Q (wF σ 50 0 (upd (σ.1 50 0) 1 (σ.1 50 0 1 &&& ((1 <<< (a &&& 31)) ^^^ (-1))))) none) : qm_M d 118 [vR 50 0, vI a, vI b] σ Q := by
  obtain ⟨d, rfl, hd⟩ := qm_dn hd
  show qm_Wp (qm_M d) qk_118 Q 0 [some (vR 50 0), some (vI a), some (vI b)] [] σ
  refine qm_go 3 (fun P hP => And.intro (fun c2 => hP ?_) (fun c2 => hP ?_))
  · refine qm_go 10 (fun P hP => ?_)
    first | exact h1 c2 | exact h0 c2
  · refine qm_go 9 (fun P hP => ?_)
    first | exact h1 c2 | exact h0 c2
