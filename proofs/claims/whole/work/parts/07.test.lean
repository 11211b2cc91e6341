theorem t_has (d X : Nat) (σ : qm_Sg) (p : Int32) (Q : qm_Po) (h1 : 0 ≤ p → p < σ.1 10 X 2 → Q σ (some (vI 1))) (h0 : ¬ (0 ≤ p ∧ p < σ.1 10 X 2) → Q σ (some (vI 0))) : qm_M (d + 1) 21 [vR 10 X, vI p] σ Q := by
  show qm_Wp (qm_M d) qk_21 Q 0 [some (vR 10 X), some (vI p)] [] σ
  refine qm_go 2 (fun P hP => And.intro (fun c => hP ?_) (fun c => hP ?_))
  · refine qm_go 2 (fun P hP => And.intro rfl (h0 ?_))
    sorry
  · refine qm_go 4 (fun P hP => And.intro (fun c => hP ?_) (fun c => hP ?_))
    · refine qm_go 2 (fun P hP => And.intro rfl (h0 ?_))
      trace_state
      sorry
    · refine qm_go 3 (fun P hP => And.intro rfl (h1 ?_ ?_))
      · sorry
      · sorry
theorem t_comes (d : Nat) (σ : qm_Sg) (p n : Int32) (Q : qm_Po) (hch : ∀ Q', Q' σ (some (vI (nI 3))) → qm_M d 146 [vR 50 0, vI p] σ Q') (hl : ∀ Q' a b σ, Q' σ (some (vI (if a < b then a else b))) → qm_M d 111 [vR 50 0, vI a, vI b] σ Q') : qm_M (d + 1) 149 [vR 50 0, vI p, vI n] σ Q := by
  show qm_Wp (qm_M d) qk_149 Q 0 [some (vR 50 0), some (vI p), some (vI n), none] [] σ
  refine qm_go 3 (fun P hP => hch _ (hP ?_))
  trace_state
  refine qm_go 3 (fun P hP => And.intro (fun c => hP ?_) (fun c => hP ?_))
  · refine qm_go 8 (fun P hP => Exists.intro 3 (And.intro (And.intro rfl (by decide)) (hP ?_)))
    trace_state
    refine qm_go 4 (fun P hP => hl _ _ _ _ (hP ?_))
    refine qm_go 1 (fun P hP => Exists.intro 3 (And.intro (And.intro rfl (by decide)) (hP ?_)))
    trace_state
    sorry
  · sorry
