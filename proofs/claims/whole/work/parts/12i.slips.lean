theorem l_app {α : Type} {P P' : Nat → α → Prop} {R : List α} {x : α} (h0 : ∀ i q, R[i]? = some q → P i q) (h1 : ∀ i q, i < R.length → P i q → P' i q) (hx : P' R.length x) : ∀ i q, (R ++ [x])[i]? = some q → P' i q := by
  intro i q hq
  by_cases e : i < R.length
  · rw [List.getElem?_append_left e] at hq
    exact h1 i q e (h0 i q hq)
  · rw [List.getElem?_append_right (by omega)] at hq
    have : i = R.length := by
      have := (List.getElem?_eq_some_iff.mp hq).1
      simp only [List.length_cons, List.length_nil] at this
      omega
    subst this
    rw [Nat.sub_self] at hq
    cases hq
    exact hx
def tSl (t0 t i j : Nat) : Prop := i = 0 ∧ ((t = t0 ∧ j = 1) ∨ (t0 + 1 ≤ t ∧ t ≤ t0 + 3))
theorem c_clears16 {d : Nat} (hd : 1 ≤ d) {σ : qm_Sg} {Q : qm_Po}  (h : ∀ σ', Fr (tSl 16) σ σ' → σ'.1 16 0 1 = 0 → Q σ' (some (vI 0))) : qm_M d 45 [vR 16 0] σ Q := by
  obtain ⟨d, rfl, hd⟩ := qm_dn hd
  show qm_Wp (qm_M d) qk_45 Q 0 [some (vR 16 0)] [] σ
  refine qm_go 5 (fun P hP => h _ (Fr.w1 ⟨rfl, Or.inl ⟨rfl, rfl⟩⟩) wv_same)
theorem c_adds16 {d : Nat} (hd : 1 ≤ d) {σ : qm_Sg} {Q : qm_Po} {n : Nat} {a b c : Int32} (hm : σ.1 16 0 0 = 5) (hn : σ.1 16 0 1 = nI n) (hl : n ≤ 5) (h0 : n = 5 → Q σ (some (vI (-4)))) (h : n < 5 → ∀ σ', Fr (tSl 16) σ σ' → (∀ j, j ≠ n → σ'.1 17 0 j = σ.1 17 0 j ∧ σ'.1 18 0 j = σ.1 18 0 j ∧ σ'.1 19 0 j = σ.1 19 0 j) → σ'.1 16 0 1 = nI (n + 1) → σ'.1 17 0 n = a → σ'.1 18 0 n = b → σ'.1 19 0 n = c → Q σ' (some (vI (nI (n + 1))))) : qm_M d 46 [vR 16 0, vI a, vI b, vI c] σ Q := by
  obtain ⟨d, rfl, hd⟩ := qm_dn hd
  show qm_Wp (qm_M d) qk_46 Q 0 [some (vR 16 0), some (vI a), some (vI b), some (vI c)] [] σ
  refine qm_go 5 (fun P hP => And.intro (fun c4 => hP ?_) (fun c4 => hP ?_))
  · have hq : n < 5 := by
      by_cases e : n = 5
      · exact absurd (by rw [hn, hm, e]; rfl) c4
      · omega
    refine qm_go 6 (fun P hP => Exists.intro (n) (And.intro (And.intro (hn) (hq)) (hP ?_)))
    refine qm_go 6 (fun P hP => Exists.intro (n) (And.intro (And.intro (hn) (hq)) (hP ?_)))
    refine qm_go 6 (fun P hP => Exists.intro (n) (And.intro (And.intro (hn) (hq)) (hP ?_)))
    refine qm_go 6 (fun P hP => hP ?_)
    generalize hσ : wF _ 16 0 (upd _ 1 _) = σ'
    have F : Fr (tSl 16) σ σ' := by
      rw [← hσ]
      exact Fr.p1 (Fr.p1 (Fr.p1 (Fr.w1 ⟨rfl, Or.inr ⟨by decide, by decide⟩⟩) ⟨rfl, Or.inr ⟨by decide, by decide⟩⟩) ⟨rfl, Or.inr ⟨by decide, by decide⟩⟩) ⟨rfl, Or.inl ⟨rfl, rfl⟩⟩
    have e1 : σ'.1 16 0 1 = nI (n + 1) := by
      rw [← hσ, wv_same, wF_ne _ _ (by omega), wF_ne _ _ (by omega), wF_ne _ _ (by omega), hn, nI_1]
    have h := h hq σ' F (fun j hj => ?_) e1 (by rw [← hσ, wF_ne _ _ (by omega), wF_ne _ _ (by omega), wF_ne _ _ (by omega), wv_same]) (by rw [← hσ, wF_ne _ _ (by omega), wF_ne _ _ (by omega), wv_same]) (by rw [← hσ, wF_ne _ _ (by omega), wv_same])
    · rw [← e1] at h
      exact qm_go 3 (fun P hP => h)
    · exact ⟨by rw [← hσ, wF_ne _ _ (by omega), wF_ne _ _ (by omega), wF_ne _ _ (by omega), wv_ne hj], by rw [← hσ, wF_ne _ _ (by omega), wF_ne _ _ (by omega), wv_ne hj, wF_ne _ _ (by omega)], by rw [← hσ, wF_ne _ _ (by omega), wv_ne hj, wF_ne _ _ (by omega), wF_ne _ _ (by omega)]⟩
  · have hq : n = 5 := by
      rw [hn, hm] at c4
      exact (nI_eq (b := 5) (by omega) (by decide)).mp c4
    refine qm_go 2 (fun P hP => h0 hq)
theorem c_clears20 {d : Nat} (hd : 1 ≤ d) {σ : qm_Sg} {Q : qm_Po}  (h : ∀ σ', Fr (tSl 20) σ σ' → σ'.1 20 0 1 = 0 → Q σ' (some (vI 0))) : qm_M d 45 [vR 20 0] σ Q := by
  obtain ⟨d, rfl, hd⟩ := qm_dn hd
  show qm_Wp (qm_M d) qk_45 Q 0 [some (vR 20 0)] [] σ
  refine qm_go 5 (fun P hP => h _ (Fr.w1 ⟨rfl, Or.inl ⟨rfl, rfl⟩⟩) wv_same)
theorem c_adds20 {d : Nat} (hd : 1 ≤ d) {σ : qm_Sg} {Q : qm_Po} {n : Nat} {a b c : Int32} (hm : σ.1 20 0 0 = 10) (hn : σ.1 20 0 1 = nI n) (hl : n ≤ 10) (h0 : n = 10 → Q σ (some (vI (-4)))) (h : n < 10 → ∀ σ', Fr (tSl 20) σ σ' → (∀ j, j ≠ n → σ'.1 21 0 j = σ.1 21 0 j ∧ σ'.1 22 0 j = σ.1 22 0 j ∧ σ'.1 23 0 j = σ.1 23 0 j) → σ'.1 20 0 1 = nI (n + 1) → σ'.1 21 0 n = a → σ'.1 22 0 n = b → σ'.1 23 0 n = c → Q σ' (some (vI (nI (n + 1))))) : qm_M d 46 [vR 20 0, vI a, vI b, vI c] σ Q := by
  obtain ⟨d, rfl, hd⟩ := qm_dn hd
  show qm_Wp (qm_M d) qk_46 Q 0 [some (vR 20 0), some (vI a), some (vI b), some (vI c)] [] σ
  refine qm_go 5 (fun P hP => And.intro (fun c4 => hP ?_) (fun c4 => hP ?_))
  · have hq : n < 10 := by
      by_cases e : n = 10
      · exact absurd (by rw [hn, hm, e]; rfl) c4
      · omega
    refine qm_go 6 (fun P hP => Exists.intro (n) (And.intro (And.intro (hn) (hq)) (hP ?_)))
    refine qm_go 6 (fun P hP => Exists.intro (n) (And.intro (And.intro (hn) (hq)) (hP ?_)))
    refine qm_go 6 (fun P hP => Exists.intro (n) (And.intro (And.intro (hn) (hq)) (hP ?_)))
    refine qm_go 6 (fun P hP => hP ?_)
    generalize hσ : wF _ 20 0 (upd _ 1 _) = σ'
    have F : Fr (tSl 20) σ σ' := by
      rw [← hσ]
      exact Fr.p1 (Fr.p1 (Fr.p1 (Fr.w1 ⟨rfl, Or.inr ⟨by decide, by decide⟩⟩) ⟨rfl, Or.inr ⟨by decide, by decide⟩⟩) ⟨rfl, Or.inr ⟨by decide, by decide⟩⟩) ⟨rfl, Or.inl ⟨rfl, rfl⟩⟩
    have e1 : σ'.1 20 0 1 = nI (n + 1) := by
      rw [← hσ, wv_same, wF_ne _ _ (by omega), wF_ne _ _ (by omega), wF_ne _ _ (by omega), hn, nI_1]
    have h := h hq σ' F (fun j hj => ?_) e1 (by rw [← hσ, wF_ne _ _ (by omega), wF_ne _ _ (by omega), wF_ne _ _ (by omega), wv_same]) (by rw [← hσ, wF_ne _ _ (by omega), wF_ne _ _ (by omega), wv_same]) (by rw [← hσ, wF_ne _ _ (by omega), wv_same])
    · rw [← e1] at h
      exact qm_go 3 (fun P hP => h)
    · exact ⟨by rw [← hσ, wF_ne _ _ (by omega), wF_ne _ _ (by omega), wF_ne _ _ (by omega), wv_ne hj], by rw [← hσ, wF_ne _ _ (by omega), wF_ne _ _ (by omega), wv_ne hj, wF_ne _ _ (by omega)], by rw [← hσ, wF_ne _ _ (by omega), wv_ne hj, wF_ne _ _ (by omega), wF_ne _ _ (by omega)]⟩
  · have hq : n = 10 := by
      rw [hn, hm] at c4
      exact (nI_eq (b := 10) (by omega) (by decide)).mp c4
    refine qm_go 2 (fun P hP => h0 hq)
theorem c_clears24 {d : Nat} (hd : 1 ≤ d) {σ : qm_Sg} {Q : qm_Po}  (h : ∀ σ', Fr (tSl 24) σ σ' → σ'.1 24 0 1 = 0 → Q σ' (some (vI 0))) : qm_M d 45 [vR 24 0] σ Q := by
  obtain ⟨d, rfl, hd⟩ := qm_dn hd
  show qm_Wp (qm_M d) qk_45 Q 0 [some (vR 24 0)] [] σ
  refine qm_go 5 (fun P hP => h _ (Fr.w1 ⟨rfl, Or.inl ⟨rfl, rfl⟩⟩) wv_same)
theorem c_adds24 {d : Nat} (hd : 1 ≤ d) {σ : qm_Sg} {Q : qm_Po} {n : Nat} {a b c : Int32} (hm : σ.1 24 0 0 = 8) (hn : σ.1 24 0 1 = nI n) (hl : n ≤ 8) (h0 : n = 8 → Q σ (some (vI (-4)))) (h : n < 8 → ∀ σ', Fr (tSl 24) σ σ' → (∀ j, j ≠ n → σ'.1 25 0 j = σ.1 25 0 j ∧ σ'.1 26 0 j = σ.1 26 0 j ∧ σ'.1 27 0 j = σ.1 27 0 j) → σ'.1 24 0 1 = nI (n + 1) → σ'.1 25 0 n = a → σ'.1 26 0 n = b → σ'.1 27 0 n = c → Q σ' (some (vI (nI (n + 1))))) : qm_M d 46 [vR 24 0, vI a, vI b, vI c] σ Q := by
  obtain ⟨d, rfl, hd⟩ := qm_dn hd
  show qm_Wp (qm_M d) qk_46 Q 0 [some (vR 24 0), some (vI a), some (vI b), some (vI c)] [] σ
  refine qm_go 5 (fun P hP => And.intro (fun c4 => hP ?_) (fun c4 => hP ?_))
  · have hq : n < 8 := by
      by_cases e : n = 8
      · exact absurd (by rw [hn, hm, e]; rfl) c4
      · omega
    refine qm_go 6 (fun P hP => Exists.intro (n) (And.intro (And.intro (hn) (hq)) (hP ?_)))
    refine qm_go 6 (fun P hP => Exists.intro (n) (And.intro (And.intro (hn) (hq)) (hP ?_)))
    refine qm_go 6 (fun P hP => Exists.intro (n) (And.intro (And.intro (hn) (hq)) (hP ?_)))
    refine qm_go 6 (fun P hP => hP ?_)
    generalize hσ : wF _ 24 0 (upd _ 1 _) = σ'
    have F : Fr (tSl 24) σ σ' := by
      rw [← hσ]
      exact Fr.p1 (Fr.p1 (Fr.p1 (Fr.w1 ⟨rfl, Or.inr ⟨by decide, by decide⟩⟩) ⟨rfl, Or.inr ⟨by decide, by decide⟩⟩) ⟨rfl, Or.inr ⟨by decide, by decide⟩⟩) ⟨rfl, Or.inl ⟨rfl, rfl⟩⟩
    have e1 : σ'.1 24 0 1 = nI (n + 1) := by
      rw [← hσ, wv_same, wF_ne _ _ (by omega), wF_ne _ _ (by omega), wF_ne _ _ (by omega), hn, nI_1]
    have h := h hq σ' F (fun j hj => ?_) e1 (by rw [← hσ, wF_ne _ _ (by omega), wF_ne _ _ (by omega), wF_ne _ _ (by omega), wv_same]) (by rw [← hσ, wF_ne _ _ (by omega), wF_ne _ _ (by omega), wv_same]) (by rw [← hσ, wF_ne _ _ (by omega), wv_same])
    · rw [← e1] at h
      exact qm_go 3 (fun P hP => h)
    · exact ⟨by rw [← hσ, wF_ne _ _ (by omega), wF_ne _ _ (by omega), wF_ne _ _ (by omega), wv_ne hj], by rw [← hσ, wF_ne _ _ (by omega), wF_ne _ _ (by omega), wv_ne hj, wF_ne _ _ (by omega)], by rw [← hσ, wF_ne _ _ (by omega), wv_ne hj, wF_ne _ _ (by omega), wF_ne _ _ (by omega)]⟩
  · have hq : n = 8 := by
      rw [hn, hm] at c4
      exact (nI_eq (b := 8) (by omega) (by decide)).mp c4
    refine qm_go 2 (fun P hP => h0 hq)
