theorem cS.kind {X : Nat} {σ : qm_Sg} {A : AS} (h : cS X σ A) {p : Nat} (hp : p < A.1) : ∃ k, k < 7 ∧ A.2.1 p = nI k := by
  have hn := h.le
  obtain ⟨kd, vv, rw9, q1, q2, q3, h1, h2, h3, h4, h5, h6, h7, h8⟩ := h
  obtain ⟨k, hk, e⟩ := h7 p hp
  exact ⟨k, hk, by rw [← q1 p (by omega)]; exact e⟩
theorem mS.kind {σ : qm_Sg} {A : AS} (h : mS σ A) {p : Nat} (hp : p < A.1) : ∃ k, k < 7 ∧ A.2.1 p = nI k := by
  have hn := h.le
  obtain ⟨kd, vv, rw9, q1, q2, q3, h1, h2, h3, h4, h5, h6, h7, h8⟩ := h
  obtain ⟨k, hk, e⟩ := h7 p hp
  exact ⟨k, hk, by rw [← q1 p (by omega)]; exact e⟩
def actV (k p : Nat) (v a x : Int32) : Int32 × List Nat := if a = 0 then rolF k p v x else if a = 1 then yawF k p v x else if a = 2 then telF k p v x else (0, [])
def actR (A : AS) (s a x : Int32) : Int32 × List Nat := if inP s A.1 then actV (tN (A.2.1 (tN s))) (tN s) (A.2.2.1 (tN s)) a x else (0, [])
theorem actR_no {A : AS} {s a x : Int32} (h : ¬ inR s A.1) : actR A s a x = (0, []) := if_neg h
theorem actR_in {A : AS} {p k : Nat} {a x : Int32} (hn : A.1 ≤ 6) (hp : p < A.1) (hk : k < 7) (e : A.2.1 p = nI k) : actR A (nI p) a x = actV k p (A.2.2.1 p) a x := by
  unfold actR
  rw [if_pos ⟨p, hp, rfl⟩, tN_nI (by omega), e, tN_nI (by omega)]
theorem actV_0 {k p : Nat} {v a x : Int32} (h : a = 0) : actV k p v a x = rolF k p v x := if_pos h
theorem actV_1 {k p : Nat} {v a x : Int32} (h0 : ¬ a = 0) (h : a = 1) : actV k p v a x = yawF k p v x := (if_neg h0).trans (if_pos h)
theorem actV_2 {k p : Nat} {v a x : Int32} (h0 : ¬ a = 0) (h1 : ¬ a = 1) (h : a = 2) : actV k p v a x = telF k p v x := (if_neg h0).trans ((if_neg h1).trans (if_pos h))
theorem actV_3 {k p : Nat} {v a x : Int32} (h0 : ¬ a = 0) (h1 : ¬ a = 1) (h : ¬ a = 2) : actV k p v a x = (0, []) := (if_neg h0).trans ((if_neg h1).trans (if_neg h))
theorem c_act {d : Nat} (hd : 9 ≤ d) {σ : qm_Sg} {Q : qm_Po} {A : AS} {s a x : Int32} (hs : cS 0 σ A) (h : ∀ σ', Fr tA σ σ' → cTr σ' (actR A s a x).2 → Q σ' (some (vI (actR A s a x).1))) : qm_M d 88 [vR 0 0, vI s, vI a, vI x] σ Q := by
  obtain ⟨d, rfl, hd⟩ := qm_dn hd
  show qm_Wp (qm_M d) qk_88 Q 0 [some (vR 0 0), some (vI s), some (vI a), some (vI x), none] [] σ
  have hn6 := hs.le
  by_cases hin : inR s A.1
  · obtain ⟨p, hp, rfl⟩ := hin
    have hp6 : p < 6 := by omega
    obtain ⟨k, hk, ek⟩ := hs.kind hp
    rw [actR_in hn6 hp hk ek] at h
    rcases (show k = 0 ∨ k = 1 ∨ k = 2 ∨ k = 3 ∨ k = 4 ∨ k = 5 ∨ k = 6 by omega) with rfl | rfl | rfl | rfl | rfl | rfl | rfl
    · skip
      refine qm_go 5 (fun P hP => hP ?_)
      generalize hσ : wF _ 1 0 (upd _ 1 _) = σ1
      have F : Fr tA σ σ1 := by
        rw [← hσ]
        exact Fr.w1 (Or.inl rfl)
      have t1 : cTr σ1 [] := ⟨by rw [← hσ, wv_same]; rfl, fun i b hb => absurd hb (by simp)⟩
      have s1 : cS 0 σ1 A := hs.fg F (fun t i j q => by unfold pC at q; unfold tA; omega) (by unfold tA; omega)
      refine qm_go 3 (fun P hP => c_has (by omega) (show A.1 < 2 ^ 31 by omega) s1.n (fun _ => hP ?_) (fun z => absurd ⟨p, hp, rfl⟩ z))
      refine qm_go 1 (fun P hP => And.intro (fun _ => hP ?_) (fun c => absurd c (by decide)))
      refine qm_go 8 (fun P hP => Exists.intro (p) (And.intro (And.intro (rfl) (hp6)) (hP ?_)))
      rw [(s1.kd p hp6).trans ek]
      refine qm_go 1 (fun P hP => Exists.intro (0) (And.intro (And.intro (rfl) (by decide)) (hP ?_)))
      refine qm_go 3 (fun P hP => And.intro (fun c22_0 => hP ?_) (fun n22_0 => And.intro (fun c22_1 => hP ?_) (fun n22_1 => And.intro (fun c22_2 => hP ?_) (fun n22_2 => hP ?_))))
      · refine qm_go 6 (fun P hP => c_a42_0 (l := []) (v := A.2.2.1 p) (by omega) hp6 (s1.vv p hp6) t1 (by decide) (fun σ2 f2 t2 => hP ?_))
        refine qm_go 1 (fun P hP => ?_)
        rw [actV_0 c22_0] at h
        exact h σ2 (F.tr f2) t2
      · refine qm_go 6 (fun P hP => c_a43_0 (l := []) (v := A.2.2.1 p) (by omega) hp6 (s1.vv p hp6) t1 (by decide) (fun σ2 f2 t2 => hP ?_))
        refine qm_go 1 (fun P hP => ?_)
        rw [actV_1 n22_0 c22_1] at h
        exact h σ2 (F.tr f2) t2
      · refine qm_go 6 (fun P hP => c_a44_0 (l := []) (v := A.2.2.1 p) (by omega) hp6 (s1.vv p hp6) t1 (by decide) (fun σ2 f2 t2 => hP ?_))
        refine qm_go 1 (fun P hP => ?_)
        rw [actV_2 n22_0 n22_1 c22_2] at h
        exact h σ2 (F.tr f2) t2
      · refine qm_go 2 (fun P hP => ?_)
        rw [actV_3 n22_0 n22_1 n22_2] at h
        exact h σ1 F t1
    · skip
      refine qm_go 5 (fun P hP => hP ?_)
      generalize hσ : wF _ 1 0 (upd _ 1 _) = σ1
      have F : Fr tA σ σ1 := by
        rw [← hσ]
        exact Fr.w1 (Or.inl rfl)
      have t1 : cTr σ1 [] := ⟨by rw [← hσ, wv_same]; rfl, fun i b hb => absurd hb (by simp)⟩
      have s1 : cS 0 σ1 A := hs.fg F (fun t i j q => by unfold pC at q; unfold tA; omega) (by unfold tA; omega)
      refine qm_go 3 (fun P hP => c_has (by omega) (show A.1 < 2 ^ 31 by omega) s1.n (fun _ => hP ?_) (fun z => absurd ⟨p, hp, rfl⟩ z))
      refine qm_go 1 (fun P hP => And.intro (fun _ => hP ?_) (fun c => absurd c (by decide)))
      refine qm_go 8 (fun P hP => Exists.intro (p) (And.intro (And.intro (rfl) (hp6)) (hP ?_)))
      rw [(s1.kd p hp6).trans ek]
      refine qm_go 1 (fun P hP => Exists.intro (1) (And.intro (And.intro (rfl) (by decide)) (hP ?_)))
      refine qm_go 3 (fun P hP => And.intro (fun c22_0 => hP ?_) (fun n22_0 => And.intro (fun c22_1 => hP ?_) (fun n22_1 => And.intro (fun c22_2 => hP ?_) (fun n22_2 => hP ?_))))
      · refine qm_go 6 (fun P hP => c_a42_1 (l := []) (v := A.2.2.1 p) (by omega) hp6 (s1.vv p hp6) t1 (by decide) (fun σ2 f2 t2 => hP ?_))
        refine qm_go 1 (fun P hP => ?_)
        rw [actV_0 c22_0] at h
        exact h σ2 (F.tr f2) t2
      · refine qm_go 6 (fun P hP => c_a35_1 (l := []) (v := A.2.2.1 p) (by omega) hp6 (s1.vv p hp6) t1 (by decide) (fun σ2 f2 t2 => hP ?_))
        refine qm_go 1 (fun P hP => ?_)
        rw [actV_1 n22_0 c22_1] at h
        exact h σ2 (F.tr f2) t2
      · refine qm_go 6 (fun P hP => c_a44_1 (l := []) (v := A.2.2.1 p) (by omega) hp6 (s1.vv p hp6) t1 (by decide) (fun σ2 f2 t2 => hP ?_))
        refine qm_go 1 (fun P hP => ?_)
        rw [actV_2 n22_0 n22_1 c22_2] at h
        exact h σ2 (F.tr f2) t2
      · refine qm_go 2 (fun P hP => ?_)
        rw [actV_3 n22_0 n22_1 n22_2] at h
        exact h σ1 F t1
    · skip
      refine qm_go 5 (fun P hP => hP ?_)
      generalize hσ : wF _ 1 0 (upd _ 1 _) = σ1
      have F : Fr tA σ σ1 := by
        rw [← hσ]
        exact Fr.w1 (Or.inl rfl)
      have t1 : cTr σ1 [] := ⟨by rw [← hσ, wv_same]; rfl, fun i b hb => absurd hb (by simp)⟩
      have s1 : cS 0 σ1 A := hs.fg F (fun t i j q => by unfold pC at q; unfold tA; omega) (by unfold tA; omega)
      refine qm_go 3 (fun P hP => c_has (by omega) (show A.1 < 2 ^ 31 by omega) s1.n (fun _ => hP ?_) (fun z => absurd ⟨p, hp, rfl⟩ z))
      refine qm_go 1 (fun P hP => And.intro (fun _ => hP ?_) (fun c => absurd c (by decide)))
      refine qm_go 8 (fun P hP => Exists.intro (p) (And.intro (And.intro (rfl) (hp6)) (hP ?_)))
      rw [(s1.kd p hp6).trans ek]
      refine qm_go 1 (fun P hP => Exists.intro (2) (And.intro (And.intro (rfl) (by decide)) (hP ?_)))
      refine qm_go 3 (fun P hP => And.intro (fun c22_0 => hP ?_) (fun n22_0 => And.intro (fun c22_1 => hP ?_) (fun n22_1 => And.intro (fun c22_2 => hP ?_) (fun n22_2 => hP ?_))))
      · refine qm_go 6 (fun P hP => c_a20_2 (l := []) (v := A.2.2.1 p) (by omega) hp6 (s1.vv p hp6) t1 (by decide) (fun σ2 f2 t2 => hP ?_))
        refine qm_go 1 (fun P hP => ?_)
        rw [actV_0 c22_0] at h
        exact h σ2 (F.tr f2) t2
      · refine qm_go 6 (fun P hP => c_a43_2 (l := []) (v := A.2.2.1 p) (by omega) hp6 (s1.vv p hp6) t1 (by decide) (fun σ2 f2 t2 => hP ?_))
        refine qm_go 1 (fun P hP => ?_)
        rw [actV_1 n22_0 c22_1] at h
        exact h σ2 (F.tr f2) t2
      · refine qm_go 6 (fun P hP => c_a44_2 (l := []) (v := A.2.2.1 p) (by omega) hp6 (s1.vv p hp6) t1 (by decide) (fun σ2 f2 t2 => hP ?_))
        refine qm_go 1 (fun P hP => ?_)
        rw [actV_2 n22_0 n22_1 c22_2] at h
        exact h σ2 (F.tr f2) t2
      · refine qm_go 2 (fun P hP => ?_)
        rw [actV_3 n22_0 n22_1 n22_2] at h
        exact h σ1 F t1
    · skip
      refine qm_go 5 (fun P hP => hP ?_)
      generalize hσ : wF _ 1 0 (upd _ 1 _) = σ1
      have F : Fr tA σ σ1 := by
        rw [← hσ]
        exact Fr.w1 (Or.inl rfl)
      have t1 : cTr σ1 [] := ⟨by rw [← hσ, wv_same]; rfl, fun i b hb => absurd hb (by simp)⟩
      have s1 : cS 0 σ1 A := hs.fg F (fun t i j q => by unfold pC at q; unfold tA; omega) (by unfold tA; omega)
      refine qm_go 3 (fun P hP => c_has (by omega) (show A.1 < 2 ^ 31 by omega) s1.n (fun _ => hP ?_) (fun z => absurd ⟨p, hp, rfl⟩ z))
      refine qm_go 1 (fun P hP => And.intro (fun _ => hP ?_) (fun c => absurd c (by decide)))
      refine qm_go 8 (fun P hP => Exists.intro (p) (And.intro (And.intro (rfl) (hp6)) (hP ?_)))
      rw [(s1.kd p hp6).trans ek]
      refine qm_go 1 (fun P hP => Exists.intro (3) (And.intro (And.intro (rfl) (by decide)) (hP ?_)))
      refine qm_go 3 (fun P hP => And.intro (fun c22_0 => hP ?_) (fun n22_0 => And.intro (fun c22_1 => hP ?_) (fun n22_1 => And.intro (fun c22_2 => hP ?_) (fun n22_2 => hP ?_))))
      · refine qm_go 6 (fun P hP => c_a42_3 (l := []) (v := A.2.2.1 p) (by omega) hp6 (s1.vv p hp6) t1 (by decide) (fun σ2 f2 t2 => hP ?_))
        refine qm_go 1 (fun P hP => ?_)
        rw [actV_0 c22_0] at h
        exact h σ2 (F.tr f2) t2
      · refine qm_go 6 (fun P hP => c_a43_3 (l := []) (v := A.2.2.1 p) (by omega) hp6 (s1.vv p hp6) t1 (by decide) (fun σ2 f2 t2 => hP ?_))
        refine qm_go 1 (fun P hP => ?_)
        rw [actV_1 n22_0 c22_1] at h
        exact h σ2 (F.tr f2) t2
      · refine qm_go 6 (fun P hP => c_a18_3 (l := []) (v := A.2.2.1 p) (by omega) hp6 (s1.vv p hp6) t1 (by decide) (fun σ2 f2 t2 => hP ?_))
        refine qm_go 1 (fun P hP => ?_)
        rw [actV_2 n22_0 n22_1 c22_2] at h
        exact h σ2 (F.tr f2) t2
      · refine qm_go 2 (fun P hP => ?_)
        rw [actV_3 n22_0 n22_1 n22_2] at h
        exact h σ1 F t1
    · skip
      refine qm_go 5 (fun P hP => hP ?_)
      generalize hσ : wF _ 1 0 (upd _ 1 _) = σ1
      have F : Fr tA σ σ1 := by
        rw [← hσ]
        exact Fr.w1 (Or.inl rfl)
      have t1 : cTr σ1 [] := ⟨by rw [← hσ, wv_same]; rfl, fun i b hb => absurd hb (by simp)⟩
      have s1 : cS 0 σ1 A := hs.fg F (fun t i j q => by unfold pC at q; unfold tA; omega) (by unfold tA; omega)
      refine qm_go 3 (fun P hP => c_has (by omega) (show A.1 < 2 ^ 31 by omega) s1.n (fun _ => hP ?_) (fun z => absurd ⟨p, hp, rfl⟩ z))
      refine qm_go 1 (fun P hP => And.intro (fun _ => hP ?_) (fun c => absurd c (by decide)))
      refine qm_go 8 (fun P hP => Exists.intro (p) (And.intro (And.intro (rfl) (hp6)) (hP ?_)))
      rw [(s1.kd p hp6).trans ek]
      refine qm_go 1 (fun P hP => Exists.intro (4) (And.intro (And.intro (rfl) (by decide)) (hP ?_)))
      refine qm_go 3 (fun P hP => And.intro (fun c22_0 => hP ?_) (fun n22_0 => And.intro (fun c22_1 => hP ?_) (fun n22_1 => And.intro (fun c22_2 => hP ?_) (fun n22_2 => hP ?_))))
      · refine qm_go 6 (fun P hP => c_a37_4 (l := []) (v := A.2.2.1 p) (by omega) hp6 (s1.vv p hp6) t1 (by decide) (fun σ2 f2 t2 => hP ?_))
        refine qm_go 1 (fun P hP => ?_)
        rw [actV_0 c22_0] at h
        exact h σ2 (F.tr f2) t2
      · refine qm_go 6 (fun P hP => c_a38_4 (l := []) (v := A.2.2.1 p) (by omega) hp6 (s1.vv p hp6) t1 (by decide) (fun σ2 f2 t2 => hP ?_))
        refine qm_go 1 (fun P hP => ?_)
        rw [actV_1 n22_0 c22_1] at h
        exact h σ2 (F.tr f2) t2
      · refine qm_go 6 (fun P hP => c_a44_4 (l := []) (v := A.2.2.1 p) (by omega) hp6 (s1.vv p hp6) t1 (by decide) (fun σ2 f2 t2 => hP ?_))
        refine qm_go 1 (fun P hP => ?_)
        rw [actV_2 n22_0 n22_1 c22_2] at h
        exact h σ2 (F.tr f2) t2
      · refine qm_go 2 (fun P hP => ?_)
        rw [actV_3 n22_0 n22_1 n22_2] at h
        exact h σ1 F t1
    · skip
      refine qm_go 5 (fun P hP => hP ?_)
      generalize hσ : wF _ 1 0 (upd _ 1 _) = σ1
      have F : Fr tA σ σ1 := by
        rw [← hσ]
        exact Fr.w1 (Or.inl rfl)
      have t1 : cTr σ1 [] := ⟨by rw [← hσ, wv_same]; rfl, fun i b hb => absurd hb (by simp)⟩
      have s1 : cS 0 σ1 A := hs.fg F (fun t i j q => by unfold pC at q; unfold tA; omega) (by unfold tA; omega)
      refine qm_go 3 (fun P hP => c_has (by omega) (show A.1 < 2 ^ 31 by omega) s1.n (fun _ => hP ?_) (fun z => absurd ⟨p, hp, rfl⟩ z))
      refine qm_go 1 (fun P hP => And.intro (fun _ => hP ?_) (fun c => absurd c (by decide)))
      refine qm_go 8 (fun P hP => Exists.intro (p) (And.intro (And.intro (rfl) (hp6)) (hP ?_)))
      rw [(s1.kd p hp6).trans ek]
      refine qm_go 1 (fun P hP => Exists.intro (5) (And.intro (And.intro (rfl) (by decide)) (hP ?_)))
      refine qm_go 3 (fun P hP => And.intro (fun c22_0 => hP ?_) (fun n22_0 => And.intro (fun c22_1 => hP ?_) (fun n22_1 => And.intro (fun c22_2 => hP ?_) (fun n22_2 => hP ?_))))
      · refine qm_go 6 (fun P hP => c_a20_5 (l := []) (v := A.2.2.1 p) (by omega) hp6 (s1.vv p hp6) t1 (by decide) (fun σ2 f2 t2 => hP ?_))
        refine qm_go 1 (fun P hP => ?_)
        rw [actV_0 c22_0] at h
        exact h σ2 (F.tr f2) t2
      · refine qm_go 6 (fun P hP => c_a43_5 (l := []) (v := A.2.2.1 p) (by omega) hp6 (s1.vv p hp6) t1 (by decide) (fun σ2 f2 t2 => hP ?_))
        refine qm_go 1 (fun P hP => ?_)
        rw [actV_1 n22_0 c22_1] at h
        exact h σ2 (F.tr f2) t2
      · refine qm_go 6 (fun P hP => c_a40_5 (l := []) (v := A.2.2.1 p) (by omega) hp6 (s1.vv p hp6) t1 (by decide) (fun σ2 f2 t2 => hP ?_))
        refine qm_go 1 (fun P hP => ?_)
        rw [actV_2 n22_0 n22_1 c22_2] at h
        exact h σ2 (F.tr f2) t2
      · refine qm_go 2 (fun P hP => ?_)
        rw [actV_3 n22_0 n22_1 n22_2] at h
        exact h σ1 F t1
    · skip
      refine qm_go 5 (fun P hP => hP ?_)
      generalize hσ : wF _ 1 0 (upd _ 1 _) = σ1
      have F : Fr tA σ σ1 := by
        rw [← hσ]
        exact Fr.w1 (Or.inl rfl)
      have t1 : cTr σ1 [] := ⟨by rw [← hσ, wv_same]; rfl, fun i b hb => absurd hb (by simp)⟩
      have s1 : cS 0 σ1 A := hs.fg F (fun t i j q => by unfold pC at q; unfold tA; omega) (by unfold tA; omega)
      refine qm_go 3 (fun P hP => c_has (by omega) (show A.1 < 2 ^ 31 by omega) s1.n (fun _ => hP ?_) (fun z => absurd ⟨p, hp, rfl⟩ z))
      refine qm_go 1 (fun P hP => And.intro (fun _ => hP ?_) (fun c => absurd c (by decide)))
      refine qm_go 8 (fun P hP => Exists.intro (p) (And.intro (And.intro (rfl) (hp6)) (hP ?_)))
      rw [(s1.kd p hp6).trans ek]
      refine qm_go 1 (fun P hP => Exists.intro (6) (And.intro (And.intro (rfl) (by decide)) (hP ?_)))
      refine qm_go 3 (fun P hP => And.intro (fun c22_0 => hP ?_) (fun n22_0 => And.intro (fun c22_1 => hP ?_) (fun n22_1 => And.intro (fun c22_2 => hP ?_) (fun n22_2 => hP ?_))))
      · refine qm_go 6 (fun P hP => c_a61_6 (l := []) (v := A.2.2.1 p) (by omega) hp6 (s1.vv p hp6) t1 (by decide) (fun σ2 f2 t2 => hP ?_))
        refine qm_go 1 (fun P hP => ?_)
        rw [actV_0 c22_0] at h
        exact h σ2 (F.tr f2) t2
      · refine qm_go 6 (fun P hP => c_a60_6 (l := []) (v := A.2.2.1 p) (by omega) hp6 (s1.vv p hp6) t1 (by decide) (fun σ2 f2 t2 => hP ?_))
        refine qm_go 1 (fun P hP => ?_)
        rw [actV_1 n22_0 c22_1] at h
        exact h σ2 (F.tr f2) t2
      · refine qm_go 6 (fun P hP => c_a18_6 (l := []) (v := A.2.2.1 p) (by omega) hp6 (s1.vv p hp6) t1 (by decide) (fun σ2 f2 t2 => hP ?_))
        refine qm_go 1 (fun P hP => ?_)
        rw [actV_2 n22_0 n22_1 c22_2] at h
        exact h σ2 (F.tr f2) t2
      · refine qm_go 2 (fun P hP => ?_)
        rw [actV_3 n22_0 n22_1 n22_2] at h
        exact h σ1 F t1
  · rw [actR_no hin] at h
    refine qm_go 5 (fun P hP => hP ?_)
    generalize hσ : wF _ 1 0 (upd _ 1 _) = σ1
    have F : Fr tA σ σ1 := by
      rw [← hσ]
      exact Fr.w1 (Or.inl rfl)
    have t1 : cTr σ1 [] := ⟨by rw [← hσ, wv_same]; rfl, fun i b hb => absurd hb (by simp)⟩
    have s1 : cS 0 σ1 A := hs.fg F (fun t i j q => by unfold pC at q; unfold tA; omega) (by unfold tA; omega)
    refine qm_go 3 (fun P hP => c_has (by omega) (show A.1 < 2 ^ 31 by omega) s1.n (fun z => absurd z hin) (fun _ => hP ?_))
    refine qm_go 1 (fun P hP => And.intro (fun c => absurd rfl c) (fun _ => hP ?_))
    refine qm_go 2 (fun P hP => h σ1 F t1)
theorem m_act {d : Nat} (hd : 9 ≤ d) {σ : qm_Sg} {Q : qm_Po} {A : AS} {s a x : Int32} (hs : mS σ A) (h : ∀ σ', Fr tB σ σ' → mTr σ' (actR A s a x).2 → Q σ' (some (vI (actR A s a x).1))) : qm_M d 187 [vR 50 0, vI s, vI a, vI x] σ Q := by
  obtain ⟨d, rfl, hd⟩ := qm_dn hd
  show qm_Wp (qm_M d) qk_187 Q 0 [some (vR 50 0), some (vI s), some (vI a), some (vI x)] [] σ
  have hn6 := hs.le
  by_cases hin : inR s A.1
  · obtain ⟨p, hp, rfl⟩ := hin
    have hp6 : p < 6 := by omega
    obtain ⟨k, hk, ek⟩ := hs.kind hp
    rw [actR_in hn6 hp hk ek] at h
    rcases (show k = 0 ∨ k = 1 ∨ k = 2 ∨ k = 3 ∨ k = 4 ∨ k = 5 ∨ k = 6 by omega) with rfl | rfl | rfl | rfl | rfl | rfl | rfl
    · skip
      refine qm_go 4 (fun P hP => hP ?_)
      generalize hσ : wF _ 50 0 (upd _ 63 _) = σ1
      have F : Fr tB σ σ1 := by
        rw [← hσ]
        exact Fr.w1 (Or.inr ⟨rfl, rfl⟩)
      have t1 : mTr σ1 [] := ⟨by rw [← hσ, wv_same]; rfl, fun i b hb => absurd hb (by simp)⟩
      have s1 : mS σ1 A := hs.fg F (fun t i j q => by unfold pM at q; unfold tB; omega) (by unfold tB; omega)
      refine qm_go 2 (fun P hP => m_isOne (by omega) (show A.1 < 2 ^ 31 by omega) s1.n (fun _ => hP ?_) (fun z => absurd ⟨p, hp, rfl⟩ z))
      refine qm_go 1 (fun P hP => And.intro (fun c => absurd c (by decide)) (fun _ => hP ?_))
      refine qm_go 5 (fun P hP => m_inR 3 (by decide) rfl (hd := by omega) (fun ca => hP ?_) (fun ca => hP ?_))
      · refine qm_go 1 (fun P hP => And.intro (fun _ => hP ?_) (fun c => absurd c (by decide)))
        refine qm_go 2 (fun P hP => And.intro (fun c16 => hP ?_) (fun c16 => hP ?_))
        · refine qm_go 3 (fun P hP => And.intro (fun c24 => hP ?_) (fun c24 => hP ?_))
          · refine qm_go 4 (fun P hP => m_a186_0 (l := []) (v := A.2.2.1 p) (by omega) hp6 (s1.vv p hp6) ((s1.kd p hp6).trans ek) t1 (by decide) (fun σ2 f2 t2 => hP ?_))
            refine qm_go 1 (fun P hP => ?_)
            first
              | (rw [actV_0 c16] at h
                 exact h σ2 (F.tr f2) t2)
              | (rw [actV_1 c16 c24] at h
                 exact h σ2 (F.tr f2) t2)
              | (rw [actV_2 c16 c24 (by
                   obtain ⟨q, hq, e⟩ := ca
                   rcases (show q = 0 ∨ q = 1 ∨ q = 2 by omega) with rfl | rfl | rfl
                   · exact absurd e c16
                   · exact absurd e c24
                   · exact e)] at h
                 exact h σ2 (F.tr f2) t2)
          · refine qm_go 4 (fun P hP => m_a184_0 (l := []) (v := A.2.2.1 p) (by omega) hp6 (s1.vv p hp6) ((s1.kd p hp6).trans ek) t1 (by decide) (fun σ2 f2 t2 => hP ?_))
            refine qm_go 2 (fun P hP => ?_)
            first
              | (rw [actV_0 c16] at h
                 exact h σ2 (F.tr f2) t2)
              | (rw [actV_1 c16 c24] at h
                 exact h σ2 (F.tr f2) t2)
              | (rw [actV_2 c16 c24 (by
                   obtain ⟨q, hq, e⟩ := ca
                   rcases (show q = 0 ∨ q = 1 ∨ q = 2 by omega) with rfl | rfl | rfl
                   · exact absurd e c16
                   · exact absurd e c24
                   · exact e)] at h
                 exact h σ2 (F.tr f2) t2)
        · refine qm_go 4 (fun P hP => m_a181_0 (l := []) (v := A.2.2.1 p) (by omega) hp6 (s1.vv p hp6) ((s1.kd p hp6).trans ek) t1 (by decide) (fun σ2 f2 t2 => hP ?_))
          refine qm_go 2 (fun P hP => ?_)
          first
            | (rw [actV_0 c16] at h
               exact h σ2 (F.tr f2) t2)
            | (rw [actV_1 c16 c24] at h
               exact h σ2 (F.tr f2) t2)
            | (rw [actV_2 c16 c24 (by
                 obtain ⟨q, hq, e⟩ := ca
                 rcases (show q = 0 ∨ q = 1 ∨ q = 2 by omega) with rfl | rfl | rfl
                 · exact absurd e c16
                 · exact absurd e c24
                 · exact e)] at h
               exact h σ2 (F.tr f2) t2)
      · refine qm_go 1 (fun P hP => And.intro (fun c => absurd (by decide) c) (fun _ => hP ?_))
        refine qm_go 2 (fun P hP => ?_)
        rw [actV_3 (fun z => ca ⟨0, by decide, z⟩) (fun z => ca ⟨1, by decide, z⟩) (fun z => ca ⟨2, by decide, z⟩)] at h
        exact h σ1 F t1
    · skip
      refine qm_go 4 (fun P hP => hP ?_)
      generalize hσ : wF _ 50 0 (upd _ 63 _) = σ1
      have F : Fr tB σ σ1 := by
        rw [← hσ]
        exact Fr.w1 (Or.inr ⟨rfl, rfl⟩)
      have t1 : mTr σ1 [] := ⟨by rw [← hσ, wv_same]; rfl, fun i b hb => absurd hb (by simp)⟩
      have s1 : mS σ1 A := hs.fg F (fun t i j q => by unfold pM at q; unfold tB; omega) (by unfold tB; omega)
      refine qm_go 2 (fun P hP => m_isOne (by omega) (show A.1 < 2 ^ 31 by omega) s1.n (fun _ => hP ?_) (fun z => absurd ⟨p, hp, rfl⟩ z))
      refine qm_go 1 (fun P hP => And.intro (fun c => absurd c (by decide)) (fun _ => hP ?_))
      refine qm_go 5 (fun P hP => m_inR 3 (by decide) rfl (hd := by omega) (fun ca => hP ?_) (fun ca => hP ?_))
      · refine qm_go 1 (fun P hP => And.intro (fun _ => hP ?_) (fun c => absurd c (by decide)))
        refine qm_go 2 (fun P hP => And.intro (fun c16 => hP ?_) (fun c16 => hP ?_))
        · refine qm_go 3 (fun P hP => And.intro (fun c24 => hP ?_) (fun c24 => hP ?_))
          · refine qm_go 4 (fun P hP => m_a186_1 (l := []) (v := A.2.2.1 p) (by omega) hp6 (s1.vv p hp6) ((s1.kd p hp6).trans ek) t1 (by decide) (fun σ2 f2 t2 => hP ?_))
            refine qm_go 1 (fun P hP => ?_)
            first
              | (rw [actV_0 c16] at h
                 exact h σ2 (F.tr f2) t2)
              | (rw [actV_1 c16 c24] at h
                 exact h σ2 (F.tr f2) t2)
              | (rw [actV_2 c16 c24 (by
                   obtain ⟨q, hq, e⟩ := ca
                   rcases (show q = 0 ∨ q = 1 ∨ q = 2 by omega) with rfl | rfl | rfl
                   · exact absurd e c16
                   · exact absurd e c24
                   · exact e)] at h
                 exact h σ2 (F.tr f2) t2)
          · refine qm_go 4 (fun P hP => m_a184_1 (l := []) (v := A.2.2.1 p) (by omega) hp6 (s1.vv p hp6) ((s1.kd p hp6).trans ek) t1 (by decide) (fun σ2 f2 t2 => hP ?_))
            refine qm_go 2 (fun P hP => ?_)
            first
              | (rw [actV_0 c16] at h
                 exact h σ2 (F.tr f2) t2)
              | (rw [actV_1 c16 c24] at h
                 exact h σ2 (F.tr f2) t2)
              | (rw [actV_2 c16 c24 (by
                   obtain ⟨q, hq, e⟩ := ca
                   rcases (show q = 0 ∨ q = 1 ∨ q = 2 by omega) with rfl | rfl | rfl
                   · exact absurd e c16
                   · exact absurd e c24
                   · exact e)] at h
                 exact h σ2 (F.tr f2) t2)
        · refine qm_go 4 (fun P hP => m_a181_1 (l := []) (v := A.2.2.1 p) (by omega) hp6 (s1.vv p hp6) ((s1.kd p hp6).trans ek) t1 (by decide) (fun σ2 f2 t2 => hP ?_))
          refine qm_go 2 (fun P hP => ?_)
          first
            | (rw [actV_0 c16] at h
               exact h σ2 (F.tr f2) t2)
            | (rw [actV_1 c16 c24] at h
               exact h σ2 (F.tr f2) t2)
            | (rw [actV_2 c16 c24 (by
                 obtain ⟨q, hq, e⟩ := ca
                 rcases (show q = 0 ∨ q = 1 ∨ q = 2 by omega) with rfl | rfl | rfl
                 · exact absurd e c16
                 · exact absurd e c24
                 · exact e)] at h
               exact h σ2 (F.tr f2) t2)
      · refine qm_go 1 (fun P hP => And.intro (fun c => absurd (by decide) c) (fun _ => hP ?_))
        refine qm_go 2 (fun P hP => ?_)
        rw [actV_3 (fun z => ca ⟨0, by decide, z⟩) (fun z => ca ⟨1, by decide, z⟩) (fun z => ca ⟨2, by decide, z⟩)] at h
        exact h σ1 F t1
    · skip
      refine qm_go 4 (fun P hP => hP ?_)
      generalize hσ : wF _ 50 0 (upd _ 63 _) = σ1
      have F : Fr tB σ σ1 := by
        rw [← hσ]
        exact Fr.w1 (Or.inr ⟨rfl, rfl⟩)
      have t1 : mTr σ1 [] := ⟨by rw [← hσ, wv_same]; rfl, fun i b hb => absurd hb (by simp)⟩
      have s1 : mS σ1 A := hs.fg F (fun t i j q => by unfold pM at q; unfold tB; omega) (by unfold tB; omega)
      refine qm_go 2 (fun P hP => m_isOne (by omega) (show A.1 < 2 ^ 31 by omega) s1.n (fun _ => hP ?_) (fun z => absurd ⟨p, hp, rfl⟩ z))
      refine qm_go 1 (fun P hP => And.intro (fun c => absurd c (by decide)) (fun _ => hP ?_))
      refine qm_go 5 (fun P hP => m_inR 3 (by decide) rfl (hd := by omega) (fun ca => hP ?_) (fun ca => hP ?_))
      · refine qm_go 1 (fun P hP => And.intro (fun _ => hP ?_) (fun c => absurd c (by decide)))
        refine qm_go 2 (fun P hP => And.intro (fun c16 => hP ?_) (fun c16 => hP ?_))
        · refine qm_go 3 (fun P hP => And.intro (fun c24 => hP ?_) (fun c24 => hP ?_))
          · refine qm_go 4 (fun P hP => m_a186_2 (l := []) (v := A.2.2.1 p) (by omega) hp6 (s1.vv p hp6) ((s1.kd p hp6).trans ek) t1 (by decide) (fun σ2 f2 t2 => hP ?_))
            refine qm_go 1 (fun P hP => ?_)
            first
              | (rw [actV_0 c16] at h
                 exact h σ2 (F.tr f2) t2)
              | (rw [actV_1 c16 c24] at h
                 exact h σ2 (F.tr f2) t2)
              | (rw [actV_2 c16 c24 (by
                   obtain ⟨q, hq, e⟩ := ca
                   rcases (show q = 0 ∨ q = 1 ∨ q = 2 by omega) with rfl | rfl | rfl
                   · exact absurd e c16
                   · exact absurd e c24
                   · exact e)] at h
                 exact h σ2 (F.tr f2) t2)
          · refine qm_go 4 (fun P hP => m_a184_2 (l := []) (v := A.2.2.1 p) (by omega) hp6 (s1.vv p hp6) ((s1.kd p hp6).trans ek) t1 (by decide) (fun σ2 f2 t2 => hP ?_))
            refine qm_go 2 (fun P hP => ?_)
            first
              | (rw [actV_0 c16] at h
                 exact h σ2 (F.tr f2) t2)
              | (rw [actV_1 c16 c24] at h
                 exact h σ2 (F.tr f2) t2)
              | (rw [actV_2 c16 c24 (by
                   obtain ⟨q, hq, e⟩ := ca
                   rcases (show q = 0 ∨ q = 1 ∨ q = 2 by omega) with rfl | rfl | rfl
                   · exact absurd e c16
                   · exact absurd e c24
                   · exact e)] at h
                 exact h σ2 (F.tr f2) t2)
        · refine qm_go 4 (fun P hP => m_a181_2 (l := []) (v := A.2.2.1 p) (by omega) hp6 (s1.vv p hp6) ((s1.kd p hp6).trans ek) t1 (by decide) (fun σ2 f2 t2 => hP ?_))
          refine qm_go 2 (fun P hP => ?_)
          first
            | (rw [actV_0 c16] at h
               exact h σ2 (F.tr f2) t2)
            | (rw [actV_1 c16 c24] at h
               exact h σ2 (F.tr f2) t2)
            | (rw [actV_2 c16 c24 (by
                 obtain ⟨q, hq, e⟩ := ca
                 rcases (show q = 0 ∨ q = 1 ∨ q = 2 by omega) with rfl | rfl | rfl
                 · exact absurd e c16
                 · exact absurd e c24
                 · exact e)] at h
               exact h σ2 (F.tr f2) t2)
      · refine qm_go 1 (fun P hP => And.intro (fun c => absurd (by decide) c) (fun _ => hP ?_))
        refine qm_go 2 (fun P hP => ?_)
        rw [actV_3 (fun z => ca ⟨0, by decide, z⟩) (fun z => ca ⟨1, by decide, z⟩) (fun z => ca ⟨2, by decide, z⟩)] at h
        exact h σ1 F t1
    · skip
      refine qm_go 4 (fun P hP => hP ?_)
      generalize hσ : wF _ 50 0 (upd _ 63 _) = σ1
      have F : Fr tB σ σ1 := by
        rw [← hσ]
        exact Fr.w1 (Or.inr ⟨rfl, rfl⟩)
      have t1 : mTr σ1 [] := ⟨by rw [← hσ, wv_same]; rfl, fun i b hb => absurd hb (by simp)⟩
      have s1 : mS σ1 A := hs.fg F (fun t i j q => by unfold pM at q; unfold tB; omega) (by unfold tB; omega)
      refine qm_go 2 (fun P hP => m_isOne (by omega) (show A.1 < 2 ^ 31 by omega) s1.n (fun _ => hP ?_) (fun z => absurd ⟨p, hp, rfl⟩ z))
      refine qm_go 1 (fun P hP => And.intro (fun c => absurd c (by decide)) (fun _ => hP ?_))
      refine qm_go 5 (fun P hP => m_inR 3 (by decide) rfl (hd := by omega) (fun ca => hP ?_) (fun ca => hP ?_))
      · refine qm_go 1 (fun P hP => And.intro (fun _ => hP ?_) (fun c => absurd c (by decide)))
        refine qm_go 2 (fun P hP => And.intro (fun c16 => hP ?_) (fun c16 => hP ?_))
        · refine qm_go 3 (fun P hP => And.intro (fun c24 => hP ?_) (fun c24 => hP ?_))
          · refine qm_go 4 (fun P hP => m_a186_3 (l := []) (v := A.2.2.1 p) (by omega) hp6 (s1.vv p hp6) ((s1.kd p hp6).trans ek) t1 (by decide) (fun σ2 f2 t2 => hP ?_))
            refine qm_go 1 (fun P hP => ?_)
            first
              | (rw [actV_0 c16] at h
                 exact h σ2 (F.tr f2) t2)
              | (rw [actV_1 c16 c24] at h
                 exact h σ2 (F.tr f2) t2)
              | (rw [actV_2 c16 c24 (by
                   obtain ⟨q, hq, e⟩ := ca
                   rcases (show q = 0 ∨ q = 1 ∨ q = 2 by omega) with rfl | rfl | rfl
                   · exact absurd e c16
                   · exact absurd e c24
                   · exact e)] at h
                 exact h σ2 (F.tr f2) t2)
          · refine qm_go 4 (fun P hP => m_a184_3 (l := []) (v := A.2.2.1 p) (by omega) hp6 (s1.vv p hp6) ((s1.kd p hp6).trans ek) t1 (by decide) (fun σ2 f2 t2 => hP ?_))
            refine qm_go 2 (fun P hP => ?_)
            first
              | (rw [actV_0 c16] at h
                 exact h σ2 (F.tr f2) t2)
              | (rw [actV_1 c16 c24] at h
                 exact h σ2 (F.tr f2) t2)
              | (rw [actV_2 c16 c24 (by
                   obtain ⟨q, hq, e⟩ := ca
                   rcases (show q = 0 ∨ q = 1 ∨ q = 2 by omega) with rfl | rfl | rfl
                   · exact absurd e c16
                   · exact absurd e c24
                   · exact e)] at h
                 exact h σ2 (F.tr f2) t2)
        · refine qm_go 4 (fun P hP => m_a181_3 (l := []) (v := A.2.2.1 p) (by omega) hp6 (s1.vv p hp6) ((s1.kd p hp6).trans ek) t1 (by decide) (fun σ2 f2 t2 => hP ?_))
          refine qm_go 2 (fun P hP => ?_)
          first
            | (rw [actV_0 c16] at h
               exact h σ2 (F.tr f2) t2)
            | (rw [actV_1 c16 c24] at h
               exact h σ2 (F.tr f2) t2)
            | (rw [actV_2 c16 c24 (by
                 obtain ⟨q, hq, e⟩ := ca
                 rcases (show q = 0 ∨ q = 1 ∨ q = 2 by omega) with rfl | rfl | rfl
                 · exact absurd e c16
                 · exact absurd e c24
                 · exact e)] at h
               exact h σ2 (F.tr f2) t2)
      · refine qm_go 1 (fun P hP => And.intro (fun c => absurd (by decide) c) (fun _ => hP ?_))
        refine qm_go 2 (fun P hP => ?_)
        rw [actV_3 (fun z => ca ⟨0, by decide, z⟩) (fun z => ca ⟨1, by decide, z⟩) (fun z => ca ⟨2, by decide, z⟩)] at h
        exact h σ1 F t1
    · skip
      refine qm_go 4 (fun P hP => hP ?_)
      generalize hσ : wF _ 50 0 (upd _ 63 _) = σ1
      have F : Fr tB σ σ1 := by
        rw [← hσ]
        exact Fr.w1 (Or.inr ⟨rfl, rfl⟩)
      have t1 : mTr σ1 [] := ⟨by rw [← hσ, wv_same]; rfl, fun i b hb => absurd hb (by simp)⟩
      have s1 : mS σ1 A := hs.fg F (fun t i j q => by unfold pM at q; unfold tB; omega) (by unfold tB; omega)
      refine qm_go 2 (fun P hP => m_isOne (by omega) (show A.1 < 2 ^ 31 by omega) s1.n (fun _ => hP ?_) (fun z => absurd ⟨p, hp, rfl⟩ z))
      refine qm_go 1 (fun P hP => And.intro (fun c => absurd c (by decide)) (fun _ => hP ?_))
      refine qm_go 5 (fun P hP => m_inR 3 (by decide) rfl (hd := by omega) (fun ca => hP ?_) (fun ca => hP ?_))
      · refine qm_go 1 (fun P hP => And.intro (fun _ => hP ?_) (fun c => absurd c (by decide)))
        refine qm_go 2 (fun P hP => And.intro (fun c16 => hP ?_) (fun c16 => hP ?_))
        · refine qm_go 3 (fun P hP => And.intro (fun c24 => hP ?_) (fun c24 => hP ?_))
          · refine qm_go 4 (fun P hP => m_a186_4 (l := []) (v := A.2.2.1 p) (by omega) hp6 (s1.vv p hp6) ((s1.kd p hp6).trans ek) t1 (by decide) (fun σ2 f2 t2 => hP ?_))
            refine qm_go 1 (fun P hP => ?_)
            first
              | (rw [actV_0 c16] at h
                 exact h σ2 (F.tr f2) t2)
              | (rw [actV_1 c16 c24] at h
                 exact h σ2 (F.tr f2) t2)
              | (rw [actV_2 c16 c24 (by
                   obtain ⟨q, hq, e⟩ := ca
                   rcases (show q = 0 ∨ q = 1 ∨ q = 2 by omega) with rfl | rfl | rfl
                   · exact absurd e c16
                   · exact absurd e c24
                   · exact e)] at h
                 exact h σ2 (F.tr f2) t2)
          · refine qm_go 4 (fun P hP => m_a184_4 (l := []) (v := A.2.2.1 p) (by omega) hp6 (s1.vv p hp6) ((s1.kd p hp6).trans ek) t1 (by decide) (fun σ2 f2 t2 => hP ?_))
            refine qm_go 2 (fun P hP => ?_)
            first
              | (rw [actV_0 c16] at h
                 exact h σ2 (F.tr f2) t2)
              | (rw [actV_1 c16 c24] at h
                 exact h σ2 (F.tr f2) t2)
              | (rw [actV_2 c16 c24 (by
                   obtain ⟨q, hq, e⟩ := ca
                   rcases (show q = 0 ∨ q = 1 ∨ q = 2 by omega) with rfl | rfl | rfl
                   · exact absurd e c16
                   · exact absurd e c24
                   · exact e)] at h
                 exact h σ2 (F.tr f2) t2)
        · refine qm_go 4 (fun P hP => m_a181_4 (l := []) (v := A.2.2.1 p) (by omega) hp6 (s1.vv p hp6) ((s1.kd p hp6).trans ek) t1 (by decide) (fun σ2 f2 t2 => hP ?_))
          refine qm_go 2 (fun P hP => ?_)
          first
            | (rw [actV_0 c16] at h
               exact h σ2 (F.tr f2) t2)
            | (rw [actV_1 c16 c24] at h
               exact h σ2 (F.tr f2) t2)
            | (rw [actV_2 c16 c24 (by
                 obtain ⟨q, hq, e⟩ := ca
                 rcases (show q = 0 ∨ q = 1 ∨ q = 2 by omega) with rfl | rfl | rfl
                 · exact absurd e c16
                 · exact absurd e c24
                 · exact e)] at h
               exact h σ2 (F.tr f2) t2)
      · refine qm_go 1 (fun P hP => And.intro (fun c => absurd (by decide) c) (fun _ => hP ?_))
        refine qm_go 2 (fun P hP => ?_)
        rw [actV_3 (fun z => ca ⟨0, by decide, z⟩) (fun z => ca ⟨1, by decide, z⟩) (fun z => ca ⟨2, by decide, z⟩)] at h
        exact h σ1 F t1
    · skip
      refine qm_go 4 (fun P hP => hP ?_)
      generalize hσ : wF _ 50 0 (upd _ 63 _) = σ1
      have F : Fr tB σ σ1 := by
        rw [← hσ]
        exact Fr.w1 (Or.inr ⟨rfl, rfl⟩)
      have t1 : mTr σ1 [] := ⟨by rw [← hσ, wv_same]; rfl, fun i b hb => absurd hb (by simp)⟩
      have s1 : mS σ1 A := hs.fg F (fun t i j q => by unfold pM at q; unfold tB; omega) (by unfold tB; omega)
      refine qm_go 2 (fun P hP => m_isOne (by omega) (show A.1 < 2 ^ 31 by omega) s1.n (fun _ => hP ?_) (fun z => absurd ⟨p, hp, rfl⟩ z))
      refine qm_go 1 (fun P hP => And.intro (fun c => absurd c (by decide)) (fun _ => hP ?_))
      refine qm_go 5 (fun P hP => m_inR 3 (by decide) rfl (hd := by omega) (fun ca => hP ?_) (fun ca => hP ?_))
      · refine qm_go 1 (fun P hP => And.intro (fun _ => hP ?_) (fun c => absurd c (by decide)))
        refine qm_go 2 (fun P hP => And.intro (fun c16 => hP ?_) (fun c16 => hP ?_))
        · refine qm_go 3 (fun P hP => And.intro (fun c24 => hP ?_) (fun c24 => hP ?_))
          · refine qm_go 4 (fun P hP => m_a186_5 (l := []) (v := A.2.2.1 p) (by omega) hp6 (s1.vv p hp6) ((s1.kd p hp6).trans ek) t1 (by decide) (fun σ2 f2 t2 => hP ?_))
            refine qm_go 1 (fun P hP => ?_)
            first
              | (rw [actV_0 c16] at h
                 exact h σ2 (F.tr f2) t2)
              | (rw [actV_1 c16 c24] at h
                 exact h σ2 (F.tr f2) t2)
              | (rw [actV_2 c16 c24 (by
                   obtain ⟨q, hq, e⟩ := ca
                   rcases (show q = 0 ∨ q = 1 ∨ q = 2 by omega) with rfl | rfl | rfl
                   · exact absurd e c16
                   · exact absurd e c24
                   · exact e)] at h
                 exact h σ2 (F.tr f2) t2)
          · refine qm_go 4 (fun P hP => m_a184_5 (l := []) (v := A.2.2.1 p) (by omega) hp6 (s1.vv p hp6) ((s1.kd p hp6).trans ek) t1 (by decide) (fun σ2 f2 t2 => hP ?_))
            refine qm_go 2 (fun P hP => ?_)
            first
              | (rw [actV_0 c16] at h
                 exact h σ2 (F.tr f2) t2)
              | (rw [actV_1 c16 c24] at h
                 exact h σ2 (F.tr f2) t2)
              | (rw [actV_2 c16 c24 (by
                   obtain ⟨q, hq, e⟩ := ca
                   rcases (show q = 0 ∨ q = 1 ∨ q = 2 by omega) with rfl | rfl | rfl
                   · exact absurd e c16
                   · exact absurd e c24
                   · exact e)] at h
                 exact h σ2 (F.tr f2) t2)
        · refine qm_go 4 (fun P hP => m_a181_5 (l := []) (v := A.2.2.1 p) (by omega) hp6 (s1.vv p hp6) ((s1.kd p hp6).trans ek) t1 (by decide) (fun σ2 f2 t2 => hP ?_))
          refine qm_go 2 (fun P hP => ?_)
          first
            | (rw [actV_0 c16] at h
               exact h σ2 (F.tr f2) t2)
            | (rw [actV_1 c16 c24] at h
               exact h σ2 (F.tr f2) t2)
            | (rw [actV_2 c16 c24 (by
                 obtain ⟨q, hq, e⟩ := ca
                 rcases (show q = 0 ∨ q = 1 ∨ q = 2 by omega) with rfl | rfl | rfl
                 · exact absurd e c16
                 · exact absurd e c24
                 · exact e)] at h
               exact h σ2 (F.tr f2) t2)
      · refine qm_go 1 (fun P hP => And.intro (fun c => absurd (by decide) c) (fun _ => hP ?_))
        refine qm_go 2 (fun P hP => ?_)
        rw [actV_3 (fun z => ca ⟨0, by decide, z⟩) (fun z => ca ⟨1, by decide, z⟩) (fun z => ca ⟨2, by decide, z⟩)] at h
        exact h σ1 F t1
    · skip
      refine qm_go 4 (fun P hP => hP ?_)
      generalize hσ : wF _ 50 0 (upd _ 63 _) = σ1
      have F : Fr tB σ σ1 := by
        rw [← hσ]
        exact Fr.w1 (Or.inr ⟨rfl, rfl⟩)
      have t1 : mTr σ1 [] := ⟨by rw [← hσ, wv_same]; rfl, fun i b hb => absurd hb (by simp)⟩
      have s1 : mS σ1 A := hs.fg F (fun t i j q => by unfold pM at q; unfold tB; omega) (by unfold tB; omega)
      refine qm_go 2 (fun P hP => m_isOne (by omega) (show A.1 < 2 ^ 31 by omega) s1.n (fun _ => hP ?_) (fun z => absurd ⟨p, hp, rfl⟩ z))
      refine qm_go 1 (fun P hP => And.intro (fun c => absurd c (by decide)) (fun _ => hP ?_))
      refine qm_go 5 (fun P hP => m_inR 3 (by decide) rfl (hd := by omega) (fun ca => hP ?_) (fun ca => hP ?_))
      · refine qm_go 1 (fun P hP => And.intro (fun _ => hP ?_) (fun c => absurd c (by decide)))
        refine qm_go 2 (fun P hP => And.intro (fun c16 => hP ?_) (fun c16 => hP ?_))
        · refine qm_go 3 (fun P hP => And.intro (fun c24 => hP ?_) (fun c24 => hP ?_))
          · refine qm_go 4 (fun P hP => m_a186_6 (l := []) (v := A.2.2.1 p) (by omega) hp6 (s1.vv p hp6) ((s1.kd p hp6).trans ek) t1 (by decide) (fun σ2 f2 t2 => hP ?_))
            refine qm_go 1 (fun P hP => ?_)
            first
              | (rw [actV_0 c16] at h
                 exact h σ2 (F.tr f2) t2)
              | (rw [actV_1 c16 c24] at h
                 exact h σ2 (F.tr f2) t2)
              | (rw [actV_2 c16 c24 (by
                   obtain ⟨q, hq, e⟩ := ca
                   rcases (show q = 0 ∨ q = 1 ∨ q = 2 by omega) with rfl | rfl | rfl
                   · exact absurd e c16
                   · exact absurd e c24
                   · exact e)] at h
                 exact h σ2 (F.tr f2) t2)
          · refine qm_go 4 (fun P hP => m_a184_6 (l := []) (v := A.2.2.1 p) (by omega) hp6 (s1.vv p hp6) ((s1.kd p hp6).trans ek) t1 (by decide) (fun σ2 f2 t2 => hP ?_))
            refine qm_go 2 (fun P hP => ?_)
            first
              | (rw [actV_0 c16] at h
                 exact h σ2 (F.tr f2) t2)
              | (rw [actV_1 c16 c24] at h
                 exact h σ2 (F.tr f2) t2)
              | (rw [actV_2 c16 c24 (by
                   obtain ⟨q, hq, e⟩ := ca
                   rcases (show q = 0 ∨ q = 1 ∨ q = 2 by omega) with rfl | rfl | rfl
                   · exact absurd e c16
                   · exact absurd e c24
                   · exact e)] at h
                 exact h σ2 (F.tr f2) t2)
        · refine qm_go 4 (fun P hP => m_a181_6 (l := []) (v := A.2.2.1 p) (by omega) hp6 (s1.vv p hp6) ((s1.kd p hp6).trans ek) t1 (by decide) (fun σ2 f2 t2 => hP ?_))
          refine qm_go 2 (fun P hP => ?_)
          first
            | (rw [actV_0 c16] at h
               exact h σ2 (F.tr f2) t2)
            | (rw [actV_1 c16 c24] at h
               exact h σ2 (F.tr f2) t2)
            | (rw [actV_2 c16 c24 (by
                 obtain ⟨q, hq, e⟩ := ca
                 rcases (show q = 0 ∨ q = 1 ∨ q = 2 by omega) with rfl | rfl | rfl
                 · exact absurd e c16
                 · exact absurd e c24
                 · exact e)] at h
               exact h σ2 (F.tr f2) t2)
      · refine qm_go 1 (fun P hP => And.intro (fun c => absurd (by decide) c) (fun _ => hP ?_))
        refine qm_go 2 (fun P hP => ?_)
        rw [actV_3 (fun z => ca ⟨0, by decide, z⟩) (fun z => ca ⟨1, by decide, z⟩) (fun z => ca ⟨2, by decide, z⟩)] at h
        exact h σ1 F t1
  · rw [actR_no hin] at h
    refine qm_go 4 (fun P hP => hP ?_)
    generalize hσ : wF _ 50 0 (upd _ 63 _) = σ1
    have F : Fr tB σ σ1 := by
      rw [← hσ]
      exact Fr.w1 (Or.inr ⟨rfl, rfl⟩)
    have t1 : mTr σ1 [] := ⟨by rw [← hσ, wv_same]; rfl, fun i b hb => absurd hb (by simp)⟩
    have s1 : mS σ1 A := hs.fg F (fun t i j q => by unfold pM at q; unfold tB; omega) (by unfold tB; omega)
    refine qm_go 2 (fun P hP => m_isOne (by omega) (show A.1 < 2 ^ 31 by omega) s1.n (fun z => absurd z hin) (fun _ => hP ?_))
    refine qm_go 1 (fun P hP => And.intro (fun _ => hP ?_) (fun c => absurd rfl c))
    refine qm_go 2 (fun P hP => h σ1 F t1)
