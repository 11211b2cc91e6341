theorem urgD_0 {kd vv rw9 : Nat → Int32} {D : DD} {p : Nat} {s : Int32} (h : kd p = nI 0) : urgD kd vv rw9 D p s = (s) := by unfold urgD; rw [h]; rfl
theorem urgD_1 {kd vv rw9 : Nat → Int32} {D : DD} {p : Nat} {s : Int32} (h : kd p = nI 1) : urgD kd vv rw9 D p s = (s + vv p) := by unfold urgD; rw [h]; rfl
theorem urgD_2 {kd vv rw9 : Nat → Int32} {D : DD} {p : Nat} {s : Int32} (h : kd p = nI 2) : urgD kd vv rw9 D p s = (s / 2) := by unfold urgD; rw [h]; rfl
theorem urgD_3 {kd vv rw9 : Nat → Int32} {D : DD} {p : Nat} {s : Int32} (h : kd p = nI 3) : urgD kd vv rw9 D p s = (boyD D p s) := by unfold urgD; rw [h]; rfl
theorem urgD_4 {kd vv rw9 : Nat → Int32} {D : DD} {p : Nat} {s : Int32} (h : kd p = nI 4) : urgD kd vv rw9 D p s = (if D.1 p = 0 then (s + vv p) * 2 else s + vv p) := by unfold urgD; rw [h]; rfl
theorem urgD_5 {kd vv rw9 : Nat → Int32} {D : DD} {p : Nat} {s : Int32} (h : kd p = nI 5) : urgD kd vv rw9 D p s = (if nI D.2.2.2 - nI D.2.2.2 / 7 * 7 = 6 then 0 else s / 2) := by unfold urgD; rw [h]; rfl
theorem urgD_6 {kd vv rw9 : Nat → Int32} {D : DD} {p : Nat} {s : Int32} (h : kd p = nI 6) : urgD kd vv rw9 D p s = (boyD D p s + rw9 (p * 4 + D.2.2.2 % 4)) := by unfold urgD; rw [h]; rfl
theorem c_urgeOf_t {d : Nat} (hd : 2 ≤ d) {σ : qm_Sg} {Q : qm_Po} {s : Int32} {n X p : Nat} {kd vv rw9 : Nat → Int32} {aw : Int32} {S : (Nat → Int32) → Int32} {br : Int32} {D : DD} (hsd : sD X σ n kd vv rw9 aw S br) (hv : vD X σ D) (hp : p < n) (hm : D.2.2.2 < 2 ^ 30) (h : Q σ (some (vI (urgD kd vv rw9 D p s)))) : qm_Wp (qm_M d) qk_28 Q 14 [some (vR 10 X), some (vI (nI p)), none] [vI s] σ := by
  obtain ⟨s1, s2, s3, s4, s5, s6, s7, s8⟩ := id hsd
  have hp6 : p < 6 := by omega
  obtain ⟨k, hk, ek⟩ := s7 p hp
  obtain ⟨o9, l9, dp9, m9⟩ := D
  obtain ⟨v1, v2, v3, v4⟩ := hv
  simp only at v1 v2 v3 v4 hm
  refine qm_go 7 (fun P hP => Exists.intro p (And.intro (And.intro rfl hp6) (hP ?_)))
  rw [s3, ek]
  rcases (show k = 0 ∨ k = 1 ∨ k = 2 ∨ k = 3 ∨ k = 4 ∨ k = 5 ∨ k = 6 by omega) with rfl | rfl | rfl | rfl | rfl | rfl | rfl
  · refine qm_go 1 (fun P hP => Exists.intro 0 (And.intro (And.intro rfl (by decide)) (hP ?_)))
    refine qm_go 4 (fun P hP => c_urge6 (by omega) (hP ?_))
    refine qm_go 1 (fun P hP => ?_)
    rw [urgD_0 ek] at h
    exact h
  · refine qm_go 1 (fun P hP => Exists.intro 1 (And.intro (And.intro rfl (by decide)) (hP ?_)))
    refine qm_go 4 (fun P hP => c_urge3 (by omega) hp6 (hP ?_))
    refine qm_go 1 (fun P hP => ?_)
    rw [urgD_1 ek] at h
    show Q σ (some (vI _))
    rw [s4]
    exact h
  · refine qm_go 1 (fun P hP => Exists.intro 2 (And.intro (And.intro rfl (by decide)) (hP ?_)))
    refine qm_go 4 (fun P hP => c_urge1 (by omega) (hP ?_))
    refine qm_go 1 (fun P hP => ?_)
    rw [urgD_2 ek] at h
    exact h
  · refine qm_go 1 (fun P hP => Exists.intro 3 (And.intro (And.intro rfl (by decide)) (hP ?_)))
    refine qm_go 4 (fun P hP => c_urge0 (by omega) hp6 (hP ?_))
    refine qm_go 1 (fun P hP => ?_)
    rw [urgD_3 ek] at h
    show Q σ (some (vI _))
    rw [v2]
    exact h
  · refine qm_go 1 (fun P hP => Exists.intro 4 (And.intro (And.intro rfl (by decide)) (hP ?_)))
    refine qm_go 4 (fun P hP => c_urge4 (by omega) hp6 (hP ?_))
    refine qm_go 1 (fun P hP => ?_)
    rw [urgD_4 ek] at h
    show Q σ (some (vI _))
    rw [v1, s4]
    exact h
  · refine qm_go 1 (fun P hP => Exists.intro 5 (And.intro (And.intro rfl (by decide)) (hP ?_)))
    refine qm_go 4 (fun P hP => c_urge5 (by omega) (hP ?_))
    refine qm_go 1 (fun P hP => ?_)
    rw [urgD_5 ek] at h
    show Q σ (some (vI _))
    rw [v4]
    exact h
  · refine qm_go 1 (fun P hP => Exists.intro 6 (And.intro (And.intro rfl (by decide)) (hP ?_)))
    refine qm_go 4 (fun P hP => c_urge9 (by omega) hp6 hm v4 (hP ?_))
    refine qm_go 1 (fun P hP => ?_)
    rw [urgD_6 ek] at h
    show Q σ (some (vI _))
    rw [v2, s5]
    exact h
theorem c_urgeOf {d : Nat} (hd : 4 ≤ d) {σ : qm_Sg} {Q : qm_Po} {n X p : Nat} {kd vv rw9 : Nat → Int32} {aw : Int32} {S : (Nat → Int32) → Int32} {br : Int32} {D : DD} (hsd : sD X σ n kd vv rw9 aw S br) (hv : vD X σ D) (hp : p < n) (hm : D.2.2.2 < 2 ^ 30) (h : ∀ σ', Fr (fun t _ _ => t = 33) σ σ' → Q σ' (some (vI (urgD kd vv rw9 D p (S (fxD kd vv D p)))))) : qm_M d 28 [vR 10 X, vI (nI p)] σ Q := by
  obtain ⟨d, rfl, hd⟩ := qm_dn hd
  show qm_Wp (qm_M d) qk_28 Q 0 [some (vR 10 X), some (vI (nI p)), none] [] σ
  obtain ⟨s1, s2, s3, s4, s5, s6, s7, s8⟩ := id hsd
  have hp6 : p < 6 := by omega
  rcases s8 with ⟨h1, rfl, -⟩ | ⟨s, c, h1, h2, h3, h4, rfl, -⟩
  · refine qm_go 4 (fun P hP => And.intro (fun c => absurd h1 c) (fun _ => hP ?_))
    refine qm_go 2 (fun P hP => hP ?_)
    exact c_urgeOf_t (by omega) hsd hv hp hm (h σ Fr.rf)
  · refine qm_go 4 (fun P hP => And.intro (fun _ => hP ?_) (fun c => absurd (h2.symm.trans c) (by rw [i_eq, nI_toInt (by omega)]; show ¬ ((s : Int) = -1); omega)))
    refine qm_go 5 (fun P hP => Exists.intro s (And.intro (And.intro h2 (show s < 6 from h1)) (hP ?_)))
    refine qm_go 3 (fun P hP => c_sumOf (by omega) h1 hp6 h3 h4 s3 s4 hv (fun σ' hF => hP ?_))
    exact c_urgeOf_t (by omega) (hsd.fr hF (fun t i j q => Or.inl q)) (hv.fr hF) hp hm (h σ' hF)
theorem c_wakes_t {d : Nat} (hd : 3 ≤ d) {σ : qm_Sg} {Q : qm_Po} {z : Int32} {n X p : Nat} {kd vv rw9 : Nat → Int32} {aw : Int32} {S : (Nat → Int32) → Int32} {br : Int32} {D : DD} (hsd : sD X σ n kd vv rw9 aw S br) (hv : vD X σ D) (hp : p < n) (hm : D.2.2.2 < 2 ^ 30) (h : ∀ σ', Fr (tC X) σ σ' → vD X σ' (restD n aw br p D) → Q σ' none) : qm_Wp (qm_M d) qk_32 Q 37 [some (vR 10 X), some (vI (nI p)), some (vI z), none] [] σ := by
  obtain ⟨s1, s2, s3, s4, s5, s6, s7, s8⟩ := id hsd
  have hp6 : p < 6 := by omega
  unfold restD at h
  refine qm_go 2 (fun P hP => c_bear (by omega) s8 (hP ?_))
  refine qm_go 5 (fun P hP => Exists.intro (_) (And.intro (And.intro (rfl) (hp6)) (hP ?_)))
  refine qm_go 2 (fun P hP => And.intro (fun c45 => hP ?_) (fun c45 => hP ?_))
  · refine qm_go 1 (fun P hP => ?_)
    first | (rw [hv.1] at c45; rw [if_pos c45] at h; exact h σ Fr.rf hv) | (rw [hv.1] at c45 v1; rw [if_neg c45] at h; exact h _ (f1.tr (Fr.w1 (Or.inr ⟨rfl, Or.inl rfl⟩))) ⟨by rw [wF_same, v1.1], by rw [wF_ne _ _ (by omega)]; exact v1.2.1, by rw [wF_ne _ _ (by omega)]; exact v1.2.2.1, by rw [wF_ne _ _ (by omega)]; exact v1.2.2.2⟩)
  · refine qm_go 6 (fun P hP => Exists.intro (_) (And.intro (And.intro (rfl) (hp6)) (hP ?_)))
    refine qm_go 3 (fun P hP => c_comesFrom (by omega) s2 hp s1 s6 hv (fun σ1 f1 v1 => hP ?_))
    refine qm_go 5 (fun P hP => Exists.intro (_) (And.intro (And.intro (rfl) (hp6)) (hP ?_)))
    refine qm_go 1 (fun P hP => ?_)
    first | (rw [hv.1] at c45; rw [if_pos c45] at h; exact h σ Fr.rf hv) | (rw [hv.1] at c45 v1; rw [if_neg c45] at h; exact h _ (f1.tr (Fr.w1 (Or.inr ⟨rfl, Or.inl rfl⟩))) ⟨by rw [wF_same, v1.1], by rw [wF_ne _ _ (by omega)]; exact v1.2.1, by rw [wF_ne _ _ (by omega)]; exact v1.2.2.1, by rw [wF_ne _ _ (by omega)]; exact v1.2.2.2⟩)
theorem c_wakes {d : Nat} (hd : 5 ≤ d) {σ : qm_Sg} {Q : qm_Po} {n X p : Nat} {kd vv rw9 : Nat → Int32} {aw : Int32} {S : (Nat → Int32) → Int32} {br : Int32} {D : DD} (hsd : sD X σ n kd vv rw9 aw S br) (hv : vD X σ D) (hp : p < n) (hm : D.2.2.2 < 2 ^ 30) (h : ∀ σ', Fr (tC X) σ σ' → vD X σ' (wakeD n kd vv rw9 aw S br p D) → Q σ' none) : qm_M d 32 [vR 10 X, vI (nI p)] σ Q := by
  obtain ⟨d, rfl, hd⟩ := qm_dn hd
  show qm_Wp (qm_M d) qk_32 Q 0 [some (vR 10 X), some (vI (nI p)), none, none] [] σ
  obtain ⟨s1, s2, s3, s4, s5, s6, s7, s8⟩ := id hsd
  have hp6 : p < 6 := by omega
  refine qm_go 7 (fun P hP => c_urgeOf (by omega) hsd hv hp hm (fun σ1 f1 => hP ?_))
  refine qm_go 3 (fun P hP => c_comesFrom (by omega) s2 hp (hsd.fr f1 (fun t i j q => Or.inl q)).1 (hsd.fr f1 (fun t i j q => Or.inl q)).2.2.2.2.2.1 (hv.fr f1) (fun σ2 f2 v2 => hP ?_))
  refine qm_go 5 (fun P hP => Exists.intro (_) (And.intro (And.intro (rfl) (hp6)) (hP ?_)))
  refine qm_go 7 (fun P hP => Exists.intro (_) (And.intro (And.intro (rfl) (hp6)) (hP ?_)))
  refine qm_go 3 (fun P hP => Exists.intro (_) (And.intro (And.intro (rfl) (hp6)) (hP ?_)))
  refine qm_go 8 (fun P hP => Exists.intro (_) (And.intro (And.intro (rfl) (hp6)) (hP ?_)))
  refine qm_go 4 (fun P hP => Exists.intro (_) (And.intro (And.intro (rfl) (hp6)) (hP ?_)))
  rw [snz_eq] at v2
  have F2 : Fr (tC X) σ σ2 := (f1.mono (fun t i j q => Or.inl q)).tr f2
  refine c_wakes_t (D := workD p (comeD n aw p (snz (urgD kd vv rw9 D p (S (fxD kd vv D p)))) D)) (by omega) (hsd.fr (F2.tr ((Fr.w1 (Or.inr ⟨rfl, Or.inl rfl⟩)).tr (Fr.w1 (Or.inr ⟨rfl, Or.inr (Or.inl rfl)⟩)))) (fun t i j q => q)) ?_ hp (by show (comeD _ _ _ _ _).2.2.2 < _; rw [comeD_m]; exact hm) (fun σ3 f3 v3 => h σ3 ((F2.tr ((Fr.w1 (Or.inr ⟨rfl, Or.inl rfl⟩)).tr (Fr.w1 (Or.inr ⟨rfl, Or.inr (Or.inl rfl)⟩)))).tr f3) v3)
  refine ⟨?_, ?_, ?_, ?_⟩
  · rw [wF_ne _ _ (by omega), wF_same, v2.1]; rfl
  · rw [wF_same, wF_ne _ _ (by omega), v2.1, v2.2.1]; rfl
  · rw [wF_ne _ _ (by omega), wF_ne _ _ (by omega), v2.2.2.1]; rfl
  · rw [wF_ne _ _ (by omega), wF_ne _ _ (by omega), v2.2.2.2]; rfl
theorem c_go_i {d : Nat} (hd : 5 ≤ d) {Q : qm_Po} {n X : Nat} {kd vv rw9 : Nat → Int32} {aw : Int32} {S : (Nat → Int32) → Int32} {br : Int32} {a b : Int32} : ∀ (k p : Nat) (σ : qm_Sg) (D : DD), p + k = n → sD X σ n kd vv rw9 aw S br → vD X σ D → D.2.2.2 < 2 ^ 30 → (∀ σ', Fr (tC X) σ σ' → vD X σ' (dayD n kd vv rw9 aw S br k p D) → qm_Wp (qm_M d) qk_31 Q 20 [some (vR 10 X), some (vI a), some (vI b), some (vI (nI n))] [] σ') → qm_Wp (qm_M d) qk_31 Q 7 [some (vR 10 X), some (vI a), some (vI b), some (vI (nI p))] [] σ
  | 0, p, σ, D, e, hsd, hv, hm, h => by
    obtain ⟨s1, s2, s3, s4, s5, s6, s7, s8⟩ := id hsd
    have : p = n := by omega
    subst this
    refine qm_go 4 (fun P hP => And.intro (fun _ => hP ?_) (fun c => absurd (by rw [s1]; exact nI_le (Nat.le_refl _) (by omega)) c))
    exact h σ Fr.rf hv
  | k + 1, p, σ, D, e, hsd, hv, hm, h => by
    obtain ⟨s1, s2, s3, s4, s5, s6, s7, s8⟩ := id hsd
    unfold dayD at h
    refine qm_go 4 (fun P hP => And.intro (fun c => absurd c (by rw [s1]; exact nI_ge (by omega) (by omega))) (fun _ => hP ?_))
    refine qm_go 3 (fun P hP => c_isAway (by omega) (fun c => hP ?_) (fun c => hP ?_))
    · refine qm_go 1 (fun P hP => And.intro (fun _ => hP ?_) (fun c => absurd c (by decide)))
      refine qm_go 2 (fun P hP => hP ?_)
      first
        | (rw [s6] at c; rw [if_neg c] at h; rw [nI_1]; exact c_go_i hd k (p + 1) σ1 _ (by omega) (hsd.fr f1 (fun t i j q => q)) v1 (by rw [wakeD_m]; exact hm) (fun σ2 f2 v2 => h σ2 (f1.tr f2) v2))
        | (rw [s6] at c; rw [if_pos c] at h; rw [nI_1]; exact c_go_i hd k (p + 1) σ D (by omega) hsd hv hm h)
    · refine qm_go 1 (fun P hP => And.intro (fun c => absurd (by decide) c) (fun _ => hP ?_))
      refine qm_go 3 (fun P hP => c_wakes (by omega) hsd hv (by omega) hm (fun σ1 f1 v1 => hP ?_))
      refine qm_go 2 (fun P hP => hP ?_)
      first
        | (rw [s6] at c; rw [if_neg c] at h; rw [nI_1]; exact c_go_i hd k (p + 1) σ1 _ (by omega) (hsd.fr f1 (fun t i j q => q)) v1 (by rw [wakeD_m]; exact hm) (fun σ2 f2 v2 => h σ2 (f1.tr f2) v2))
        | (rw [s6] at c; rw [if_pos c] at h; rw [nI_1]; exact c_go_i hd k (p + 1) σ D (by omega) hsd hv hm h)
theorem c_go_o {d : Nat} (hd : 5 ≤ d) {Q : qm_Po} {n X : Nat} {kd vv rw9 : Nat → Int32} {aw : Int32} {S : (Nat → Int32) → Int32} {br : Int32} {z : Option qm_AV} : ∀ (k g m9 : Nat) (σ : qm_Sg) (D : DD), g + k = m9 → m9 < 2 ^ 20 → sD X σ n kd vv rw9 aw S br → vD X σ D → D.2.2.2 + k < 2 ^ 30 → (∀ σ', Fr (tC X) σ σ' → vD X σ' (goD n kd vv rw9 aw S br k D) → Q σ' none) → qm_Wp (qm_M d) qk_31 Q 2 [some (vR 10 X), some (vI (nI m9)), some (vI (nI g)), z] [] σ
  | 0, g, m9, σ, D, e, hm9, hsd, hv, hm, h => by
    refine qm_go 3 (fun P hP => And.intro (fun _ => hP ?_) (fun c => absurd (nI_le (by omega) (by omega)) c))
    refine qm_go 1 (fun P hP => h σ Fr.rf hv)
  | k + 1, g, m9, σ, D, e, hm9, hsd, hv, hm, h => by
    refine qm_go 3 (fun P hP => And.intro (fun c => absurd c (nI_ge (by omega) (by omega))) (fun _ => hP ?_))
    refine qm_go 2 (fun P hP => hP ?_)
    refine c_go_i hd n 0 σ D (by omega) hsd hv (by omega) (fun σ1 f1 v1 => ?_)
    refine qm_go 8 (fun P hP => hP ?_)
    rw [nI_1]
    have F2 : Fr (tC X) σ1 (wF σ1 10 X (upd (σ1.1 10 X) 10 (σ1.1 10 X 10 + 1))) := Fr.w1 (Or.inr ⟨rfl, Or.inr (Or.inr ⟨rfl, Or.inr rfl⟩)⟩)
    refine c_go_o hd k (g + 1) m9 _ (oneD n kd vv rw9 aw S br D) (by omega) hm9 (hsd.fr (f1.tr F2) (fun t i j q => q)) ?_ (by show D.2.2.2 + 1 + k < _; omega) (fun σ2 f2 v2 => h σ2 ((f1.tr F2).tr f2) v2)
    refine ⟨by rw [wF_ne _ _ (by omega)]; exact v1.1, by rw [wF_ne _ _ (by omega)]; exact v1.2.1, by rw [wv_ne (by decide)]; exact v1.2.2.1, ?_⟩
    rw [wv_same, v1.2.2.2, dayD_m, nI_1]
    rfl
theorem c_go {d : Nat} (hd : 6 ≤ d) {σ : qm_Sg} {Q : qm_Po} {n X k9 : Nat} {kd vv rw9 : Nat → Int32} {aw : Int32} {S : (Nat → Int32) → Int32} {br : Int32} {D : DD} (hk : k9 < 2 ^ 20) (hsd : sD X σ n kd vv rw9 aw S br) (hv : vD X σ D) (hm : D.2.2.2 + k9 < 2 ^ 30) (h : ∀ σ', Fr (tC X) σ σ' → vD X σ' (goD n kd vv rw9 aw S br k9 D) → Q σ' none) : qm_M d 31 [vR 10 X, vI (nI k9)] σ Q := by
  obtain ⟨d, rfl, hd⟩ := qm_dn hd
  show qm_Wp (qm_M d) qk_31 Q 0 [some (vR 10 X), some (vI (nI k9)), none, none] [] σ
  refine qm_go 2 (fun P hP => hP ?_)
  exact c_go_o (by omega) k9 0 k9 σ D (by omega) hk hsd hv hm h
