theorem rowIx' {p m : Nat} (hm : m < 2 ^ 30) : 4 * nI p + (nI m - nI m / 4 * 4) = nI (p * 4 + m % 4) := by
  rw [Int32.mul_comm]; exact rowIx hm
theorem m_urge_t {d : Nat} (hd : 1 ≤ d) {σ : qm_Sg} {Q : qm_Po} {s : Int32} {n p : Nat} {kd vv rw9 : Nat → Int32} {aw : Int32} {S : (Nat → Int32) → Int32} {br : Int32} {D : DD} (hsd : sM σ n kd vv rw9 aw S br) (hv : vM σ D) (hp : p < n) (hm : D.2.2.2 < 2 ^ 30) (h : Q σ (some (vI (urgD kd vv rw9 D p s)))) : qm_Wp (qm_M d) qk_144 Q 3 [some (vR 50 0), some (vI (nI p)), none, none] [vI s] σ := by
  obtain ⟨s1, s2, s3, s4, s5, s6, s7, s8⟩ := id hsd
  have hp6 : p < 6 := by omega
  obtain ⟨k, hk, ek⟩ := s7 p hp
  obtain ⟨o9, l9, dp9, m9⟩ := D
  obtain ⟨v1, v2, v3, v4⟩ := hv
  simp only at v1 v2 v3 v4 hm
  refine qm_go 7 (fun P hP => Exists.intro (_) (And.intro (And.intro (rfl) (hp6)) (hP ?_)))
  refine qm_go 2 (fun P hP => And.intro (by decide) (hP ?_))
  refine qm_go 2 (fun P hP => m_least (by omega) (hP ?_))
  refine qm_go 6 (fun P hP => Exists.intro (_) (And.intro (And.intro (rfl) (hp6)) (hP ?_)))
  refine qm_go 1 (fun P hP => And.intro (fun c20_0 => hP ?_) (fun n20_0 => And.intro (fun c20_1 => hP ?_) (fun n20_1 => And.intro (fun c20_2 => hP ?_) (fun n20_2 => And.intro (fun c20_3 => hP ?_) (fun n20_3 => And.intro (fun c20_4 => hP ?_) (fun n20_4 => And.intro (fun c20_5 => hP ?_) (fun n20_5 => hP ?_)))))))
  · refine qm_go 5 (fun P hP => Exists.intro (_) (And.intro (And.intro (rfl) (hp6)) (hP ?_)))
    refine qm_go 2 (fun P hP => ?_)
    rw [s3] at c20_0; rw [urgD_1 c20_0] at h; show Q σ (some (vI (s + σ.1 52 0 p))); rw [s4]; exact h
  · refine qm_go 3 (fun P hP => And.intro (by decide) (hP ?_))
    refine qm_go 1 (fun P hP => ?_)
    rw [s3] at c20_1; rw [urgD_2 c20_1] at h; exact h
  · refine qm_go 2 (fun P hP => ?_)
    rw [s3] at c20_2; rw [urgD_3 c20_2] at h; show Q σ (some (vI (s - (if σ.1 54 0 p / 10 < 9 then σ.1 54 0 p / 10 else 9)))); rw [v2]; exact h
  · refine qm_go 4 (fun P hP => Exists.intro (_) (And.intro (And.intro (rfl) (hp6)) (hP ?_)))
    refine qm_go 1 (fun P hP => And.intro (fun c38 => hP ?_) (fun c38 => hP ?_))
    · refine qm_go 5 (fun P hP => Exists.intro (_) (And.intro (And.intro (rfl) (hp6)) (hP ?_)))
      refine qm_go 2 (fun P hP => ?_)
      rw [s3] at c20_3; rw [urgD_4 c20_3] at h; rw [v1] at c38; first | (rw [if_neg c38] at h; show Q σ (some (vI (s + σ.1 52 0 p))); rw [s4]; exact h) | (rw [if_pos c38] at h; show Q σ (some (vI (2 * (s + σ.1 52 0 p)))); rw [s4, Int32.mul_comm]; exact h)
    · refine qm_go 6 (fun P hP => Exists.intro (_) (And.intro (And.intro (rfl) (hp6)) (hP ?_)))
      refine qm_go 4 (fun P hP => ?_)
      rw [s3] at c20_3; rw [urgD_4 c20_3] at h; rw [v1] at c38; first | (rw [if_neg c38] at h; show Q σ (some (vI (s + σ.1 52 0 p))); rw [s4]; exact h) | (rw [if_pos c38] at h; show Q σ (some (vI (2 * (s + σ.1 52 0 p)))); rw [s4, Int32.mul_comm]; exact h)
  · refine qm_go 4 (fun P hP => And.intro (by decide) (hP ?_))
    refine qm_go 2 (fun P hP => And.intro (fun c60 => hP ?_) (fun c60 => hP ?_))
    · refine qm_go 3 (fun P hP => And.intro (by decide) (hP ?_))
      refine qm_go 1 (fun P hP => ?_)
      rw [s3] at c20_4; rw [urgD_5 c20_4] at h; rw [v4] at c60; first | (rw [if_neg c60] at h; exact h) | (rw [if_pos c60] at h; exact h)
    · refine qm_go 3 (fun P hP => ?_)
      rw [s3] at c20_4; rw [urgD_5 c20_4] at h; rw [v4] at c60; first | (rw [if_neg c60] at h; exact h) | (rw [if_pos c60] at h; exact h)
  · refine qm_go 10 (fun P hP => And.intro (by decide) (hP ?_))
    refine qm_go 2 (fun P hP => Exists.intro (p * 4 + m9 % 4) (And.intro (And.intro (by rw [v4]; exact rowIx' hm) ((show p * 4 + m9 % 4 < 24 by omega))) (hP ?_)))
    refine qm_go 2 (fun P hP => ?_)
    rw [s3] at c20_5; rw [urgD_6 c20_5] at h; show Q σ (some (vI (s - (if σ.1 54 0 p / 10 < 9 then σ.1 54 0 p / 10 else 9) + σ.1 55 0 (p * 4 + m9 % 4)))); rw [v2, s5]; exact h
  · refine qm_go 2 (fun P hP => ?_)
    rw [s3, ek] at n20_0 n20_1 n20_2 n20_3 n20_4 n20_5
    rcases (show k = 0 ∨ k = 1 ∨ k = 2 ∨ k = 3 ∨ k = 4 ∨ k = 5 ∨ k = 6 by omega) with rfl | rfl | rfl | rfl | rfl | rfl | rfl
    · rw [urgD_0 ek] at h; exact h
    · exact absurd rfl n20_0
    · exact absurd rfl n20_1
    · exact absurd rfl n20_2
    · exact absurd rfl n20_3
    · exact absurd rfl n20_4
    · exact absurd rfl n20_5
theorem m_urge {d : Nat} (hd : 6 ≤ d) {σ : qm_Sg} {Q : qm_Po} {n p : Nat} {kd vv rw9 : Nat → Int32} {aw : Int32} {S : (Nat → Int32) → Int32} {br : Int32} {D : DD} (hsd : sM σ n kd vv rw9 aw S br) (hv : vM σ D) (hp : p < n) (hm : D.2.2.2 < 2 ^ 30) (h : ∀ σ', Fr (fun t _ _ => t = 65) σ σ' → Q σ' (some (vI (urgD kd vv rw9 D p (S (fxD kd vv D p)))))) : qm_M d 144 [vR 50 0, vI (nI p)] σ Q := by
  obtain ⟨d, rfl, hd⟩ := qm_dn hd
  show qm_Wp (qm_M d) qk_144 Q 0 [some (vR 50 0), some (vI (nI p)), none, none] [] σ
  obtain ⟨s1, s2, s3, s4, s5, s6, s7, s8⟩ := id hsd
  have hp6 : p < 6 := by omega
  refine qm_go 3 (fun P hP => m_sum (by omega) hp6 s8 s3 s4 hv (fun σ1 f1 => hP ?_))
  exact m_urge_t (by omega) (hsd.fr f1 (fun t i j q => Or.inl q)) (hv.fr f1) hp hm (h σ1 f1)
theorem m_snooze {d : Nat} (hd : 7 ≤ d) {σ : qm_Sg} {Q : qm_Po} {n p : Nat} {kd vv rw9 : Nat → Int32} {aw : Int32} {S : (Nat → Int32) → Int32} {br : Int32} {D : DD} (hsd : sM σ n kd vv rw9 aw S br) (hv : vM σ D) (hp : p < n) (hm : D.2.2.2 < 2 ^ 30) (h : ∀ σ', Fr (fun t _ _ => t = 65) σ σ' → Q σ' (some (vI (snz (urgD kd vv rw9 D p (S (fxD kd vv D p))))))) : qm_M d 145 [vR 50 0, vI (nI p)] σ Q := by
  obtain ⟨d, rfl, hd⟩ := qm_dn hd
  show qm_Wp (qm_M d) qk_145 Q 0 [some (vR 50 0), some (vI (nI p)), none] [] σ
  obtain ⟨s1, s2, s3, s4, s5, s6, s7, s8⟩ := id hsd
  have hp6 : p < 6 := by omega
  refine qm_go 3 (fun P hP => m_urge (by omega) hsd hv hp hm (fun σ1 f1 => hP ?_))
  refine qm_go 3 (fun P hP => And.intro (fun c5 => hP ?_) (fun c5 => hP ?_))
  · refine qm_go 4 (fun P hP => m_least (by omega) (hP ?_))
    refine qm_go 1 (fun P hP => ?_)
    have h2 := h σ1 f1
    unfold snz at h2
    first | (rw [if_neg (i_nlt c5)] at h2; exact h2) | (rw [if_pos (i_lt_of c5)] at h2; exact h2)
  · refine qm_go 3 (fun P hP => ?_)
    have h2 := h σ1 f1
    unfold snz at h2
    first | (rw [if_neg (i_nlt c5)] at h2; exact h2) | (rw [if_pos (i_lt_of c5)] at h2; exact h2)
theorem m_goes_t {d : Nat} (hd : 3 ≤ d) {σ : qm_Sg} {Q : qm_Po} {z : Int32} {n p : Nat} {kd vv rw9 : Nat → Int32} {aw : Int32} {S : (Nat → Int32) → Int32} {br : Int32} {D : DD} (hsd : sM σ n kd vv rw9 aw S br) (hv : vM σ D) (hp : p < n) (hm : D.2.2.2 < 2 ^ 30) (hna : ¬ isAw aw p) (h : ∀ σ', Fr tM σ σ' → vM σ' (restD n aw br p D) → Q σ' none) : qm_Wp (qm_M d) qk_150 Q 35 [some (vR 50 0), some (vI (nI p)), some (vI z)] [] σ := by
  obtain ⟨s1, s2, s3, s4, s5, s6, s7, s8⟩ := id hsd
  have hp6 : p < 6 := by omega
  unfold restD at h
  refine qm_go 4 (fun P hP => Exists.intro (_) (And.intro (And.intro (rfl) (hp6)) (hP ?_)))
  refine qm_go 2 (fun P hP => m_bear (by omega) s8 (hP ?_))
  refine qm_go 1 (fun P hP => And.intro (fun c41 => hP ?_) (fun c41 => hP ?_))
  · refine qm_go 6 (fun P hP => Exists.intro (_) (And.intro (And.intro (rfl) (hp6)) (hP ?_)))
    refine qm_go 2 (fun P hP => m_bear (by omega) s8 (hP ?_))
    refine qm_go 2 (fun P hP => m_comes (by omega) s2 hp hna s1 s6 hv (fun σ1 f1 v1 => hP ?_))
    refine qm_go 5 (fun P hP => m_bear (by omega) (hsd.fr f1 (fun t i j q => q)).2.2.2.2.2.2.2 (hP ?_))
    refine qm_go 1 (fun P hP => Exists.intro (_) (And.intro (And.intro (rfl) (hp6)) (hP ?_)))
    refine qm_go 1 (fun P hP => ?_)
    rw [hv.1] at c41 v1; rw [if_neg (i_nle c41)] at h; exact h _ (f1.tr (Fr.w1 (Or.inr (Or.inl rfl)))) ⟨by rw [wF_same, v1.1], by rw [wF_ne _ _ (by omega)]; exact v1.2.1, by rw [wF_ne _ _ (by omega)]; exact v1.2.2.1, by rw [wF_ne _ _ (by omega)]; exact v1.2.2.2⟩
  · refine qm_go 1 (fun P hP => ?_)
    rw [hv.1] at c41; rw [if_pos (i_le_of c41)] at h; exact h σ Fr.rf hv
theorem m_goes {d : Nat} (hd : 8 ≤ d) {σ : qm_Sg} {Q : qm_Po} {n p : Nat} {kd vv rw9 : Nat → Int32} {aw : Int32} {S : (Nat → Int32) → Int32} {br : Int32} {D : DD} (hsd : sM σ n kd vv rw9 aw S br) (hv : vM σ D) (hp : p < n) (hm : D.2.2.2 < 2 ^ 30) (hna : ¬ isAw aw p) (h : ∀ σ', Fr tM σ σ' → vM σ' (wakeD n kd vv rw9 aw S br p D) → Q σ' none) : qm_M d 150 [vR 50 0, vI (nI p)] σ Q := by
  obtain ⟨d, rfl, hd⟩ := qm_dn hd
  show qm_Wp (qm_M d) qk_150 Q 0 [some (vR 50 0), some (vI (nI p)), none] [] σ
  obtain ⟨s1, s2, s3, s4, s5, s6, s7, s8⟩ := id hsd
  have hp6 : p < 6 := by omega
  refine qm_go 5 (fun P hP => m_snooze (by omega) hsd hv hp hm (fun σ1 f1 => hP ?_))
  refine qm_go 1 (fun P hP => m_comes (by omega) s2 hp hna (hsd.fr f1 (fun t i j q => Or.inl q)).1 (hsd.fr f1 (fun t i j q => Or.inl q)).2.2.2.2.2.1 (hv.fr f1) (fun σ2 f2 v2 => hP ?_))
  refine qm_go 5 (fun P hP => Exists.intro (_) (And.intro (And.intro (rfl) (hp6)) (hP ?_)))
  refine qm_go 2 (fun P hP => m_least (by omega) (hP ?_))
  refine qm_go 6 (fun P hP => Exists.intro (_) (And.intro (And.intro (rfl) (hp6)) (hP ?_)))
  refine qm_go 3 (fun P hP => Exists.intro (_) (And.intro (And.intro (rfl) (hp6)) (hP ?_)))
  refine qm_go 8 (fun P hP => Exists.intro (_) (And.intro (And.intro (rfl) (hp6)) (hP ?_)))
  refine qm_go 4 (fun P hP => m_least (by omega) (hP ?_))
  refine qm_go 1 (fun P hP => Exists.intro (_) (And.intro (And.intro (rfl) (hp6)) (hP ?_)))
  have F2 : Fr tM σ σ2 := (f1.mono (fun t i j q => Or.inl q)).tr f2
  refine m_goes_t (D := workD p (comeD n aw p (snz (urgD kd vv rw9 D p (S (fxD kd vv D p)))) D)) (by omega) (hsd.fr (F2.tr ((Fr.w1 (Or.inr (Or.inl rfl))).tr (Fr.w1 (Or.inr (Or.inr (Or.inl rfl)))))) (fun t i j q => q)) ?_ hp (by show (comeD _ _ _ _ _).2.2.2 < _; rw [comeD_m]; exact hm) hna (fun σ3 f3 v3 => h σ3 ((F2.tr ((Fr.w1 (Or.inr (Or.inl rfl))).tr (Fr.w1 (Or.inr (Or.inr (Or.inl rfl)))))).tr f3) v3)
  refine ⟨?_, ?_, ?_, ?_⟩
  · rw [wF_ne _ _ (by omega), wF_same, v2.1]; rfl
  · rw [wF_same, wF_ne _ _ (by omega), v2.1, v2.2.1]; rfl
  · rw [wF_ne _ _ (by omega), wF_ne _ _ (by omega), v2.2.2.1]; rfl
  · rw [wF_ne _ _ (by omega), wF_ne _ _ (by omega), v2.2.2.2]; rfl
theorem m_goMorning_i {d : Nat} (hd : 8 ≤ d) {Q : qm_Po} {n : Nat} {kd vv rw9 : Nat → Int32} {aw : Int32} {S : (Nat → Int32) → Int32} {br : Int32} : ∀ (k p : Nat) (σ : qm_Sg) (D : DD), p + k = n → sM σ n kd vv rw9 aw S br → vM σ D → D.2.2.2 < 2 ^ 30 → (∀ σ', Fr tM σ σ' → vM σ' (dayD n kd vv rw9 aw S br k p D) → qm_Wp (qm_M d) qk_151 Q 17 [some (vR 50 0), some (vI (nI n))] [] σ') → qm_Wp (qm_M d) qk_151 Q 2 [some (vR 50 0), some (vI (nI p))] [] σ
  | 0, p, σ, D, e, hsd, hv, hm, h => by
    obtain ⟨s1, s2, s3, s4, s5, s6, s7, s8⟩ := id hsd
    have : p = n := by omega
    subst this
    refine qm_go 4 (fun P hP => And.intro (fun _ => hP ?_) (fun c => absurd (by rw [s1]; exact nI_le (Nat.le_refl _) (by omega)) c))
    exact h σ Fr.rf hv
  | k + 1, p, σ, D, e, hsd, hv, hm, h => by
    obtain ⟨s1, s2, s3, s4, s5, s6, s7, s8⟩ := id hsd
    unfold dayD at h
    refine qm_go 4 (fun P hP => And.intro (fun c => absurd c (by rw [s1]; exact nI_ge (by omega) (by omega))) (fun _ => hP ?_))
    refine qm_go 5 (fun P hP => m_has (by omega) (fun c => hP ?_) (fun c => hP ?_))
    · refine qm_go 1 (fun P hP => And.intro (fun _ => hP ?_) (fun c => absurd c (by decide)))
      refine qm_go 2 (fun P hP => hP ?_)
      first
        | (rw [s6] at c; rw [if_neg c] at h; rw [nI_1]; exact m_goMorning_i hd k (p + 1) σ1 _ (by omega) (hsd.fr f1 (fun t i j q => q)) v1 (by rw [wakeD_m]; exact hm) (fun σ2 f2 v2 => h σ2 (f1.tr f2) v2))
        | (rw [s6] at c; rw [if_pos c] at h; rw [nI_1]; exact m_goMorning_i hd k (p + 1) σ D (by omega) hsd hv hm h)
    · refine qm_go 1 (fun P hP => And.intro (fun c => absurd (by decide) c) (fun _ => hP ?_))
      refine qm_go 3 (fun P hP => m_goes (by omega) hsd hv (by omega) hm (by rw [← s6]; exact c) (fun σ1 f1 v1 => hP ?_))
      refine qm_go 2 (fun P hP => hP ?_)
      first
        | (rw [s6] at c; rw [if_neg c] at h; rw [nI_1]; exact m_goMorning_i hd k (p + 1) σ1 _ (by omega) (hsd.fr f1 (fun t i j q => q)) v1 (by rw [wakeD_m]; exact hm) (fun σ2 f2 v2 => h σ2 (f1.tr f2) v2))
        | (rw [s6] at c; rw [if_pos c] at h; rw [nI_1]; exact m_goMorning_i hd k (p + 1) σ D (by omega) hsd hv hm h)
theorem m_goMorning {d : Nat} (hd : 9 ≤ d) {σ : qm_Sg} {Q : qm_Po} {n : Nat} {kd vv rw9 : Nat → Int32} {aw : Int32} {S : (Nat → Int32) → Int32} {br : Int32} {D : DD} (hsd : sM σ n kd vv rw9 aw S br) (hv : vM σ D) (hm : D.2.2.2 < 2 ^ 30) (h : ∀ σ', Fr tM σ σ' → vM σ' (oneD n kd vv rw9 aw S br D) → Q σ' none) : qm_M d 151 [vR 50 0] σ Q := by
  obtain ⟨d, rfl, hd⟩ := qm_dn hd
  show qm_Wp (qm_M d) qk_151 Q 0 [some (vR 50 0), none] [] σ
  refine qm_go 2 (fun P hP => hP ?_)
  refine m_goMorning_i (by omega) n 0 σ D (by omega) hsd hv hm (fun σ1 f1 v1 => ?_)
  have F2 : Fr tM σ1 (wF σ1 50 0 (upd (σ1.1 50 0) 3 (σ1.1 50 0 3 + 1))) := Fr.w1 (Or.inr (Or.inr (Or.inr ⟨rfl, Or.inr rfl⟩)))
  refine qm_go 7 (fun P hP => h _ (f1.tr F2) ?_)
  refine ⟨by rw [wF_ne _ _ (by omega)]; exact v1.1, by rw [wF_ne _ _ (by omega)]; exact v1.2.1, by rw [wv_ne (by decide)]; exact v1.2.2.1, ?_⟩
  rw [wv_same, v1.2.2.2, dayD_m, nI_1]
  rfl
theorem m_goMornings_o {d : Nat} (hd : 9 ≤ d) {Q : qm_Po} {n : Nat} {kd vv rw9 : Nat → Int32} {aw : Int32} {S : (Nat → Int32) → Int32} {br : Int32} : ∀ (k g m9 : Nat) (σ : qm_Sg) (D : DD), g + k = m9 → m9 < 2 ^ 20 → sM σ n kd vv rw9 aw S br → vM σ D → D.2.2.2 + k < 2 ^ 30 → (∀ σ', Fr tM σ σ' → vM σ' (goD n kd vv rw9 aw S br k D) → Q σ' none) → qm_Wp (qm_M d) qk_152 Q 2 [some (vR 50 0), some (vI (nI m9)), some (vI (nI g))] [] σ
  | 0, g, m9, σ, D, e, hm9, hsd, hv, hm, h => by
    refine qm_go 3 (fun P hP => And.intro (fun _ => hP ?_) (fun c => absurd (nI_le (by omega) (by omega)) c))
    refine qm_go 1 (fun P hP => h σ Fr.rf hv)
  | k + 1, g, m9, σ, D, e, hm9, hsd, hv, hm, h => by
    refine qm_go 3 (fun P hP => And.intro (fun c => absurd c (nI_ge (by omega) (by omega))) (fun _ => hP ?_))
    refine qm_go 2 (fun P hP => m_goMorning (by omega) hsd hv (by omega) (fun σ1 f1 v1 => hP ?_))
    refine qm_go 2 (fun P hP => hP ?_)
    rw [nI_1]
    exact m_goMornings_o hd k (g + 1) m9 σ1 _ (by omega) hm9 (hsd.fr f1 (fun t i j q => q)) v1 (by show D.2.2.2 + 1 + k < _; omega) (fun σ2 f2 v2 => h σ2 (f1.tr f2) v2)
theorem m_goMornings {d : Nat} (hd : 10 ≤ d) {σ : qm_Sg} {Q : qm_Po} {n : Nat} {kd vv rw9 : Nat → Int32} {aw : Int32} {S : (Nat → Int32) → Int32} {br : Int32} {k9 : Nat} {D : DD} (hk : k9 < 2 ^ 20) (hsd : sM σ n kd vv rw9 aw S br) (hv : vM σ D) (hm : D.2.2.2 + k9 < 2 ^ 30) (h : ∀ σ', Fr tM σ σ' → vM σ' (goD n kd vv rw9 aw S br k9 D) → Q σ' none) : qm_M d 152 [vR 50 0, vI (nI k9)] σ Q := by
  obtain ⟨d, rfl, hd⟩ := qm_dn hd
  show qm_Wp (qm_M d) qk_152 Q 0 [some (vR 50 0), some (vI (nI k9)), none] [] σ
  refine qm_go 2 (fun P hP => hP ?_)
  exact m_goMornings_o (by omega) k9 0 k9 σ D (by omega) hk hsd hv hm h
