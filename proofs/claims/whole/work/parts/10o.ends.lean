theorem foldP_n : ∀ (l : P9) (Z : AS × DD), (l.foldl stepP Z).1.1 = Z.1.1
  | [], _ => rfl
  | q :: l, Z => (foldP_n l (stepP Z q)).trans (stepP_n Z q)
def endV (A : AS) (D : DD) (Pl : P9) (w : Int32) : Int32 :=
  if w = 0 then (Pl.foldl stepP (A, D)).2.2.2.1 else if w = 1 then sumF (Pl.foldl stepP (A, D)).2.2.1 A.1 0 0 else -1
theorem endV_0 (A : AS) (D : DD) (Pl : P9) : endV A D Pl 0 = (Pl.foldl stepP (A, D)).2.2.2.1 := if_pos rfl
theorem endV_1 (A : AS) (D : DD) (Pl : P9) : endV A D Pl 1 = sumF (Pl.foldl stepP (A, D)).2.2.1 A.1 0 0 := (if_neg (by decide)).trans (if_pos rfl)
theorem endV_2 (A : AS) (D : DD) (Pl : P9) {w : Int32} (h : ¬ w = 0) (h1 : ¬ w = 1) : endV A D Pl w = -1 := (if_neg h).trans (if_neg h1)
theorem c_ends_l {d : Nat} (hd : 7 ≤ d) {σ0 : qm_Sg} {Q : qm_Po} {n : Nat} {w : Int32} {Pl : P9} (hr0 : cPlan σ0 Pl) (hw : wfP n Pl) : ∀ (l : P9) (i : Nat) (Z : AS × DD) (σ : qm_Sg), Pl.drop i = l → i ≤ Pl.length → Z.1.1 = n → Z.2.2.2.2 + l.length < 2 ^ 30 → Fr tT σ0 σ → cS 2 σ Z.1 → cV 2 σ Z.2 → (∀ σ' x, Fr tT σ0 σ' → cS 2 σ' (l.foldl stepP Z).1 → cV 2 σ' (l.foldl stepP Z).2 → qm_Wp (qm_M d) qk_82 Q 36 [some (vR 0 0), some (vI w), some (vI x)] [] σ') → qm_Wp (qm_M d) qk_82 Q 14 [some (vR 0 0), some (vI w), some (vI (nI i))] [] σ
  | [], i, Z, σ, e, hi, hZ, hm, f0, hs, hv, h => by
    have hl : Pl.length ≤ i := by have := List.drop_eq_nil_iff.mp e; omega
    have hr := hr0.tr f0
    have h5 := hr.2.1
    refine qm_go 6 (fun P hP => And.intro (fun _ => hP ?_) (fun c => absurd (by rw [hr.1]; exact nI_le (by omega) (by omega)) c))
    exact h σ _ f0 hs hv
  | q :: l, i, Z, σ, e, hi, hZ, hm, f0, hs, hv, h => by
    have hr := hr0.tr f0
    rw [List.length_cons] at hm
    have hq : Pl[i]? = some q := by rw [← List.head?_drop, e]; rfl
    have hl : i < Pl.length := (List.getElem?_eq_some_iff.mp hq).1
    have h5 := hr.2.1
    obtain ⟨a1, a2⟩ := hr.2.2 i q hq
    have e2 : Pl.drop (i + 1) = l := by rw [← List.drop_drop, e]; rfl
    obtain ⟨w1, w2⟩ := hw q (List.mem_of_getElem? hq)
    have st := stepP_m Z q
    refine qm_go 6 (fun P hP => And.intro (fun c => absurd c (by rw [hr.1]; exact nI_ge (by omega) (by omega))) (fun _ => hP ?_))
    refine qm_go 7 (fun P hP => Exists.intro (i) (And.intro (And.intro (rfl) ((show i < 10 by omega))) (hP ?_)))
    rw [a1]
    refine qm_go 6 (fun P hP => Exists.intro (i) (And.intro (And.intro (rfl) ((show i < 10 by omega))) (hP ?_)))
    refine qm_go 1 (fun P hP => c_goPlan (u := q.2) hd w1 (by rw [hZ]; exact w2) a2 hs hv (by omega) (fun σ1 f1 s1 v1 => hP ?_))
    refine qm_go 2 (fun P hP => hP ?_)
    rw [nI_1]
    exact c_ends_l hd hr0 hw l (i + 1) (stepP Z q) σ1 e2 (by omega) ((stepP_n Z q).trans hZ) (by omega) (f0.tr f1) s1 v1 h
theorem c_ends {d : Nat} (hd : 8 ≤ d) {σ : qm_Sg} {Q : qm_Po} {A : AS} {D : DD} {Pl : P9} {w : Int32} (hr : cPlan σ Pl) (hw : wfP A.1 Pl) (hs : cS 0 σ A) (hv : cV 0 σ D) (hm : D.2.2.2 + 100 < 2 ^ 30) (h : ∀ σ', Fr tT σ σ' → Q σ' (some (vI (endV A D Pl w)))) : qm_M d 82 [vR 0 0, vI w] σ Q := by
  obtain ⟨d, rfl, hd⟩ := qm_dn hd
  show qm_Wp (qm_M d) qk_82 Q 0 [some (vR 0 0), some (vI w), none] [] σ
  by_cases w0 : w = 0
  · subst w0
    refine qm_go 2 (fun P hP => And.intro (fun _ => hP ?_) (fun c => absurd rfl c))
    refine qm_go 5 (fun P hP => c_takes20 (by omega) hs hv (fun σ1 f1 s1 v1 => hP ?_))
    refine qm_go 2 (fun P hP => hP ?_)
    have F1 : Fr tT σ σ1 := f1.mono (fun _ _ _ q => tK_T q)
    refine c_ends_l (n := A.1) (by omega) hr hw Pl 0 (A, D) σ1 rfl (by omega) rfl (by have := hr.2.1; show D.2.2.2 + Pl.length < _; omega) F1 s1 v1 (fun σ2 x f2 s2 v2 => ?_)
    rw [endV_0, ← v2.d] at h
    refine qm_go 2 (fun P hP => And.intro (fun c => absurd rfl c) (fun _ => hP ?_))
    refine qm_go 5 (fun P hP => h σ2 f2)
  · by_cases w1 : w = 1
    · subst w1
      refine qm_go 2 (fun P hP => And.intro (fun c => absurd c (by decide)) (fun _ => hP ?_))
      refine qm_go 3 (fun P hP => And.intro (fun _ => hP ?_) (fun c => absurd rfl c))
      refine qm_go 5 (fun P hP => c_takes20 (by omega) hs hv (fun σ1 f1 s1 v1 => hP ?_))
      refine qm_go 2 (fun P hP => hP ?_)
      have F1 : Fr tT σ σ1 := f1.mono (fun _ _ _ q => tK_T q)
      refine c_ends_l (n := A.1) (by omega) hr hw Pl 0 (A, D) σ1 rfl (by omega) rfl (by have := hr.2.1; show D.2.2.2 + Pl.length < _; omega) F1 s1 v1 (fun σ2 x f2 s2 v2 => ?_)
      rw [endV_1] at h
      refine qm_go 2 (fun P hP => And.intro (fun _ => hP ?_) (fun c => absurd c (by decide)))
      refine qm_go 6 (fun P hP => c_tog214 (n := A.1) (g := (Pl.foldl stepP (A, D)).2.2.1) (by omega) hs.le (s2.n.trans (by rw [foldP_n])) v2.l (hP ?_))
      refine qm_go 1 (fun P hP => h σ2 f2)
    · rw [endV_2 A D Pl w0 w1] at h
      refine qm_go 2 (fun P hP => And.intro (fun c => absurd c w0) (fun _ => hP ?_))
      refine qm_go 3 (fun P hP => And.intro (fun c => absurd c w1) (fun _ => hP ?_))
      refine qm_go 2 (fun P hP => h σ Fr.rf)
theorem m_ends_l {d : Nat} (hd : 10 ≤ d) {σ0 : qm_Sg} {Q : qm_Po} {n : Nat} {w : Int32} {Pl : P9} {a0 : Int32} {E0 : DD} (hr0 : mPlan σ0 Pl) (hw : wfP n Pl) : ∀ (l : P9) (i : Nat) (Z : AS × DD) (σ : qm_Sg), Pl.drop i = l → i ≤ Pl.length → Z.1.1 = n → Z.2.2.2.2 + l.length < 2 ^ 30 → Fr tQ σ0 σ → mS σ Z.1 → mV σ Z.2 → mK σ a0 E0 → (∀ σ' x, Fr tQ σ0 σ' → mS σ' (l.foldl stepP Z).1 → mV σ' (l.foldl stepP Z).2 → mK σ' a0 E0 → qm_Wp (qm_M d) qk_173 Q 28 [some (vR 50 0), some (vI w), some (vI x)] [] σ') → qm_Wp (qm_M d) qk_173 Q 12 [some (vR 50 0), some (vI w), some (vI (nI i))] [] σ
  | [], i, Z, σ, e, hi, hZ, hm, f0, hs, hv, hk, h => by
    have hl : Pl.length ≤ i := by have := List.drop_eq_nil_iff.mp e; omega
    have hr := hr0.tr f0
    have h5 := hr.2.1
    refine qm_go 4 (fun P hP => And.intro (fun _ => hP ?_) (fun c => absurd (by rw [hr.1]; exact nI_le (by omega) (by omega)) c))
    exact h σ _ f0 hs hv hk
  | q :: l, i, Z, σ, e, hi, hZ, hm, f0, hs, hv, hk, h => by
    have hr := hr0.tr f0
    rw [List.length_cons] at hm
    have hq : Pl[i]? = some q := by rw [← List.head?_drop, e]; rfl
    have hl : i < Pl.length := (List.getElem?_eq_some_iff.mp hq).1
    have h5 := hr.2.1
    obtain ⟨a1, a2⟩ := hr.2.2 i q hq
    have e2 : Pl.drop (i + 1) = l := by rw [← List.drop_drop, e]; rfl
    obtain ⟨w1, w2⟩ := hw q (List.mem_of_getElem? hq)
    have st := stepP_m Z q
    refine qm_go 4 (fun P hP => And.intro (fun c => absurd c (by rw [hr.1]; exact nI_ge (by omega) (by omega))) (fun _ => hP ?_))
    refine qm_go 5 (fun P hP => Exists.intro (i) (And.intro (And.intro (rfl) ((show i < 10 by omega))) (hP ?_)))
    rw [a1]
    refine qm_go 4 (fun P hP => Exists.intro (i) (And.intro (And.intro (rfl) ((show i < 10 by omega))) (hP ?_)))
    refine qm_go 1 (fun P hP => m_goPlan (u := q.2) hd w1 (by rw [hZ]; exact w2) a2 hs hv (by omega) (fun σ1 f1 k1 s1 v1 => hP ?_))
    refine qm_go 2 (fun P hP => hP ?_)
    rw [nI_1]
    exact m_ends_l hd hr0 hw l (i + 1) (stepP Z q) σ1 e2 (by omega) ((stepP_n Z q).trans hZ) (by omega) (f0.tr f1) s1 v1 (k1 _ _ hk) h
theorem stepP_s (Z : AS × DD) (q : Nat × Nat) (a : Int32) : awA (stepP Z q).1 a = awA Z.1 a := by
  unfold stepP
  split
  · rfl
  · split
    · rfl
    · split <;> rfl
theorem foldP_s (a : Int32) : ∀ (l : P9) (Z : AS × DD), awA (l.foldl stepP Z).1 a = awA Z.1 a
  | [], _ => rfl
  | q :: l, Z => (foldP_s a l (stepP Z q)).trans (stepP_s Z q a)
theorem m_ends {d : Nat} (hd : 11 ≤ d) {σ : qm_Sg} {Q : qm_Po} {A : AS} {D : DD} {Pl : P9} {w : Int32} (hr : mPlan σ Pl) (hw : wfP A.1 Pl) (hs : mS σ A) (hv : mV σ D) (hm : D.2.2.2 + 100 < 2 ^ 30) (h : ∀ σ', Fr tQ σ σ' → mS σ' A → mV σ' D → Q σ' (some (vI (endV A D Pl w)))) : qm_M d 173 [vR 50 0, vI w] σ Q := by
  obtain ⟨d, rfl, hd⟩ := qm_dn hd
  show qm_Wp (qm_M d) qk_173 Q 0 [some (vR 50 0), some (vI w), none] [] σ
  by_cases w0 : w = 0
  · subst w0
    refine qm_go 5 (fun P hP => m_inR 2 (by decide) rfl (hd := by omega) (fun cw => hP ?_) (fun cw => absurd ⟨0, by decide, rfl⟩ cw))
    refine qm_go 1 (fun P hP => And.intro (fun _ => hP ?_) (fun c => absurd c (by decide)))
    refine qm_go 2 (fun P hP => m_save (by omega) hs hv (fun σ1 f1 s1 v1 k1 => hP ?_))
    refine qm_go 2 (fun P hP => hP ?_)
    have F1 : Fr tQ σ σ1 := f1.mono (fun _ _ _ q => tSv_Q q)
    refine m_ends_l (n := A.1) (by omega) hr hw Pl 0 (A, D) σ1 rfl (by omega) rfl (by have := hr.2.1; show D.2.2.2 + Pl.length < _; omega) F1 s1 v1 k1 (fun σ2 x f2 s2 v2 k2 => ?_)
    rw [endV_0, ← v2.d] at h
    refine qm_go 2 (fun P hP => And.intro (fun c => absurd rfl c) (fun _ => hP ?_))
    refine qm_go 6 (fun P hP => m_putBack (a := awO A) (by omega) s2 k2 (fun σ4 f4 s4 v4 => hP ?_))
    refine qm_go 2 (fun P hP => h σ4 (f2.tr (f4.mono (fun _ _ _ q => tPB_Q q))) (by rw [foldP_s] at s4; exact s4) v4)
  · by_cases w1 : w = 1
    · subst w1
      refine qm_go 5 (fun P hP => m_inR 2 (by decide) rfl (hd := by omega) (fun cw => hP ?_) (fun cw => absurd ⟨1, by decide, rfl⟩ cw))
      refine qm_go 1 (fun P hP => And.intro (fun _ => hP ?_) (fun c => absurd c (by decide)))
      refine qm_go 2 (fun P hP => m_save (by omega) hs hv (fun σ1 f1 s1 v1 k1 => hP ?_))
      refine qm_go 2 (fun P hP => hP ?_)
      have F1 : Fr tQ σ σ1 := f1.mono (fun _ _ _ q => tSv_Q q)
      refine m_ends_l (n := A.1) (by omega) hr hw Pl 0 (A, D) σ1 rfl (by omega) rfl (by have := hr.2.1; show D.2.2.2 + Pl.length < _; omega) F1 s1 v1 k1 (fun σ2 x f2 s2 v2 k2 => ?_)
      rw [endV_1] at h
      refine qm_go 2 (fun P hP => And.intro (fun _ => hP ?_) (fun c => absurd c (by decide)))
      refine qm_go 3 (fun P hP => m_sum54 (n := A.1) (g := (Pl.foldl stepP (A, D)).2.2.1) (by omega) hs.le (s2.n.trans (by rw [foldP_n])) v2.l (hP ?_))
      refine qm_go 3 (fun P hP => m_putBack (a := awO A) (by omega) s2 k2 (fun σ4 f4 s4 v4 => hP ?_))
      refine qm_go 2 (fun P hP => h σ4 (f2.tr (f4.mono (fun _ _ _ q => tPB_Q q))) (by rw [foldP_s] at s4; exact s4) v4)
    · rw [endV_2 A D Pl w0 w1] at h
      refine qm_go 5 (fun P hP => m_inR 2 (by decide) rfl (hd := by omega) (fun cw => absurd cw (in2 w0 w1)) (fun cw => hP ?_))
      refine qm_go 1 (fun P hP => And.intro (fun c => absurd rfl c) (fun _ => hP ?_))
      refine qm_go 2 (fun P hP => h σ Fr.rf hs hv)
