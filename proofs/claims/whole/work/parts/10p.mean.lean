def rg (D : DD) : Prop := ∀ j, j < 6 → inR (D.1 j) 10000
theorem mn9_in {a b : Int32} (ha : inR a 10000) (hb : inR b 10000) : inR (mn9 (a + b)) 10000 := by
  obtain ⟨p, hp, rfl⟩ := ha
  obtain ⟨q, hq, rfl⟩ := hb
  unfold mn9
  rw [nI_add]
  split
  · rename_i h
    rw [i_lt, nI_toInt (by omega)] at h
    have h : ((p + q : Nat) : Int) < 9999 := h
    exact ⟨p + q, by omega, rfl⟩
  · exact ⟨9999, by decide, rfl⟩
theorem snz_in (u : Int32) : inR (snz u) 10000 := by
  unfold snz
  split
  · exact ⟨0, by decide, rfl⟩
  · rename_i h0
    split
    · rename_i h
      obtain ⟨j, hj, rfl⟩ := nI_of h0
      rw [i_lt, nI_toInt hj] at h
      have h : (j : Int) < 60 := h
      exact ⟨j, by omega, rfl⟩
    · exact ⟨60, by decide, rfl⟩
theorem rg_up {D : DD} {f : Nat → Int32} {k : Nat} {x : Int32} {E : (Nat → Int32) × Int32 × Nat} (h : ∀ j, j < 6 → inR (f j) 10000) (hx : inR x 10000) : rg (upd f k x, E) := by
  intro j hj
  show inR (upd f k x j) 10000
  by_cases e : j = k
  · rw [e, upd_same]; exact hx
  · rw [upd_ne e]; exact h j hj
theorem comeD_rg {n p : Nat} {aw x : Int32} {D : DD} (hn : n ≤ 6) (hx : inR x 10000) (h : rg D) : rg (comeD n aw p x D) := by
  unfold comeD
  cases hz : nxtA aw (n - (p + 1)) (p + 1) with
  | none => exact h
  | some r =>
    have hr := nxtA_lt _ _ _ hz
    exact rg_up (D := D) h (mn9_in (h r (by omega)) hx)
theorem workD_rg {p : Nat} {D : DD} (hp : p < 6) (h : rg D) : rg (workD p D) := by
  unfold workD
  refine rg_up (D := D) h ?_
  obtain ⟨k, hk, e⟩ := h p hp
  unfold doneD
  rw [e]
  split
  · rw [pk_sub (Nat.le_refl k)]; exact ⟨k - k, by omega, rfl⟩
  · rename_i h2
    rw [i_lt, nI_toInt (by omega)] at h2
    have h2 : ¬ (k : Int) < 30 := h2
    rw [show (30 : Int32) = nI 30 from rfl, pk_sub (by omega)]
    exact ⟨k - 30, by omega, rfl⟩
theorem restD_rg {n p : Nat} {aw br : Int32} {D : DD} (hn : n ≤ 6) (hb : inR br 10000) (hp : p < 6) (h : rg D) : rg (restD n aw br p D) := by
  unfold restD
  split
  · exact h
  · rename_i h2
    obtain ⟨k, hk, e⟩ := h p hp
    obtain ⟨b, hb', rfl⟩ := hb
    rw [e, i_le, nI_toInt (by omega), nI_toInt (by omega)] at h2
    refine rg_up (D := D) ?_ ⟨b, hb', rfl⟩
    exact comeD_rg hn (by rw [e, pk_sub (by omega)]; exact ⟨k - b, by omega, rfl⟩) h
theorem wakeD_rg {n p : Nat} {kd vv rw9 : Nat → Int32} {aw : Int32} {S : (Nat → Int32) → Int32} {br : Int32} {D : DD} (hn : n ≤ 6) (hb : inR br 10000) (hp : p < 6) (h : rg D) : rg (wakeD n kd vv rw9 aw S br p D) := by
  unfold wakeD
  exact restD_rg hn hb hp (workD_rg hp (comeD_rg hn (snz_in _) h))
theorem dayD_rg {n : Nat} {kd vv rw9 : Nat → Int32} {aw : Int32} {S : (Nat → Int32) → Int32} {br : Int32} (hn : n ≤ 6) (hb : inR br 10000) : ∀ (k p : Nat) (D : DD), p + k ≤ 6 → rg D → rg (dayD n kd vv rw9 aw S br k p D)
  | 0, _, _, _, h => h
  | k + 1, p, D, e, h => by
    unfold dayD
    split
    · exact dayD_rg hn hb k (p + 1) _ (by omega) h
    · exact dayD_rg hn hb k (p + 1) _ (by omega) (wakeD_rg hn hb (by omega) h)
theorem goA_rg {A : AS} (hn : A.1 ≤ 6) (hb : inR A.2.2.2.2.2.2 10000) : ∀ (k : Nat) (D : DD), rg D → rg (goA A k D)
  | 0, _, h => h
  | k + 1, D, h => goA_rg hn hb k _ (show rg (oneD _ _ _ _ _ _ _ D) from fun j hj => dayD_rg hn hb A.1 0 D (by omega) h j hj)
theorem sumF_rg {f : Nat → Int32} (h : ∀ j, j < 6 → inR (f j) 10000) : ∀ (k p a : Nat), p + k ≤ 6 → ∃ s, s ≤ a + 9999 * k ∧ sumF f k p (nI a) = nI s
  | 0, _, a, _ => ⟨a, by omega, rfl⟩
  | k + 1, p, a, e => by
    obtain ⟨q, hq, ef⟩ := h p (by omega)
    unfold sumF
    rw [ef, nI_add]
    obtain ⟨s, h1, h2⟩ := sumF_rg h k (p + 1) (a + q) (by omega)
    exact ⟨s, by omega, h2⟩
theorem bearC_lt : ∀ (c : CT9) (a : Nat), (∀ q ∈ c, q.2.1 < 100) → a < 100 → bearC c a < 100
  | [], _, _, h => h
  | (w, n, ts) :: l, a, hq, h => by
    unfold bearC
    refine bearC_lt l _ (fun q hq' => hq q (List.mem_cons_of_mem _ hq')) ?_
    split
    · exact hq (w, n, ts) List.mem_cons_self
    · exact h
theorem cS.br {X : Nat} {σ : qm_Sg} {A : AS} (h : cS X σ A) : inR A.2.2.2.2.2.2 10000 := by
  obtain ⟨kd, vv, rw9, q1, q2, q3, h1, h2, h3, h4, h5, h6, h7, h8⟩ := h
  rcases h8 with ⟨_, _, e⟩ | ⟨s, c, _, _, _, hw, _, e⟩
  · rw [e]; exact ⟨40, by decide, rfl⟩
  · rw [e]
    have := bearC_lt c 40 (fun q hq => (hw.2 q hq).2.1) (by decide)
    exact ⟨_, by omega, rfl⟩
theorem mS.br {σ : qm_Sg} {A : AS} (h : mS σ A) : inR A.2.2.2.2.2.2 10000 := by
  obtain ⟨kd, vv, rw9, q1, q2, q3, h1, h2, h3, h4, h5, h6, h7, h8⟩ := h
  rcases h8 with ⟨_, _, e⟩ | ⟨s, c, _, _, _, hw, _, e⟩
  · rw [e]; exact ⟨40, by decide, rfl⟩
  · rw [e]
    have := bearC_lt c 40 (fun q hq => (hw.2 q hq).2.1) (by decide)
    exact ⟨_, by omega, rfl⟩
def meanV (A : AS) (D : DD) (n part : Int32) : Int64 := if inP n 61 ∧ inP part 2 then frL (tN (sumF (goA A (tN n) D).1 A.1 0 0)) A.1 part else -9223372036854775808
theorem meanV_no {A : AS} {D : DD} {n part : Int32} (h : ¬ (inR n 61 ∧ inR part 2)) : meanV A D n part = -9223372036854775808 := if_neg h
theorem meanV_ok {A : AS} {D : DD} {k : Nat} {part : Int32} {s : Nat} (hk : k < 61) (hp : inR part 2) (hs : s < 2 ^ 31) (e : sumF (goA A k D).1 A.1 0 0 = nI s) : meanV A D (nI k) part = frL s A.1 part := by
  unfold meanV
  rw [if_pos ⟨⟨k, hk, rfl⟩, hp⟩, tN_nI (by omega), e, tN_nI hs]
theorem c_mean {d : Nat} (hd : 8 ≤ d) {σ : qm_Sg} {Q : qm_Po} {A : AS} {D : DD} {n part : Int32} (hs : cS 0 σ A) (hv : cV 0 σ D) (hrg : rg D) (hm : D.2.2.2 + 100 < 2 ^ 30) (h : ∀ σ', Fr tT σ σ' → Q σ' (some (vL (meanV A D n part)))) : qm_M d 80 [vR 0 0, vI n, vI part] σ Q := by
  obtain ⟨d, rfl, hd⟩ := qm_dn hd
  show qm_Wp (qm_M d) qk_80 Q 0 [some (vR 0 0), some (vI n), some (vI part)] [] σ
  refine qm_go 2 (fun P hP => And.intro (fun c1 => hP ?_) (fun c1 => hP ?_))
  · refine qm_go 2 (fun P hP => ?_)
    have h := h σ Fr.rf
    have hz : ¬ (inR n 61 ∧ inR part 2) := fun z => by
      have y := in_lt (n := 61) (by decide) z.1
      first
        | exact y.1 c1
        | exact y.2 c4
        | exact cp z.2
    rw [meanV_no hz] at h
    exact h
  · refine qm_go 3 (fun P hP => And.intro (fun c4 => hP ?_) (fun c4 => hP ?_))
    · refine qm_go 2 (fun P hP => ?_)
      have h := h σ Fr.rf
      have hz : ¬ (inR n 61 ∧ inR part 2) := fun z => by
        have y := in_lt (n := 61) (by decide) z.1
        first
          | exact y.1 c1
          | exact y.2 c4
          | exact cp z.2
      rw [meanV_no hz] at h
      exact h
    · refine qm_go 2 (fun P hP => c_isPart (by omega) (fun cp => hP ?_) (fun cp => hP ?_))
      · refine qm_go 1 (fun P hP => And.intro (fun _ => hP ?_) (fun c => absurd c (by decide)))
        refine qm_go 1 (fun P hP => hP ?_)
        obtain ⟨k, hk, rfl⟩ := inR_of' (n := 61) (by decide) c1 c4
        obtain ⟨s, hs1, hs2⟩ := sumF_rg (goA_rg hs.le hs.br k D hrg) A.1 0 0 (by have := hs.le; omega)
        have hs9 : s < 2 ^ 31 := by have := hs.le; omega
        have hs2 : sumF (goA A k D).1 A.1 0 0 = nI s := hs2
        have hn6 := hs.le
        rw [meanV_ok hk cp hs9 hs2] at h
        refine qm_go 4 (fun P hP => c_takes20 (by omega) hs hv (fun σ1 f1 s1 v1 => hP ?_))
        refine qm_go 4 (fun P hP => c_goA (by omega) (show k < 2 ^ 20 by omega) s1 v1 (by omega) (fun σ2 f2 s2 v2 => hP ?_))
        refine qm_go 6 (fun P hP => c_tog213 (n := A.1) (g := (goA A k D).1) (by omega) hn6 s2.n v2.o (hP ?_))
        refine qm_go 1 (fun P hP => hP ?_)
        rw [hs2]
        refine qm_go 3 (fun P hP => hP ?_)
        rw [s2.n]
        refine qm_go 1 (fun P hP => c_frac (by omega) hs9 (by omega) (hP ?_))
        refine qm_go 1 (fun P hP => h σ2 ((f1.mono (fun _ _ _ q => tK_T q)).tr (f2.mono (fun _ _ _ q => tC_T q))))
      · refine qm_go 1 (fun P hP => And.intro (fun c => absurd (by decide) c) (fun _ => hP ?_))
        refine qm_go 2 (fun P hP => ?_)
        have h := h σ Fr.rf
        have hz : ¬ (inR n 61 ∧ inR part 2) := fun z => by
          have y := in_lt (n := 61) (by decide) z.1
          first
            | exact y.1 c1
            | exact y.2 c4
            | exact cp z.2
        rw [meanV_no hz] at h
        exact h
theorem m_mean {d : Nat} (hd : 11 ≤ d) {σ : qm_Sg} {Q : qm_Po} {A : AS} {D : DD} {n part : Int32} (hs : mS σ A) (hv : mV σ D) (hrg : rg D) (hm : D.2.2.2 + 100 < 2 ^ 30) (h : ∀ σ', Fr tQ σ σ' → mS σ' A → mV σ' D → Q σ' (some (vL (meanV A D n part)))) : qm_M d 170 [vR 50 0, vI n, vI part] σ Q := by
  obtain ⟨d, rfl, hd⟩ := qm_dn hd
  show qm_Wp (qm_M d) qk_170 Q 0 [some (vR 50 0), some (vI n), some (vI part), none] [] σ
  refine qm_go 3 (fun P hP => m_isMornings (by omega) (fun cn => hP ?_) (fun cn => hP ?_))
  · refine qm_go 1 (fun P hP => And.intro (fun c => absurd c (by decide)) (fun _ => hP ?_))
    refine qm_go 5 (fun P hP => m_inR 2 (by decide) rfl (hd := by omega) (fun cp => hP ?_) (fun cp => hP ?_))
    · refine qm_go 1 (fun P hP => And.intro (fun c => absurd c (by decide)) (fun _ => hP ?_))
      refine qm_go 3 (fun P hP => And.intro (fun c12 => hP ?_) (fun c12 => hP ?_))
      · refine qm_go 1 (fun P hP => hP ?_)
        obtain ⟨k, hk, rfl⟩ := cn
        obtain ⟨s, hs1, hs2⟩ := sumF_rg (goA_rg hs.le hs.br k D hrg) A.1 0 0 (by have := hs.le; omega)
        have hs9 : s < 2 ^ 31 := by have := hs.le; omega
        have hs2 : sumF (goA A k D).1 A.1 0 0 = nI s := hs2
        have hn6 := hs.le
        rw [meanV_ok hk cp hs9 hs2] at h
        rw [hs.n] at c12
        have z0 : ¬ A.1 = 0 := fun z => c12 (by rw [z]; rfl)
        unfold frL at h
        rw [if_neg z0] at h
        refine qm_go 1 (fun P hP => m_save (by omega) hs hv (fun σ1 f1 s1 v1 k1 => hP ?_))
        refine qm_go 3 (fun P hP => m_goA (by omega) (show k < 2 ^ 20 by omega) s1 v1 (by omega) (fun σ2 f2 s2 v2 => hP ?_))
        refine qm_go 3 (fun P hP => m_sum53 (n := A.1) (g := (goA A k D).1) (by omega) hn6 s2.n v2.o (hP ?_))
        refine qm_go 1 (fun P hP => hP ?_)
        rw [hs2]
        refine qm_go 2 (fun P hP => m_putBack (by omega) s2 (k1.fg f2 (fun t i j q => by unfold tM; omega)) (fun σ4 f4 s4 v4 => hP ?_))
        refine qm_go 5 (fun P hP => hP ?_)
        have s4 : mS σ4 A := s4
        rw [s4.n]
        refine qm_go 1 (fun P hP => m_lowest (by omega) hs9 (by omega) (by omega) (hP ?_))
        refine qm_go 1 (fun P hP => h σ4 (((f1.mono (fun _ _ _ q => tSv_Q q)).tr (f2.mono (fun _ _ _ q => tM_Q q))).tr (f4.mono (fun _ _ _ q => tPB_Q q))) s4 v4)
      · refine qm_go 2 (fun P hP => ?_)
        first
          | (have h := h σ Fr.rf hs hv
             have hz : ¬ (inR n 61 ∧ inR part 2) := fun z => by
               first
                 | exact cn z.1
                 | exact cp z.2
             rw [meanV_no hz] at h
             exact h)
          | (obtain ⟨k, hk, rfl⟩ := cn
             obtain ⟨s, hs1, hs2⟩ := sumF_rg (goA_rg hs.le hs.br k D hrg) A.1 0 0 (by have := hs.le; omega)
             have hs9 : s < 2 ^ 31 := by have := hs.le; omega
             have hs2 : sumF (goA A k D).1 A.1 0 0 = nI s := hs2
             have hn6 := hs.le
             rw [meanV_ok hk cp hs9 hs2] at h
             have h := h σ Fr.rf hs hv
             rw [hs.n] at c12
             have z0 : A.1 = 0 := (nI_eq (b := 0) (by omega) (by decide)).mp c12
             unfold frL at h
             rw [if_pos z0] at h
             exact h)
    · refine qm_go 1 (fun P hP => And.intro (fun _ => hP ?_) (fun c => absurd (by decide) c))
      refine qm_go 2 (fun P hP => ?_)
      first
        | (have h := h σ Fr.rf hs hv
           have hz : ¬ (inR n 61 ∧ inR part 2) := fun z => by
             first
               | exact cn z.1
               | exact cp z.2
           rw [meanV_no hz] at h
           exact h)
        | (obtain ⟨k, hk, rfl⟩ := cn
           obtain ⟨s, hs1, hs2⟩ := sumF_rg (goA_rg hs.le hs.br k D hrg) A.1 0 0 (by have := hs.le; omega)
           have hs9 : s < 2 ^ 31 := by have := hs.le; omega
           have hs2 : sumF (goA A k D).1 A.1 0 0 = nI s := hs2
           have hn6 := hs.le
           rw [meanV_ok hk cp hs9 hs2] at h
           have h := h σ Fr.rf hs hv
           rw [hs.n] at c12
           have z0 : A.1 = 0 := (nI_eq (b := 0) (by omega) (by decide)).mp c12
           unfold frL at h
           rw [if_pos z0] at h
           exact h)
  · refine qm_go 1 (fun P hP => And.intro (fun _ => hP ?_) (fun c => absurd (by decide) c))
    refine qm_go 2 (fun P hP => ?_)
    first
      | (have h := h σ Fr.rf hs hv
         have hz : ¬ (inR n 61 ∧ inR part 2) := fun z => by
           first
             | exact cn z.1
             | exact cp z.2
         rw [meanV_no hz] at h
         exact h)
      | (obtain ⟨k, hk, rfl⟩ := cn
         obtain ⟨s, hs1, hs2⟩ := sumF_rg (goA_rg hs.le hs.br k D hrg) A.1 0 0 (by have := hs.le; omega)
         have hs9 : s < 2 ^ 31 := by have := hs.le; omega
         have hs2 : sumF (goA A k D).1 A.1 0 0 = nI s := hs2
         have hn6 := hs.le
         rw [meanV_ok hk cp hs9 hs2] at h
         have h := h σ Fr.rf hs hv
         rw [hs.n] at c12
         have z0 : A.1 = 0 := (nI_eq (b := 0) (by omega) (by decide)).mp c12
         unfold frL at h
         rw [if_pos z0] at h
         exact h)
