def rwA (A : AS) (k : Nat) (y : Int32) : AS := (A.1, A.2.1, A.2.2.1, upd A.2.2.2.1 k y, A.2.2.2.2)
theorem cS.rows {X : Nat} {σ : qm_Sg} {A : AS} (h : cS X σ A) : Q24 (σ.1 15 X) A.2.2.2.1 := by obtain ⟨kd, vv, rw9, q1, q2, q3, h1, h2, h3, h4, h5, h6, h7, h8⟩ := h; rw [h5]; exact q3
theorem mS.rows {σ : qm_Sg} {A : AS} (h : mS σ A) : Q24 (σ.1 55 0) A.2.2.2.1 := by obtain ⟨kd, vv, rw9, q1, q2, q3, h1, h2, h3, h4, h5, h6, h7, h8⟩ := h; rw [h5]; exact q3
theorem cS.rw {X : Nat} {σ : qm_Sg} {A : AS} {k : Nat} {y : Int32} (h : cS X σ A) : cS X (wF σ 15 X (upd (σ.1 15 X) k y)) (rwA A k y) := by
  obtain ⟨kd, vv, rw9, q1, q2, q3, h1, h2, h3, h4, h5, h6, h7, h8⟩ := h
  have F : Fr (fun t i j => t = 15) σ (wF σ 15 X (upd (σ.1 15 X) k y)) := Fr.w1 rfl
  exact ⟨kd, vv, _, q1, q2, (by rw [wF_same, h5]; exact q3.up k y), by rw [wF_ne _ _ (by omega)]; exact h1, h2, by rw [wF_ne _ _ (by omega)]; exact h3, by rw [wF_ne _ _ (by omega)]; exact h4, rfl, by rw [wF_ne _ _ (by omega)]; exact h6, h7, h8.fr F (fun t i j a b => by omega) (by omega)⟩
theorem mS.rw {σ : qm_Sg} {A : AS} {k : Nat} {y : Int32} (h : mS σ A) : mS (wF σ 55 0 (upd (σ.1 55 0) k y)) (rwA A k y) := by
  obtain ⟨kd, vv, rw9, q1, q2, q3, h1, h2, h3, h4, h5, h6, h7, h8⟩ := h
  have F : Fr (fun t i j => t = 55) σ (wF σ 55 0 (upd (σ.1 55 0) k y)) := Fr.w1 rfl
  exact ⟨kd, vv, _, q1, q2, (by rw [wF_same, h5]; exact q3.up k y), by rw [wF_ne _ _ (by omega)]; exact h1, h2, by rw [wF_ne _ _ (by omega)]; exact h3, by rw [wF_ne _ _ (by omega)]; exact h4, rfl, by rw [wF_ne _ _ (by omega)]; exact h6, h7, h8.fr F (fun t i j a b => by omega) (by omega)⟩
def rowC (A : AS) (s q n : Int32) : Nat := if inP s A.1 ∧ inP q 4 then (if inP n 10 then (if A.2.1 (tN s) = 6 then 0 else 3) else 2) else 1
def rowV (A : AS) (s q n : Int32) : Int32 := if rowC A s q n = 0 then A.2.2.2.1 (tN s * 4 + tN q) else -nI (rowC A s q n)
def rowA (A : AS) (s q n : Int32) : AS := if rowC A s q n = 0 then rwA A (tN s * 4 + tN q) n else A
theorem row_e {A : AS} {s q n : Int32} {c : Nat} (h : rowC A s q n = c + 1) : rowV A s q n = -nI (c + 1) ∧ rowA A s q n = A := by
  unfold rowV rowA
  rw [h]
  exact ⟨rfl, rfl⟩
theorem row_1 {A : AS} {s q n : Int32} (h : ¬ (inR s A.1 ∧ inR q 4)) : rowC A s q n = 0 + 1 := if_neg h
theorem row_2 {A : AS} {s q n : Int32} (h : inR s A.1 ∧ inR q 4) (h2 : ¬ inR n 10) : rowC A s q n = 1 + 1 := (if_pos h).trans (if_neg h2)
theorem row_3 {A : AS} {p q : Nat} {n : Int32} (hn : A.1 ≤ 6) (hp : p < A.1) (hq : q < 4) (h2 : inR n 10) (h3 : ¬ A.2.1 p = 6) : rowC A (nI p) (nI q) n = 2 + 1 := by
  have hi : inP (nI p) A.1 ∧ inP (nI q) 4 := ⟨⟨p, hp, rfl⟩, ⟨q, hq, rfl⟩⟩
  have h2 : inP n 10 := h2
  unfold rowC
  rw [if_pos hi, if_pos h2, tN_nI (show p < 2 ^ 31 by omega), if_neg h3]
theorem row_4 {A : AS} {p q : Nat} {n : Int32} (hn : A.1 ≤ 6) (hp : p < A.1) (hq : q < 4) (h2 : inR n 10) (h3 : A.2.1 p = 6) : rowV A (nI p) (nI q) n = A.2.2.2.1 (p * 4 + q) ∧ rowA A (nI p) (nI q) n = rwA A (p * 4 + q) n := by
  have hi : inP (nI p) A.1 ∧ inP (nI q) 4 := ⟨⟨p, hp, rfl⟩, ⟨q, hq, rfl⟩⟩
  have h2 : inP n 10 := h2
  have e : rowC A (nI p) (nI q) n = 0 := by
    unfold rowC
    rw [if_pos hi, if_pos h2, tN_nI (show p < 2 ^ 31 by omega), if_pos h3]
  unfold rowV rowA
  rw [if_pos e, if_pos e, tN_nI (show p < 2 ^ 31 by omega), tN_nI (show q < 2 ^ 31 by omega)]
  exact ⟨rfl, rfl⟩
theorem ixC {p q : Nat} : nI p * 4 + nI q = nI (p * 4 + q) := by rw [show (4 : Int32) = nI 4 from rfl, pk_mul, nI_add]
theorem ixM {p q : Nat} : 4 * nI p + nI q = nI (p * 4 + q) := by rw [show (4 : Int32) = nI 4 from rfl, pk_mul, nI_add, Nat.mul_comm]
theorem c_row {d : Nat} (hd : 2 ≤ d) {σ : qm_Sg} {Q : qm_Po} {A : AS} {D : DD} {s q9 n : Int32} (hs : cS 0 σ A) (hv : cV 0 σ D) (h : ∀ σ', Fr (fun t i j => t = 15 ∧ i = 0) σ σ' → cS 0 σ' (rowA A s q9 n) → cV 0 σ' D → Q σ' (some (vI (rowV A s q9 n)))) : qm_M d 69 [vR 0 0, vI s, vI q9, vI n] σ Q := by
  obtain ⟨d, rfl, hd⟩ := qm_dn hd
  show qm_Wp (qm_M d) qk_69 Q 0 [some (vR 0 0), some (vI s), some (vI q9), some (vI n), none, none] [] σ
  refine qm_go 4 (fun P hP => c_has (by omega) (Nat.lt_of_le_of_lt hs.le (by decide)) hs.n (fun ch => hP ?_) (fun ch => hP ?_))
  · refine qm_go 1 (fun P hP => And.intro (fun c => absurd c (by decide)) (fun _ => hP ?_))
    refine qm_go 3 (fun P hP => c_isWithin (n := 4) (by omega) (by decide) (fun cq => hP ?_) (fun cq => hP ?_))
    · refine qm_go 1 (fun P hP => And.intro (fun _ => hP ?_) (fun c => absurd c (by decide)))
      refine qm_go 3 (fun P hP => c_isWithin (n := 10) (by omega) (by decide) (fun cn => hP ?_) (fun cn => hP ?_))
      · refine qm_go 1 (fun P hP => And.intro (fun _ => hP ?_) (fun c => absurd c (by decide)))
        refine qm_go 1 (fun P hP => hP ?_)
        obtain ⟨p, hp, rfl⟩ := ch
        obtain ⟨q, hq, rfl⟩ := cq
        have hn6 := hs.le
        have hp6 : p < 6 := by omega
        have hpq : p * 4 + q < 24 := by omega
        refine qm_go 4 (fun P hP => Exists.intro (p) (And.intro (And.intro (rfl) (hp6)) (hP ?_)))
        rw [hs.kd p hp6]
        refine qm_go 2 (fun P hP => And.intro (fun c23 => hP ?_) (fun c23 => hP ?_))
        · refine qm_go 11 (fun P hP => Exists.intro (p * 4 + q) (And.intro (And.intro (ixC) (hpq)) (hP ?_)))
          rw [hs.rows _ hpq]
          refine qm_go 7 (fun P hP => Exists.intro (p * 4 + q) (And.intro (And.intro (ixC) (hpq)) (hP ?_)))
          have z := row_4 hn6 hp hq cn c23
          rw [z.1, z.2] at h
          have F : Fr (fun t i j => t = 15 ∧ i = 0) σ (wF σ 15 0 (upd (σ.1 15 0) (p * 4 + q) n)) := Fr.w1 ⟨rfl, rfl⟩
          exact qm_go 2 (fun P hP => h _ F hs.rw (hv.fg F (fun t i j q => by omega)))
        · refine qm_go 2 (fun P hP => ?_)
          have z := row_e (row_3 hn6 hp hq cn c23)
          rw [z.1, z.2] at h
          exact h σ Fr.rf hs hv
      · refine qm_go 1 (fun P hP => And.intro (fun c => absurd (by decide) c) (fun _ => hP ?_))
        refine qm_go 2 (fun P hP => ?_)
        have z := row_e (row_2 ⟨ch, cq⟩ cn)
        rw [z.1, z.2] at h
        exact h σ Fr.rf hs hv
    · refine qm_go 1 (fun P hP => And.intro (fun c => absurd (by decide) c) (fun _ => hP ?_))
      refine qm_go 2 (fun P hP => ?_)
      have hz : ¬ (inR s A.1 ∧ inR q9 4) := fun y => by
        first
          | exact cq y.2
          | exact ch y.1
      have z := row_e (row_1 (n := n) hz)
      rw [z.1, z.2] at h
      exact h σ Fr.rf hs hv
  · refine qm_go 1 (fun P hP => And.intro (fun _ => hP ?_) (fun c => absurd (by decide) c))
    refine qm_go 2 (fun P hP => ?_)
    have hz : ¬ (inR s A.1 ∧ inR q9 4) := fun y => by
      first
        | exact cq y.2
        | exact ch y.1
    have z := row_e (row_1 (n := n) hz)
    rw [z.1, z.2] at h
    exact h σ Fr.rf hs hv
theorem m_row {d : Nat} (hd : 3 ≤ d) {σ : qm_Sg} {Q : qm_Po} {A : AS} {D : DD} {s q9 n : Int32} (hs : mS σ A) (hv : mV σ D) (h : ∀ σ', Fr (fun t i j => t = 55 ∧ i = 0) σ σ' → mS σ' (rowA A s q9 n) → mV σ' D → Q σ' (some (vI (rowV A s q9 n)))) : qm_M d 121 [vR 50 0, vI s, vI q9, vI n] σ Q := by
  obtain ⟨d, rfl, hd⟩ := qm_dn hd
  show qm_Wp (qm_M d) qk_121 Q 0 [some (vR 50 0), some (vI s), some (vI q9), some (vI n), none] [] σ
  refine qm_go 3 (fun P hP => m_isOne (by omega) (Nat.lt_of_le_of_lt hs.le (by decide)) hs.n (fun ch => hP ?_) (fun ch => hP ?_))
  · refine qm_go 1 (fun P hP => And.intro (fun c => absurd c (by decide)) (fun _ => hP ?_))
    refine qm_go 5 (fun P hP => m_inR 4 (by decide) rfl (hd := by omega) (fun cq => hP ?_) (fun cq => hP ?_))
    · refine qm_go 1 (fun P hP => And.intro (fun _ => hP ?_) (fun c => absurd c (by decide)))
      refine qm_go 5 (fun P hP => m_inR 10 (by decide) rfl (hd := by omega) (fun cn => hP ?_) (fun cn => hP ?_))
      · refine qm_go 1 (fun P hP => And.intro (fun _ => hP ?_) (fun c => absurd c (by decide)))
        refine qm_go 1 (fun P hP => hP ?_)
        obtain ⟨p, hp, rfl⟩ := ch
        obtain ⟨q, hq, rfl⟩ := cq
        have hn6 := hs.le
        have hp6 : p < 6 := by omega
        have hpq : p * 4 + q < 24 := by omega
        refine qm_go 3 (fun P hP => Exists.intro (p) (And.intro (And.intro (rfl) (hp6)) (hP ?_)))
        rw [hs.kd p hp6]
        refine qm_go 2 (fun P hP => And.intro (fun c25 => hP ?_) (fun c25 => hP ?_))
        · refine qm_go 8 (fun P hP => Exists.intro (p * 4 + q) (And.intro (And.intro (ixM) (hpq)) (hP ?_)))
          rw [hs.rows _ hpq]
          refine qm_go 10 (fun P hP => Exists.intro (p * 4 + q) (And.intro (And.intro (ixM) (hpq)) (hP ?_)))
          have z := row_4 hn6 hp hq cn c25
          rw [z.1, z.2] at h
          have F : Fr (fun t i j => t = 55 ∧ i = 0) σ (wF σ 55 0 (upd (σ.1 55 0) (p * 4 + q) n)) := Fr.w1 ⟨rfl, rfl⟩
          exact qm_go 2 (fun P hP => h _ F hs.rw (hv.fg F (fun t i j q => by omega)))
        · refine qm_go 2 (fun P hP => ?_)
          have z := row_e (row_3 hn6 hp hq cn c25)
          rw [z.1, z.2] at h
          exact h σ Fr.rf hs hv
      · refine qm_go 1 (fun P hP => And.intro (fun c => absurd (by decide) c) (fun _ => hP ?_))
        refine qm_go 2 (fun P hP => ?_)
        have z := row_e (row_2 ⟨ch, cq⟩ cn)
        rw [z.1, z.2] at h
        exact h σ Fr.rf hs hv
    · refine qm_go 1 (fun P hP => And.intro (fun c => absurd (by decide) c) (fun _ => hP ?_))
      refine qm_go 2 (fun P hP => ?_)
      have hz : ¬ (inR s A.1 ∧ inR q9 4) := fun y => by
        first
          | exact cq y.2
          | exact ch y.1
      have z := row_e (row_1 (n := n) hz)
      rw [z.1, z.2] at h
      exact h σ Fr.rf hs hv
  · refine qm_go 1 (fun P hP => And.intro (fun _ => hP ?_) (fun c => absurd (by decide) c))
    refine qm_go 2 (fun P hP => ?_)
    have hz : ¬ (inR s A.1 ∧ inR q9 4) := fun y => by
      first
        | exact cq y.2
        | exact ch y.1
    have z := row_e (row_1 (n := n) hz)
    rw [z.1, z.2] at h
    exact h σ Fr.rf hs hv
