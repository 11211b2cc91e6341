def shOk (z1 z2 : Nat) (i9 j9 n9 : Int32) : Prop := inP i9 61 ∧ inP j9 61 ∧ inP n9 61 ∧ tN i9 + tN n9 ≤ z1 ∧ tN j9 + tN n9 ≤ z2
abbrev shO (z1 z2 : Nat) (i9 j9 n9 : Int32) : Prop := inP i9 61 ∧ inP j9 61 ∧ inP n9 61 ∧ tN i9 + tN n9 ≤ z1 ∧ tN j9 + tN n9 ≤ z2
def shC (Z : TP9) (t9 i9 u9 j9 n9 : Int32) : Nat := if inP t9 6 ∧ inP u9 6 then (if Z.1 (tN t9) = -1 ∨ Z.1 (tN u9) = -1 then 11 else if Z.1 (tN t9) = Z.1 (tN u9) then (if shO (Z.2.1 (tN t9)) (Z.2.1 (tN u9)) i9 j9 n9 then 0 else 13) else 12) else 1
def shZ (Z : TP9) (t i u j n : Nat) : TP9 := (Z.1, Z.2.1, fun a b => if a = u ∧ j ≤ b ∧ b < j + n then Z.2.2 t (i + (b - j)) else Z.2.2 a b)
def shT (Z : TP9) (t9 i9 u9 j9 n9 : Int32) : TP9 := if shC Z t9 i9 u9 j9 n9 = 0 then shZ Z (tN t9) (tN i9) (tN u9) (tN j9) (tN n9) else Z
theorem sh_c {Z : TP9} {t9 i9 u9 j9 n9 : Int32} {c : Nat} (h : shC Z t9 i9 u9 j9 n9 = c) (h0 : c ≠ 0) : tcV (shC Z t9 i9 u9 j9 n9) n9 = -nI c ∧ shT Z t9 i9 u9 j9 n9 = Z := by
  unfold tcV shT
  rw [h, if_neg h0, if_neg h0]
  exact ⟨rfl, rfl⟩
theorem sh_0 {Z : TP9} {t9 i9 u9 j9 n9 : Int32} (h : shC Z t9 i9 u9 j9 n9 = 0) : tcV (shC Z t9 i9 u9 j9 n9) n9 = n9 ∧ shT Z t9 i9 u9 j9 n9 = shZ Z (tN t9) (tN i9) (tN u9) (tN j9) (tN n9) := by
  unfold tcV shT
  rw [h, if_pos rfl, if_pos rfl]
  exact ⟨rfl, rfl⟩
theorem sub_i {z : Nat} {x : Int32} (hz : z ≤ 60) (hx : ¬ x < 0) : (nI z - x).toInt = (z : Int) - x.toInt := by
  obtain ⟨k, hk, rfl⟩ := nI_of hx
  rw [Int32.toInt_sub, nI_toInt (by omega), nI_toInt hk]
  exact Int.bmod_eq_of_le (by omega) (by omega)
theorem pl_iff {z : Nat} {i9 n9 : Int32} (hz : z ≤ 60) (hn : ¬ n9 < 0) : (¬ i9 < 0 ∧ i9.toInt + n9.toInt ≤ z) ↔ (inP i9 61 ∧ inP n9 61 ∧ tN i9 + tN n9 ≤ z) := by
  obtain ⟨k, hk, rfl⟩ := nI_of hn
  constructor
  · rintro ⟨q1, q2⟩
    obtain ⟨i, hi, rfl⟩ := nI_of q1
    rw [nI_toInt hi, nI_toInt hk] at q2
    exact ⟨⟨i, by omega, rfl⟩, ⟨k, by omega, rfl⟩, by rw [tN_nI hi, tN_nI hk]; omega⟩
  · rintro ⟨⟨i, hi, e⟩, _, q2⟩
    subst e
    rw [tN_nI (by omega), tN_nI hk] at q2
    exact ⟨nI_pos (by omega), by rw [nI_toInt (by omega), nI_toInt hk]; omega⟩
theorem c_pl {d : Nat} (hd : 1 ≤ d) {σ : qm_Sg} {Q : qm_Po} {z : Nat} {i9 n9 : Int32} (hz : z ≤ 60) (hn : ¬ n9 < 0) (h1 : (inP i9 61 ∧ inP n9 61 ∧ tN i9 + tN n9 ≤ z) → Q σ (some (vI 1))) (h0 : ¬ (inP i9 61 ∧ inP n9 61 ∧ tN i9 + tN n9 ≤ z) → Q σ (some (vI 0))) : qm_M d 99 [vI (nI z), vI i9, vI n9] σ Q := by
  obtain ⟨d, rfl, hd⟩ := qm_dn hd
  show qm_Wp (qm_M d) qk_99 Q 0 [some (vI (nI z)), some (vI i9), some (vI n9)] [] σ
  have pi := pl_iff (i9 := i9) hz hn
  refine qm_go 2 (fun P hP => And.intro (fun c => hP ?_) (fun c => hP ?_))
  · exact qm_go 2 (fun P hP => And.intro rfl (h0 (fun y => (pi.mpr y).1 c)))
  · refine qm_go 3 (fun P hP => And.intro (fun c2 => hP ?_) (fun c2 => hP ?_))
    · refine qm_go 2 (fun P hP => And.intro rfl (h0 (fun y => ?_)))
      have q := (pi.mpr y).2
      rw [i_lt, nI_toInt (by omega)] at c2
      rw [i_lt] at hn
      have z0 : (0 : Int32).toInt = 0 := rfl
      omega
    · have es := sub_i (x := i9) hz c
      refine qm_go 5 (fun P hP => And.intro (fun c3 => hP ?_) (fun c3 => hP ?_))
      · refine qm_go 2 (fun P hP => And.intro rfl (h0 (fun y => ?_)))
        have q := (pi.mpr y).2
        rw [i_lt, es] at c3
        omega
      · refine qm_go 3 (fun P hP => And.intro rfl (h1 (pi.mp ⟨c, ?_⟩)))
        rw [i_lt, es] at c3
        omega
theorem c_shift {d : Nat} (hd : 2 ≤ d) {σ : qm_Sg} {Q : qm_Po} {Z : TP9} {t9 i9 u9 j9 n9 : Int32} (hz : cTap σ Z) (hw : wfTap Z) (h : ∀ σ', FrL tNo (fun t => t = 7) σ σ' → cTap σ' (shT Z t9 i9 u9 j9 n9) → Q σ' (some (vI (tcV (shC Z t9 i9 u9 j9 n9) n9)))) : qm_M d 95 [vR 0 0, vI t9, vI i9, vI u9, vI j9, vI n9] σ Q := by
  obtain ⟨d, rfl, hd⟩ := qm_dn hd
  show qm_Wp (qm_M d) qk_95 Q 0 [some (vR 0 0), some (vI t9), some (vI i9), some (vI u9), some (vI j9), some (vI n9)] [] σ
  have none9 : ¬ (inR t9 6 ∧ inR u9 6) → qm_Wp (qm_M d) qk_95 Q 8 [some (vR 0 0), some (vI t9), some (vI i9), some (vI u9), some (vI j9), some (vI n9)] [] σ := fun y => by
    have hc : shC Z t9 i9 u9 j9 n9 = 1 := if_neg y
    have z := sh_c hc (by decide)
    rw [z.1, z.2] at h
    exact qm_go 2 (fun P hP => h σ FrL.rf hz)
  refine qm_go 3 (fun P hP => c_isWithin (n := 6) (by omega) (by decide) (fun ct => hP ?_) (fun ct => hP ?_))
  · refine qm_go 1 (fun P hP => And.intro (fun z => absurd z (by decide)) (fun _ => hP ?_))
    refine qm_go 3 (fun P hP => c_isWithin (n := 6) (by omega) (by decide) (fun cu => hP ?_) (fun cu => hP ?_))
    rotate_left
    · exact qm_go 1 (fun P hP => And.intro (fun z => absurd rfl z) (fun _ => hP (none9 (fun y => cu y.2))))
    refine qm_go 1 (fun P hP => And.intro (fun _ => hP ?_) (fun z => absurd z (by decide)))
    clear none9
    have h1 : shC Z t9 i9 u9 j9 n9 = (if Z.1 (tN t9) = -1 ∨ Z.1 (tN u9) = -1 then 11 else if Z.1 (tN t9) = Z.1 (tN u9) then (if shO (Z.2.1 (tN t9)) (Z.2.1 (tN u9)) i9 j9 n9 then 0 else 13) else 12) := if_pos ⟨ct, cu⟩
    obtain ⟨t, ht, rfl⟩ := ct
    obtain ⟨u, hu, rfl⟩ := cu
    obtain ⟨a1, a2, a3⟩ := hz t ht
    obtain ⟨b1, b2, b3⟩ := hz u hu
    obtain ⟨w1, w2, w3⟩ := hw t ht
    obtain ⟨v1, v2, v3⟩ := hw u hu
    rw [tN_nI (by omega), tN_nI (by omega)] at h1
    have bad : (Z.1 t = -1 ∨ Z.1 u = -1) → qm_Wp (qm_M d) qk_95 Q 22 [some (vR 0 0), some (vI (nI t)), some (vI i9), some (vI (nI u)), some (vI j9), some (vI n9)] [] σ := fun y => by
      have hc := h1.trans (if_pos y)
      have z := sh_c hc (by decide)
      rw [z.1, z.2] at h
      exact qm_go 2 (fun P hP => h σ FrL.rf hz)
    refine qm_go 4 (fun P hP => Exists.intro (t) (And.intro (And.intro (rfl) (ht)) (hP ?_)))
    rw [a1]
    refine qm_go 2 (fun P hP => And.intro (fun c => hP (bad (Or.inl c))) (fun c => hP ?_))
    refine qm_go 4 (fun P hP => Exists.intro (u) (And.intro (And.intro (rfl) (hu)) (hP ?_)))
    rw [b1]
    refine qm_go 2 (fun P hP => And.intro (fun c2 => hP ?_) (fun c2 => hP (bad (Or.inr c2))))
    have n1 : ¬ (Z.1 t = -1 ∨ Z.1 u = -1) := fun y => y.elim c c2
    refine qm_go 4 (fun P hP => Exists.intro (t) (And.intro (And.intro (rfl) (ht)) (hP ?_)))
    refine qm_go 4 (fun P hP => Exists.intro (u) (And.intro (And.intro (rfl) (hu)) (hP ?_)))
    rw [a1, b1]
    refine qm_go 1 (fun P hP => And.intro (fun c3 => hP ?_) (fun c3 => hP ?_))
    · have h2 := h1.trans ((if_neg n1).trans (if_pos c3))
      have bad2 : ¬ shO (Z.2.1 t) (Z.2.1 u) i9 j9 n9 → qm_Wp (qm_M d) qk_95 Q 53 [some (vR 0 0), some (vI (nI t)), some (vI i9), some (vI (nI u)), some (vI j9), some (vI n9)] [] σ := fun y => by
        have hc := h2.trans (if_neg y)
        have z := sh_c hc (by decide)
        rw [z.1, z.2] at h
        exact qm_go 2 (fun P hP => h σ FrL.rf hz)
      refine qm_go 2 (fun P hP => And.intro (fun c4 => hP (bad2 (fun y => (inR_ge (by decide) y.2.2.1).1 c4))) (fun c4 => hP ?_))
      refine qm_go 4 (fun P hP => Exists.intro (t) (And.intro (And.intro (rfl) (ht)) (hP ?_)))
      rw [a2]
      refine qm_go 3 (fun P hP => c_pl (by omega) w1 c4 (fun p1 => hP ?_) (fun p1 => hP ?_))
      · refine qm_go 1 (fun P hP => And.intro (fun z => absurd z (by decide)) (fun _ => hP ?_))
        refine qm_go 4 (fun P hP => Exists.intro (u) (And.intro (And.intro (rfl) (hu)) (hP ?_)))
        rw [b2]
        refine qm_go 3 (fun P hP => c_pl (by omega) v1 c4 (fun p2 => hP ?_) (fun p2 => hP ?_))
        · refine qm_go 1 (fun P hP => And.intro (fun _ => hP ?_) (fun z => absurd z (by decide)))
          have z := sh_0 (h2.trans (if_pos ⟨p1.1, p2.1, p1.2.1, p1.2.2, p2.2.2⟩))
          rw [z.1, z.2] at h
          obtain ⟨⟨i, hi, rfl⟩, ⟨n, hn, rfl⟩, p1⟩ := p1
          obtain ⟨⟨j, hj, rfl⟩, _, p2⟩ := p2
          rw [tN_nI (by omega), tN_nI (by omega)] at p1 p2
          rw [tN_nI (by omega), tN_nI (by omega), tN_nI (by omega), tN_nI (by omega), tN_nI (by omega)] at h
          refine qm_go 4 (fun P hP => Exists.intro (t) (And.intro (And.intro (rfl) (ht)) (hP ?_)))
          refine qm_go 5 (fun P hP => Exists.intro (u) (And.intro (And.intro (rfl) (hu)) (hP ?_)))
          refine qm_go 3 (fun P hP => Exists.intro i (Exists.intro j (Exists.intro n (And.intro ⟨rfl, rfl, rfl, show i + n ≤ 60 by omega, show j + n ≤ 60 by omega⟩ (hP ?_)))))
          refine qm_go 2 (fun P hP => h _ (FrL.w rfl) (fun a ha => ?_))
          obtain ⟨q1, q2, q3⟩ := hz a ha
          refine ⟨q1, q2, fun b hb => ?_⟩
          show _ = (if a = u ∧ j ≤ b ∧ b < j + n then Z.2.2 t (i + (b - j)) else Z.2.2 a b)
          by_cases e : a = u
          · subst e
            rw [wG_same]
            by_cases e2 : j ≤ b ∧ b < j + n
            · rw [if_pos ⟨rfl, e2⟩, pk_cpy_in e2.1 e2.2]
              exact a3 _ (by omega)
            · rw [if_neg (fun y => e2 y.2), pk_cpy_out (by omega)]
              exact q3 b hb
          · rw [wG_ne _ _ (fun y => e y.2), if_neg (fun y => e y.1)]
            exact q3 b hb
        · exact qm_go 1 (fun P hP => And.intro (fun z => absurd rfl z) (fun _ => hP (bad2 (fun y => p2 ⟨y.2.1, y.2.2.1, y.2.2.2.2⟩))))
      · exact qm_go 1 (fun P hP => And.intro (fun _ => hP (bad2 (fun y => p1 ⟨y.1, y.2.2.1, y.2.2.2.1⟩))) (fun z => absurd rfl z))
    · have hc := h1.trans ((if_neg n1).trans (if_neg c3))
      have z := sh_c hc (by decide)
      rw [z.1, z.2] at h
      exact qm_go 2 (fun P hP => h σ FrL.rf hz)
  · exact qm_go 1 (fun P hP => And.intro (fun _ => hP (none9 (fun y => ct y.1))) (fun z => absurd rfl z))
theorem m_sh1 {d : Nat} {σ0 : qm_Sg} {Q : qm_Po} {t i u j n : Nat} (hn : n ≤ 60) (ht : t < 6) (hi : i + n ≤ 60) (h : ∀ σ', σ'.1 = σ0.1 → (∀ a b, ¬ a = 91 → σ'.2 a b = σ0.2 a b) → (∀ k, k < n → σ'.2 91 0 k = σ0.2 90 0 (60 * t + (i + k))) → qm_Wp (qm_M d) qk_196 Q 78 [some (vR 50 0), some (vI (nI t)), some (vI (nI i)), some (vI (nI u)), some (vI (nI j)), some (vI (nI n)), some (vI (nI n))] [] σ') : ∀ (k q : Nat) (σ : qm_Sg), q + k = n → σ.1 = σ0.1 → (∀ a b, ¬ a = 91 → σ.2 a b = σ0.2 a b) → (∀ k, k < q → σ.2 91 0 k = σ0.2 90 0 (60 * t + (i + k))) → qm_Wp (qm_M d) qk_196 Q 59 [some (vR 50 0), some (vI (nI t)), some (vI (nI i)), some (vI (nI u)), some (vI (nI j)), some (vI (nI n)), some (vI (nI q))] [] σ
  | 0, q, σ, e, e1, e2, e3 => by
    have e9 : q = n := by omega
    subst e9
    refine qm_go 3 (fun P hP => And.intro (fun _ => hP ?_) (fun z => absurd (nI_le (Nat.le_refl q) (by omega)) z))
    exact h σ e1 e2 e3
  | k + 1, q, σ, e, e1, e2, e3 => by
    refine qm_go 3 (fun P hP => And.intro (fun z => absurd z (nI_ge (by omega) (by omega))) (fun _ => hP ?_))
    refine qm_go 13 (fun P hP => Exists.intro (60 * t + (i + q)) (And.intro (And.intro (by rw [ix60, nI_add, Nat.add_assoc]) (show 60 * t + (i + q) < 360 by omega)) (hP ?_)))
    refine qm_go 1 (fun P hP => Exists.intro (q) (And.intro (And.intro (rfl) (show q < 60 by omega)) (hP ?_)))
    refine qm_go 2 (fun P hP => hP ?_)
    rw [nI_1]
    refine m_sh1 hn ht hi h k (q + 1) _ (by omega) e1 (fun a b y => by rw [wG_ne _ _ (fun w => y w.1)]; exact e2 a b y) (fun r hr => ?_)
    rw [wG_same]
    by_cases er : r = q
    · rw [er, uL_same, e2 90 0 (by omega)]
    · rw [uL_ne er]
      exact e3 r (by omega)
theorem m_sh2 {d : Nat} {σ0 : qm_Sg} {Q : qm_Po} {t i u j n : Nat} (hn : n ≤ 60) (hu : u < 6) (hj : j + n ≤ 60) (h : ∀ σ', σ'.1 = σ0.1 → (∀ a b, ¬ a = 90 → σ'.2 a b = σ0.2 a b) → (∀ x, σ'.2 90 0 x = if 60 * u + j ≤ x ∧ x < 60 * u + j + n then σ0.2 91 0 (x - (60 * u + j)) else σ0.2 90 0 x) → Q σ' (some (vI (nI n)))) : ∀ (k q : Nat) (σ : qm_Sg), q + k = n → σ.1 = σ0.1 → (∀ a b, ¬ a = 90 → σ.2 a b = σ0.2 a b) → (∀ x, σ.2 90 0 x = if 60 * u + j ≤ x ∧ x < 60 * u + j + q then σ0.2 91 0 (x - (60 * u + j)) else σ0.2 90 0 x) → qm_Wp (qm_M d) qk_196 Q 80 [some (vR 50 0), some (vI (nI t)), some (vI (nI i)), some (vI (nI u)), some (vI (nI j)), some (vI (nI n)), some (vI (nI q))] [] σ
  | 0, q, σ, e, e1, e2, e3 => by
    have e9 : q = n := by omega
    subst e9
    refine qm_go 3 (fun P hP => And.intro (fun _ => hP ?_) (fun z => absurd (nI_le (Nat.le_refl q) (by omega)) z))
    exact qm_go 2 (fun P hP => h σ e1 e2 e3)
  | k + 1, q, σ, e, e1, e2, e3 => by
    refine qm_go 3 (fun P hP => And.intro (fun z => absurd z (nI_ge (by omega) (by omega))) (fun _ => hP ?_))
    refine qm_go 13 (fun P hP => Exists.intro (q) (And.intro (And.intro (rfl) (show q < 60 by omega)) (hP ?_)))
    refine qm_go 1 (fun P hP => Exists.intro (60 * u + (j + q)) (And.intro (And.intro (by rw [ix60, nI_add, Nat.add_assoc]) (show 60 * u + (j + q) < 360 by omega)) (hP ?_)))
    refine qm_go 2 (fun P hP => hP ?_)
    rw [nI_1]
    refine m_sh2 hn hu hj h k (q + 1) _ (by omega) e1 (fun a b y => by rw [wG_ne _ _ (fun w => y w.1)]; exact e2 a b y) (fun x => ?_)
    rw [wG_same]
    by_cases er : x = 60 * u + (j + q)
    · rw [er, uL_same, e2 91 0 (by omega), if_pos (by omega), show 60 * u + (j + q) - (60 * u + j) = q by omega]
    · rw [uL_ne er, e3 x]
      by_cases e5 : 60 * u + j ≤ x ∧ x < 60 * u + j + q
      · rw [if_pos e5, if_pos (by omega)]
      · rw [if_neg e5, if_neg (by omega)]
set_option maxHeartbeats 1000000 in
theorem m_shift {d : Nat} (hd : 3 ≤ d) {σ : qm_Sg} {Q : qm_Po} {Z : TP9} {t9 i9 u9 j9 n9 : Int32} (hz : mTap σ Z) (hw : wfTap Z) (h : ∀ σ', FrL tNo (fun t => t = 90 ∨ t = 91) σ σ' → mTap σ' (shT Z t9 i9 u9 j9 n9) → Q σ' (some (vI (tcV (shC Z t9 i9 u9 j9 n9) n9)))) : qm_M d 196 [vR 50 0, vI t9, vI i9, vI u9, vI j9, vI n9] σ Q := by
  obtain ⟨d, rfl, hd⟩ := qm_dn hd
  show qm_Wp (qm_M d) qk_196 Q 0 [some (vR 50 0), some (vI t9), some (vI i9), some (vI u9), some (vI j9), some (vI n9), none] [] σ
  have none9 : ¬ (inR t9 6 ∧ inR u9 6) → qm_Wp (qm_M d) qk_196 Q 8 [some (vR 50 0), some (vI t9), some (vI i9), some (vI u9), some (vI j9), some (vI n9), none] [] σ := fun y => by
    have hc : shC Z t9 i9 u9 j9 n9 = 1 := if_neg y
    have z := sh_c hc (by decide)
    rw [z.1, z.2] at h
    exact qm_go 2 (fun P hP => h σ FrL.rf hz)
  refine qm_go 3 (fun P hP => m_isTape (by omega) (fun ct => hP ?_) (fun ct => hP ?_))
  · refine qm_go 1 (fun P hP => And.intro (fun z => absurd z (by decide)) (fun _ => hP ?_))
    refine qm_go 3 (fun P hP => m_isTape (by omega) (fun cu => hP ?_) (fun cu => hP ?_))
    rotate_left
    · exact qm_go 1 (fun P hP => And.intro (fun z => absurd rfl z) (fun _ => hP (none9 (fun y => cu y.2))))
    refine qm_go 1 (fun P hP => And.intro (fun _ => hP ?_) (fun z => absurd z (by decide)))
    clear none9
    have h1 : shC Z t9 i9 u9 j9 n9 = (if Z.1 (tN t9) = -1 ∨ Z.1 (tN u9) = -1 then 11 else if Z.1 (tN t9) = Z.1 (tN u9) then (if shO (Z.2.1 (tN t9)) (Z.2.1 (tN u9)) i9 j9 n9 then 0 else 13) else 12) := if_pos ⟨ct, cu⟩
    obtain ⟨t, ht, rfl⟩ := ct
    obtain ⟨u, hu, rfl⟩ := cu
    obtain ⟨a1, a2, a3⟩ := hz t ht
    obtain ⟨b1, b2, b3⟩ := hz u hu
    obtain ⟨w1, w2, w3⟩ := hw t ht
    obtain ⟨v1, v2, v3⟩ := hw u hu
    rw [tN_nI (by omega), tN_nI (by omega)] at h1
    have sn := so_neg hw ht
    have un := so_neg hw hu
    have bad : (Z.1 t = -1 ∨ Z.1 u = -1) → qm_Wp (qm_M d) qk_196 Q 20 [some (vR 50 0), some (vI (nI t)), some (vI i9), some (vI (nI u)), some (vI j9), some (vI n9), none] [] σ := fun y => by
      have hc := h1.trans (if_pos y)
      have z := sh_c hc (by decide)
      rw [z.1, z.2] at h
      exact qm_go 2 (fun P hP => h σ FrL.rf hz)
    refine qm_go 4 (fun P hP => Exists.intro (t) (And.intro (And.intro (rfl) (ht)) (hP ?_)))
    rw [a1]
    refine qm_go 1 (fun P hP => And.intro (fun c => hP (bad (Or.inl (sn.mp c)))) (fun c => hP ?_))
    refine qm_go 4 (fun P hP => Exists.intro (u) (And.intro (And.intro (rfl) (hu)) (hP ?_)))
    rw [b1]
    refine qm_go 1 (fun P hP => And.intro (fun c2 => hP ?_) (fun c2 => hP (bad (Or.inr (un.mp (i_lt_of c2))))))
    have n1 : ¬ (Z.1 t = -1 ∨ Z.1 u = -1) := fun y => y.elim (fun y => c (sn.mpr y)) (fun y => i_nlt c2 (un.mpr y))
    refine qm_go 4 (fun P hP => Exists.intro (t) (And.intro (And.intro (rfl) (ht)) (hP ?_)))
    refine qm_go 4 (fun P hP => Exists.intro (u) (And.intro (And.intro (rfl) (hu)) (hP ?_)))
    rw [a1, b1]
    refine qm_go 1 (fun P hP => And.intro (fun c3 => hP ?_) (fun c3 => hP ?_))
    · have h2 := h1.trans ((if_neg n1).trans (if_pos c3))
      have bad2 : ¬ shO (Z.2.1 t) (Z.2.1 u) i9 j9 n9 → qm_Wp (qm_M d) qk_196 Q 55 [some (vR 50 0), some (vI (nI t)), some (vI i9), some (vI (nI u)), some (vI j9), some (vI n9), none] [] σ := fun y => by
        have hc := h2.trans (if_neg y)
        have z := sh_c hc (by decide)
        rw [z.1, z.2] at h
        exact qm_go 2 (fun P hP => h σ FrL.rf hz)
      refine qm_go 2 (fun P hP => And.intro (fun c4 => hP (bad2 (fun y => (inR_ge (by decide) y.2.2.1).1 c4))) (fun c4 => hP ?_))
      refine qm_go 2 (fun P hP => And.intro (fun c5 => hP (bad2 (fun y => (inR_ge (by decide) y.1).1 c5))) (fun c5 => hP ?_))
      refine qm_go 2 (fun P hP => And.intro (fun c6 => hP (bad2 (fun y => (inR_ge (by decide) y.2.1).1 c6))) (fun c6 => hP ?_))
      have pi := pl_iff (z := Z.2.1 t) (i9 := i9) w1 c4
      have pj := pl_iff (z := Z.2.1 u) (i9 := j9) v1 c4
      have es := sub_i (x := n9) w1 c4
      have eu := sub_i (x := n9) v1 c4
      refine qm_go 5 (fun P hP => Exists.intro (t) (And.intro (And.intro (rfl) (ht)) (hP ?_)))
      rw [a2]
      refine qm_go 3 (fun P hP => And.intro (fun c7 => hP (bad2 (fun y => ?_))) (fun c7 => hP ?_))
      · have q := (pi.mpr ⟨y.1, y.2.2.1, y.2.2.2.1⟩).2
        rw [i_lt, es] at c7
        omega
      have p1 := pi.mp ⟨c5, by rw [i_lt, es] at c7; omega⟩
      refine qm_go 5 (fun P hP => Exists.intro (u) (And.intro (And.intro (rfl) (hu)) (hP ?_)))
      rw [b2]
      refine qm_go 3 (fun P hP => And.intro (fun c8 => hP ?_) (fun c8 => hP (bad2 (fun y => ?_))))
      rotate_left
      · have q := (pj.mpr ⟨y.2.1, y.2.2.1, y.2.2.2.2⟩).2
        rw [i_le, eu] at c8
        omega
      have p2 := pj.mp ⟨c6, by rw [i_le, eu] at c8; omega⟩
      have z := sh_0 (h2.trans (if_pos ⟨p1.1, p2.1, p1.2.1, p1.2.2, p2.2.2⟩))
      rw [z.1, z.2] at h
      clear bad2 pi pj es eu
      obtain ⟨⟨i, hi, rfl⟩, ⟨n, hn, rfl⟩, p1⟩ := p1
      obtain ⟨⟨j, hj, rfl⟩, _, p2⟩ := p2
      rw [tN_nI (by omega), tN_nI (by omega)] at p1 p2
      rw [tN_nI (by omega), tN_nI (by omega), tN_nI (by omega), tN_nI (by omega), tN_nI (by omega)] at h
      refine qm_go 2 (fun P hP => hP ?_)
      refine m_sh1 (by omega) ht (by omega) (fun σ2 g1 g2 g3 => ?_) n 0 σ (by omega) rfl (fun _ _ _ => rfl) (fun k hk => absurd hk (by omega))
      refine qm_go 2 (fun P hP => hP ?_)
      refine m_sh2 (by omega) hu (by omega) (fun σ3 f1 f2 f3 => ?_) n 0 σ2 (by omega) rfl (fun _ _ _ => rfl) (fun x => by rw [if_neg (by omega)])
      refine h σ3 ⟨fun a b r _ => by rw [f1, g1], fun a b r y => by rw [f2 a b (fun w => y (Or.inl w)), g2 a b (fun w => y (Or.inr w))]⟩ (fun a ha => ?_)
      obtain ⟨q1, q2, q3⟩ := hz a ha
      rw [f1, g1]
      refine ⟨q1, q2, fun b hb => ?_⟩
      show _ = (if a = u ∧ j ≤ b ∧ b < j + n then Z.2.2 t (i + (b - j)) else Z.2.2 a b)
      rw [f3]
      by_cases e : a = u ∧ j ≤ b ∧ b < j + n
      · rw [if_pos e, if_pos (by omega), show 60 * a + b - (60 * u + j) = b - j by omega, g3 _ (by omega), a3 _ (by omega)]
      · rw [if_neg e, if_neg (by omega), g2 90 0 (by omega)]
        exact q3 b hb
    · have hc := h1.trans ((if_neg n1).trans (if_neg c3))
      have z := sh_c hc (by decide)
      rw [z.1, z.2] at h
      exact qm_go 2 (fun P hP => h σ FrL.rf hz)
  · exact qm_go 1 (fun P hP => And.intro (fun _ => hP (none9 (fun y => ct y.1))) (fun z => absurd rfl z))
