def tP (s t i j : Nat) : Prop := i = s ∧ ((t = 28 ∧ (j = 10 ∨ j = 5)) ∨ t = 32)
def cP (s L : Nat) (tx : Nat → Nat) (σ : qm_Sg) (a : Nat) (co : List Nat) : Prop := (∀ j, j < L → σ.1 5 0 j = nI (tx j)) ∧ sE σ ∧ σ.1 28 s 9 = nI L ∧ σ.1 28 s 10 = nI a ∧ σ.1 28 s 5 = nI co.length ∧ (∀ i t, co[i]? = some t → σ.1 32 s i = cEn t) ∧ a ≤ L ∧ L ≤ 100 ∧ co.length ≤ a ∧ ∀ j, j < L → tx j < 128
theorem cP.len {s L : Nat} {tx : Nat → Nat} {σ : qm_Sg} {a : Nat} {co : List Nat} (h : cP s L tx σ a co) : σ.1 28 s 9 = nI L := h.2.2.1
theorem cP.at_ {s L : Nat} {tx : Nat → Nat} {σ : qm_Sg} {a : Nat} {co : List Nat} (h : cP s L tx σ a co) : σ.1 28 s 10 = nI a := h.2.2.2.1
theorem cP.cnt {s L : Nat} {tx : Nat → Nat} {σ : qm_Sg} {a : Nat} {co : List Nat} (h : cP s L tx σ a co) : σ.1 28 s 5 = nI co.length := h.2.2.2.2.1
theorem cP.le {s L : Nat} {tx : Nat → Nat} {σ : qm_Sg} {a : Nat} {co : List Nat} (h : cP s L tx σ a co) : a ≤ L ∧ L ≤ 100 ∧ co.length ≤ a := ⟨h.2.2.2.2.2.2.1, h.2.2.2.2.2.2.2.1, h.2.2.2.2.2.2.2.2.1⟩
theorem cP.sg {s L : Nat} {tx : Nat → Nat} {σ : qm_Sg} {a : Nat} {co : List Nat} (h : cP s L tx σ a co) (ha : a < L) : σ.1 5 0 a = nI (pzS tx L a) ∧ pzS tx L a < 128 := by
  unfold pzS
  rw [if_pos ha]
  exact ⟨h.1 a ha, h.2.2.2.2.2.2.2.2.2 a ha⟩
theorem pzS_end {tx : Nat → Nat} {L a : Nat} (h : ¬ a < L) : pzS tx L a = 999 := if_neg h
theorem pzS_lt {tx : Nat → Nat} {L a c : Nat} (h : pzS tx L a = c) (hc : c < 999) : a < L := by
  by_cases e : a < L
  · exact e
  · rw [pzS_end e] at h; omega
theorem cP.ge {s L : Nat} {tx : Nat → Nat} {σ : qm_Sg} {a : Nat} {co : List Nat} (h : cP s L tx σ a co) (ha : a < L) : ¬ σ.1 28 s 9 ≤ σ.1 28 s 10 := by
  have hl := h.le
  rw [h.len, h.at_]; exact nI_ge ha (by omega)
theorem cP.gt {s L : Nat} {tx : Nat → Nat} {σ : qm_Sg} {a : Nat} {co : List Nat} (h : cP s L tx σ a co) (ha : ¬ a < L) : σ.1 28 s 9 ≤ σ.1 28 s 10 := by
  have hl := h.le
  rw [h.len, h.at_]; exact nI_le (by omega) (by omega)
theorem cP.at1 {s L : Nat} {tx : Nat → Nat} {σ : qm_Sg} {a : Nat} {co : List Nat} (h : cP s L tx σ a co) (ha : a < L) : cP s L tx (wF σ 28 s (upd (σ.1 28 s) 10 (σ.1 28 s 10 + 1))) (a + 1) co := by
  obtain ⟨h1, h2, h3, h4, h5, h6, h7, h8, h9, h10⟩ := h
  have F : Fr (tP s) σ (wF σ 28 s (upd (σ.1 28 s) 10 (σ.1 28 s 10 + 1))) := Fr.w1 (by unfold tP; omega)
  exact ⟨fun j hj => by rw [wF_ne _ _ (by omega)]; exact h1 j hj, h2.fr F (fun t i j q => by unfold tP; omega), by rw [wv_ne (by omega)]; exact h3, by rw [wv_same, h4, nI_1], by rw [wv_ne (by omega)]; exact h5, fun i t q => by rw [wF_ne _ _ (by omega)]; exact h6 i t q, by omega, h8, by omega, h10⟩
theorem cP.F {s L : Nat} {tx : Nat → Nat} {σ : qm_Sg} {a : Nat} {co : List Nat} (_ : cP s L tx σ a co) : Fr (tP s) σ (wF σ 28 s (upd (σ.1 28 s) 10 (σ.1 28 s 10 + 1))) := Fr.w1 (by unfold tP; omega)
theorem c_writes {d : Nat} (hd : 1 ≤ d) {σ : qm_Sg} {Q : qm_Po} {s L : Nat} {tx : Nat → Nat} {a : Nat} {co : List Nat} (hp : cP s L tx σ a co) {t : Nat} (hl : co.length < a) (h : ∀ σ', Fr (tP s) σ σ' → cP s L tx σ' a (co ++ [t]) → Q σ' none) : qm_M d 56 [vR 28 s, vI (cEn t)] σ Q := by
  obtain ⟨d, rfl, hd⟩ := qm_dn hd
  show qm_Wp (qm_M d) qk_56 Q 0 [some (vR 28 s), some (vI (cEn t))] [] σ
  have hl3 := hp.le
  have hc : co.length < 100 := by omega
  refine qm_go 4 (fun P hP => And.intro (fun c => absurd c (show ¬ (100 : Int32) ≤ σ.1 28 s 5 from by rw [hp.cnt]; exact nI_ge (b := 100) hc (by decide))) (fun _ => hP ?_))
  refine qm_go 6 (fun P hP => Exists.intro (co.length) (And.intro (And.intro (hp.cnt) (hc)) (hP ?_)))
  refine qm_go 6 (fun P hP => hP ?_)
  generalize hσ : wF _ 28 s (upd _ 5 _) = σ2
  have F : Fr (tP s) σ σ2 := by
    rw [← hσ]
    exact Fr.p1 (Fr.w1 (by unfold tP; omega)) (by unfold tP; omega)
  refine qm_go 1 (fun P hP => h σ2 F ?_)
  obtain ⟨h1, h2, h3, h4, h5, h6, h7, h8, h9, h10⟩ := hp
  refine ⟨fun j hj => by rw [F.1 _ _ _ (by unfold tP; omega)]; exact h1 j hj, h2.fr F (fun t i j q => by unfold tP; omega), by rw [F.1 _ _ _ (by unfold tP; omega)]; exact h3, by rw [← hσ, wv_ne (by omega), wF_ne _ _ (by omega)]; exact h4, by rw [← hσ, wv_same, wF_ne _ _ (by omega), h5, nI_1, List.length_append]; rfl, ?_, h7, h8, by rw [List.length_append]; exact hl, h10⟩
  intro i q hq
  rw [← hσ, wF_ne _ _ (by omega)]
  by_cases e : i < co.length
  · rw [List.getElem?_append_left e] at hq
    rw [wv_ne (by omega)]
    exact h6 i q hq
  · rw [List.getElem?_append_right (by omega)] at hq
    have : i = co.length := by
      have := (List.getElem?_eq_some_iff.mp hq).1
      simp only [List.length_cons, List.length_nil] at this
      omega
    subst this
    rw [Nat.sub_self] at hq
    cases hq
    rw [wv_same]
theorem dg_no {c : Nat} (hc : c < 128) (h : ¬ (48 ≤ c ∧ c ≤ 57)) : nI c < 48 ∨ 57 < nI c := by
  by_cases e : c < 48
  · exact Or.inl (nI_lt (b := 48) e (by decide))
  · exact Or.inr (nI_lt (a := 57) (by omega) (by omega))
theorem dg_lo {c : Nat} (hc : c < 128) (h : 48 ≤ c ∧ c ≤ 57) : ¬ nI c < 48 := nI_nlt (b := 48) h.1 (by omega)
theorem dg_hi {c : Nat} (hc : c < 128) (h : 48 ≤ c ∧ c ≤ 57) : ¬ 57 < nI c := nI_nlt (a := 57) h.2 (by decide)
theorem dg_1 {c : Nat} (h : 48 ≤ c) : (0 : Int32) + nI c - 48 = nI (c - 48) := by rw [show (0 : Int32) = nI 0 from rfl, nI_add, Nat.zero_add, show (48 : Int32) = nI 48 from rfl, pk_sub h]
theorem dg_2 {n c : Nat} (h : 48 ≤ c) : nI n * 10 + nI c - 48 = nI (10 * n + (c - 48)) := by rw [show (10 : Int32) = nI 10 from rfl, pk_mul, nI_add, show (48 : Int32) = nI 48 from rfl, pk_sub (by omega)]; congr 1; omega
theorem dg_3 {n c : Nat} (h : 48 ≤ c) : 10 * nI n + nI c - 48 = nI (10 * n + (c - 48)) := by rw [show (10 : Int32) = nI 10 from rfl, pk_mul, nI_add, show (48 : Int32) = nI 48 from rfl, pk_sub (by omega)]; congr 1; omega
theorem dg_4 {n : Nat} (h : n < 2 ^ 31) : ¬ nI n = -1 := fun e => nI_pos h (by rw [e]; decide)
theorem c_numX0 {d : Nat} {σ : qm_Sg} {Q : qm_Po} {s L : Nat} {tx : Nat → Nat} {a : Nat} {co : List Nat} (hp : cP s L tx σ a co) {n : Int32} (hd : ¬ (48 ≤ pzS tx L a ∧ pzS tx L a ≤ 57)) (h : Q σ (some (vI n))) : qm_Wp (qm_M d) qk_51 Q 7 [some (vR 28 s), some (vI n), some (vI 0)] [] σ := by
  by_cases ha : a < L
  · obtain ⟨g1, g2⟩ := hp.sg ha
    refine qm_go 5 (fun P hP => And.intro (fun c => absurd c (hp.ge ha)) (fun _ => hP ?_))
    refine qm_go 5 (fun P hP => Exists.intro (a) (And.intro (And.intro (hp.at_) (Nat.lt_of_lt_of_le ha hp.le.2.1)) (hP ?_)))
    rw [g1]
    refine qm_go 2 (fun P hP => And.intro (fun c => hP ?_) (fun c => hP ?_))
    · exact qm_go 2 (fun P hP => h)
    · refine qm_go 5 (fun P hP => Exists.intro (a) (And.intro (And.intro (hp.at_) (Nat.lt_of_lt_of_le ha hp.le.2.1)) (hP ?_)))
      rw [g1]
      refine qm_go 2 (fun P hP => And.intro (fun c => hP ?_) (fun c2 => absurd (dg_no g2 hd) (fun z => z.elim c c2)))
      exact qm_go 2 (fun P hP => h)
  · refine qm_go 5 (fun P hP => And.intro (fun _ => hP ?_) (fun c => absurd (hp.gt ha) c))
    exact qm_go 2 (fun P hP => h)
theorem c_numX1 {d : Nat} {σ : qm_Sg} {Q : qm_Po} {s L : Nat} {tx : Nat → Nat} {a : Nat} {co : List Nat} (hp : cP s L tx σ a co) {n : Int32} (hd : ¬ (48 ≤ pzS tx L a ∧ pzS tx L a ≤ 57)) (h : Q σ (some (vI n))) : qm_Wp (qm_M d) qk_51 Q 7 [some (vR 28 s), some (vI n), some (vI 1)] [] σ := by
  by_cases ha : a < L
  · obtain ⟨g1, g2⟩ := hp.sg ha
    refine qm_go 5 (fun P hP => And.intro (fun c => absurd c (hp.ge ha)) (fun _ => hP ?_))
    refine qm_go 5 (fun P hP => Exists.intro (a) (And.intro (And.intro (hp.at_) (Nat.lt_of_lt_of_le ha hp.le.2.1)) (hP ?_)))
    rw [g1]
    refine qm_go 2 (fun P hP => And.intro (fun c => hP ?_) (fun c => hP ?_))
    · exact qm_go 2 (fun P hP => h)
    · refine qm_go 5 (fun P hP => Exists.intro (a) (And.intro (And.intro (hp.at_) (Nat.lt_of_lt_of_le ha hp.le.2.1)) (hP ?_)))
      rw [g1]
      refine qm_go 2 (fun P hP => And.intro (fun c => hP ?_) (fun c2 => absurd (dg_no g2 hd) (fun z => z.elim c c2)))
      exact qm_go 2 (fun P hP => h)
  · refine qm_go 5 (fun P hP => And.intro (fun _ => hP ?_) (fun c => absurd (hp.gt ha) c))
    exact qm_go 2 (fun P hP => h)
theorem c_num1 {d : Nat} {σ : qm_Sg} {Q : qm_Po} {s L : Nat} {tx : Nat → Nat} {a : Nat} {co : List Nat} (hp : cP s L tx σ a co) {n : Nat} (hn : n < 2 ^ 31) (hd : 48 ≤ pzS tx L a ∧ pzS tx L a ≤ 57) (h : ∀ σ', Fr (tP s) σ σ' → cP s L tx σ' (a + 1) co → Q σ' (some (vI (nI (10 * n + (pzS tx L a - 48)))))) : qm_Wp (qm_M d) qk_51 Q 7 [some (vR 28 s), some (vI (nI n)), some (vI 1)] [] σ := by
  have ha : a < L := pzS_lt (tx := tx) rfl (by omega)
  obtain ⟨g1, g2⟩ := hp.sg ha
  refine qm_go 5 (fun P hP => And.intro (fun c => absurd c (hp.ge ha)) (fun _ => hP ?_))
  refine qm_go 5 (fun P hP => Exists.intro (a) (And.intro (And.intro (hp.at_) (Nat.lt_of_lt_of_le ha hp.le.2.1)) (hP ?_)))
  rw [g1]
  refine qm_go 2 (fun P hP => And.intro (fun c => absurd c (dg_lo g2 hd)) (fun _ => hP ?_))
  refine qm_go 5 (fun P hP => Exists.intro (a) (And.intro (And.intro (hp.at_) (Nat.lt_of_lt_of_le ha hp.le.2.1)) (hP ?_)))
  rw [g1]
  refine qm_go 2 (fun P hP => And.intro (fun c => absurd c (dg_hi g2 hd)) (fun _ => hP ?_))
  refine qm_go 3 (fun P hP => And.intro (fun _ => hP ?_) (fun c => absurd c (dg_4 hn)))
  refine qm_go 8 (fun P hP => Exists.intro (a) (And.intro (And.intro (hp.at_) (Nat.lt_of_lt_of_le ha hp.le.2.1)) (hP ?_)))
  rw [g1]
  refine qm_go 3 (fun P hP => hP ?_)
  rw [dg_2 hd.1]
  refine qm_go 7 (fun P hP => hP ?_)
  generalize hσ : wF _ 28 s (upd _ 10 _) = σ2
  have hp2 : cP s L tx σ2 (a + 1) co := by rw [← hσ]; exact hp.at1 ha
  have F2 : Fr (tP s) σ σ2 := by rw [← hσ]; exact hp.F
  refine qm_go 2 (fun P hP => hP ?_)
  refine qm_go 3 (fun P hP => And.intro (fun _ => hP ?_) (fun c => absurd (by decide) c))
  exact qm_go 2 (fun P hP => h σ2 F2 hp2)
theorem c_num0 {d : Nat} {σ : qm_Sg} {Q : qm_Po} {s L : Nat} {tx : Nat → Nat} {a : Nat} {co : List Nat} (hp : cP s L tx σ a co) (hd : 48 ≤ pzS tx L a ∧ pzS tx L a ≤ 57) (h : ∀ σ', Fr (tP s) σ σ' → cP s L tx σ' (a + 1) co → qm_Wp (qm_M d) qk_51 Q 7 [some (vR 28 s), some (vI (nI (pzS tx L a - 48))), some (vI 1)] [] σ') : qm_Wp (qm_M d) qk_51 Q 7 [some (vR 28 s), some (vI (-1)), some (vI 0)] [] σ := by
  have ha : a < L := pzS_lt (tx := tx) rfl (by omega)
  obtain ⟨g1, g2⟩ := hp.sg ha
  refine qm_go 5 (fun P hP => And.intro (fun c => absurd c (hp.ge ha)) (fun _ => hP ?_))
  refine qm_go 5 (fun P hP => Exists.intro (a) (And.intro (And.intro (hp.at_) (Nat.lt_of_lt_of_le ha hp.le.2.1)) (hP ?_)))
  rw [g1]
  refine qm_go 2 (fun P hP => And.intro (fun c => absurd c (dg_lo g2 hd)) (fun _ => hP ?_))
  refine qm_go 5 (fun P hP => Exists.intro (a) (And.intro (And.intro (hp.at_) (Nat.lt_of_lt_of_le ha hp.le.2.1)) (hP ?_)))
  rw [g1]
  refine qm_go 2 (fun P hP => And.intro (fun c => absurd c (dg_hi g2 hd)) (fun _ => hP ?_))
  refine qm_go 3 (fun P hP => And.intro (fun c => absurd rfl c) (fun _ => hP ?_))
  refine qm_go 7 (fun P hP => Exists.intro (a) (And.intro (And.intro (hp.at_) (Nat.lt_of_lt_of_le ha hp.le.2.1)) (hP ?_)))
  rw [g1]
  refine qm_go 3 (fun P hP => hP ?_)
  rw [dg_1 hd.1]
  refine qm_go 7 (fun P hP => hP ?_)
  generalize hσ : wF _ 28 s (upd _ 10 _) = σ2
  have hp2 : cP s L tx σ2 (a + 1) co := by rw [← hσ]; exact hp.at1 ha
  have F2 : Fr (tP s) σ σ2 := by rw [← hσ]; exact hp.F
  refine qm_go 2 (fun P hP => hP ?_)
  refine qm_go 3 (fun P hP => And.intro (fun c => absurd c (by decide)) (fun _ => hP ?_))
  exact h σ2 F2 hp2
theorem c_number {d : Nat} (hd : 1 ≤ d) {σ : qm_Sg} {Q : qm_Po} {s L : Nat} {tx : Nat → Nat} {a : Nat} {co : List Nat} (hp : cP s L tx σ a co) (h0 : pzN (pzS tx L) a = none → Q σ (some (vI (-1)))) (h1 : ∀ σ' n b, pzN (pzS tx L) a = some (n, b) → n < 100 → a < b → Fr (tP s) σ σ' → cP s L tx σ' b co → Q σ' (some (vI (nI n)))) : qm_M d 51 [vR 28 s] σ Q := by
  obtain ⟨d, rfl, hd⟩ := qm_dn hd
  show qm_Wp (qm_M d) qk_51 Q 0 [some (vR 28 s), none, none] [] σ
  refine qm_go 7 (fun P hP => And.intro (fun c => absurd c (by decide)) (fun _ => hP ?_))
  unfold pzN at h0 h1
  by_cases e : 48 ≤ pzS tx L a ∧ pzS tx L a ≤ 57
  · rw [if_pos e] at h1
    refine c_num0 hp e (fun σ2 F2 hp2 => ?_)
    by_cases e2 : 48 ≤ pzS tx L (a + 1) ∧ pzS tx L (a + 1) ≤ 57
    · rw [if_pos e2] at h1
      refine c_num1 hp2 (by omega) e2 (fun σ3 F3 hp3 => ?_)
      exact h1 σ3 _ _ rfl (by omega) (by omega) (F2.tr F3) hp3
    · rw [if_neg e2] at h1
      exact c_numX1 hp2 e2 (h1 σ2 _ _ rfl (by omega) (by omega) F2 hp2)
  · exact c_numX0 hp e (h0 (if_neg e))
theorem c_fsl1 {d : Nat} (hd : 4 ≤ d) {Q : qm_Po} {s L : Nat} {tx : Nat → Nat} {co : List Nat} : ∀ (l : List Nat) (j a : Nat) (σ : qm_Sg), cP s L tx σ a co → ([108, 97, 116, 101, 32] : List Nat).drop j = l → j ≤ 5 → (∀ σ', Fr (tP s) σ σ' → cP s L tx σ' (pzM (pzS tx L) a l).1 co → Q σ' (some (vI (nI (pzM (pzS tx L) a l).2.toNat)))) → qm_Wp (qm_M d) qk_50 Q 2 [some (vR 28 s), some (vR 101 1), some (vI (nI j))] [] σ
  | [], j, a, σ, hp, hl, hj, h => by
    have hj2 : j = 5 := by
      have := List.drop_eq_nil_iff.mp hl
      simp only [List.length_cons, List.length_nil] at this
      omega
    subst hj2
    refine qm_go 3 (fun P hP => c_len1 (by omega) hp.2.1 (hP ?_))
    refine qm_go 1 (fun P hP => And.intro (fun _ => hP ?_) (fun q => absurd (by decide) q))
    exact qm_go 2 (fun P hP => And.intro rfl (h σ Fr.rf hp))
  | x :: l, j, a, σ, hp, hl, hj, h => by
    obtain ⟨q1, q2, q3⟩ := ix_step hl
    obtain ⟨e1, e2, e3⟩ := sE_1 hp.2.1 j x q1
    refine qm_go 3 (fun P hP => c_len1 (by omega) hp.2.1 (hP ?_))
    refine qm_go 1 (fun P hP => And.intro (fun q => absurd q (nI_ge e3 (by decide))) (fun _ => hP ?_))
    unfold pzM at h
    by_cases ha : a < L
    · obtain ⟨g1, g2⟩ := hp.sg ha
      refine qm_go 5 (fun P hP => And.intro (fun c => absurd c (hp.ge ha)) (fun _ => hP ?_))
      refine qm_go 5 (fun P hP => Exists.intro (a) (And.intro (And.intro (hp.at_) (Nat.lt_of_lt_of_le ha hp.le.2.1)) (hP ?_)))
      rw [g1]
      refine qm_go 3 (fun P hP => c_chr1 (by omega) hp.2.1 q1 (hP ?_))
      by_cases e : pzS tx L a = x
      · rw [if_pos e] at h
        refine qm_go 1 (fun P hP => And.intro (fun _ => hP ?_) (fun z => absurd (by rw [e]) z))
        refine qm_go 6 (fun P hP => hP ?_)
        generalize hσ : wF _ 28 s (upd _ 10 _) = σ2
        have hp2 : cP s L tx σ2 (a + 1) co := by rw [← hσ]; exact hp.at1 ha
        have F2 : Fr (tP s) σ σ2 := by rw [← hσ]; exact hp.F
        refine qm_go 2 (fun P hP => hP ?_)
        rw [nI_1]
        exact c_fsl1 hd l (j + 1) (a + 1) σ2 hp2 q2 (by omega) (fun σ3 F3 hp3 => h σ3 (F2.tr F3) hp3)
      · rw [if_neg e] at h
        refine qm_go 1 (fun P hP => And.intro (fun z => absurd ((nI_eq (by omega) (by omega)).mp z) e) (fun _ => hP ?_))
        exact qm_go 2 (fun P hP => And.intro rfl (h σ Fr.rf hp))
    · rw [if_neg (by rw [pzS_end ha]; omega)] at h
      refine qm_go 5 (fun P hP => And.intro (fun _ => hP ?_) (fun c => absurd (hp.gt ha) c))
      exact qm_go 2 (fun P hP => And.intro rfl (h σ Fr.rf hp))
theorem c_fs1 {d : Nat} (hd : 5 ≤ d) {σ : qm_Sg} {Q : qm_Po} {s L : Nat} {tx : Nat → Nat} {a : Nat} {co : List Nat} (hp : cP s L tx σ a co) (h0 : ∀ σ' b, pzM (pzS tx L) a [108, 97, 116, 101, 32] = (b, false) → Fr (tP s) σ σ' → cP s L tx σ' b co → Q σ' (some (vI 0))) (h1 : ∀ σ' b, pzM (pzS tx L) a [108, 97, 116, 101, 32] = (b, true) → Fr (tP s) σ σ' → cP s L tx σ' b co → Q σ' (some (vI 1))) : qm_M d 50 [vR 28 s, vR 101 1] σ Q := by
  obtain ⟨d, rfl, hd⟩ := qm_dn hd
  show qm_Wp (qm_M d) qk_50 Q 0 [some (vR 28 s), some (vR 101 1), none] [] σ
  refine qm_go 2 (fun P hP => hP ?_)
  refine c_fsl1 (by omega) [108, 97, 116, 101, 32] 0 a σ hp rfl (by omega) (fun σ2 F2 hp2 => ?_)
  revert h0 h1 hp2
  generalize pzM (pzS tx L) a [108, 97, 116, 101, 32] = r
  obtain ⟨b, c⟩ := r
  intro h0 h1 hp2
  cases c with
  | false => exact h0 σ2 b rfl F2 hp2
  | true => exact h1 σ2 b rfl F2 hp2
theorem c_fsl2 {d : Nat} (hd : 4 ≤ d) {Q : qm_Po} {s L : Nat} {tx : Nat → Nat} {co : List Nat} : ∀ (l : List Nat) (j a : Nat) (σ : qm_Sg), cP s L tx σ a co → ([98, 101, 97, 114, 32] : List Nat).drop j = l → j ≤ 5 → (∀ σ', Fr (tP s) σ σ' → cP s L tx σ' (pzM (pzS tx L) a l).1 co → Q σ' (some (vI (nI (pzM (pzS tx L) a l).2.toNat)))) → qm_Wp (qm_M d) qk_50 Q 2 [some (vR 28 s), some (vR 101 2), some (vI (nI j))] [] σ
  | [], j, a, σ, hp, hl, hj, h => by
    have hj2 : j = 5 := by
      have := List.drop_eq_nil_iff.mp hl
      simp only [List.length_cons, List.length_nil] at this
      omega
    subst hj2
    refine qm_go 3 (fun P hP => c_len2 (by omega) hp.2.1 (hP ?_))
    refine qm_go 1 (fun P hP => And.intro (fun _ => hP ?_) (fun q => absurd (by decide) q))
    exact qm_go 2 (fun P hP => And.intro rfl (h σ Fr.rf hp))
  | x :: l, j, a, σ, hp, hl, hj, h => by
    obtain ⟨q1, q2, q3⟩ := ix_step hl
    obtain ⟨e1, e2, e3⟩ := sE_2 hp.2.1 j x q1
    refine qm_go 3 (fun P hP => c_len2 (by omega) hp.2.1 (hP ?_))
    refine qm_go 1 (fun P hP => And.intro (fun q => absurd q (nI_ge e3 (by decide))) (fun _ => hP ?_))
    unfold pzM at h
    by_cases ha : a < L
    · obtain ⟨g1, g2⟩ := hp.sg ha
      refine qm_go 5 (fun P hP => And.intro (fun c => absurd c (hp.ge ha)) (fun _ => hP ?_))
      refine qm_go 5 (fun P hP => Exists.intro (a) (And.intro (And.intro (hp.at_) (Nat.lt_of_lt_of_le ha hp.le.2.1)) (hP ?_)))
      rw [g1]
      refine qm_go 3 (fun P hP => c_chr2 (by omega) hp.2.1 q1 (hP ?_))
      by_cases e : pzS tx L a = x
      · rw [if_pos e] at h
        refine qm_go 1 (fun P hP => And.intro (fun _ => hP ?_) (fun z => absurd (by rw [e]) z))
        refine qm_go 6 (fun P hP => hP ?_)
        generalize hσ : wF _ 28 s (upd _ 10 _) = σ2
        have hp2 : cP s L tx σ2 (a + 1) co := by rw [← hσ]; exact hp.at1 ha
        have F2 : Fr (tP s) σ σ2 := by rw [← hσ]; exact hp.F
        refine qm_go 2 (fun P hP => hP ?_)
        rw [nI_1]
        exact c_fsl2 hd l (j + 1) (a + 1) σ2 hp2 q2 (by omega) (fun σ3 F3 hp3 => h σ3 (F2.tr F3) hp3)
      · rw [if_neg e] at h
        refine qm_go 1 (fun P hP => And.intro (fun z => absurd ((nI_eq (by omega) (by omega)).mp z) e) (fun _ => hP ?_))
        exact qm_go 2 (fun P hP => And.intro rfl (h σ Fr.rf hp))
    · rw [if_neg (by rw [pzS_end ha]; omega)] at h
      refine qm_go 5 (fun P hP => And.intro (fun _ => hP ?_) (fun c => absurd (hp.gt ha) c))
      exact qm_go 2 (fun P hP => And.intro rfl (h σ Fr.rf hp))
theorem c_fs2 {d : Nat} (hd : 5 ≤ d) {σ : qm_Sg} {Q : qm_Po} {s L : Nat} {tx : Nat → Nat} {a : Nat} {co : List Nat} (hp : cP s L tx σ a co) (h0 : ∀ σ' b, pzM (pzS tx L) a [98, 101, 97, 114, 32] = (b, false) → Fr (tP s) σ σ' → cP s L tx σ' b co → Q σ' (some (vI 0))) (h1 : ∀ σ' b, pzM (pzS tx L) a [98, 101, 97, 114, 32] = (b, true) → Fr (tP s) σ σ' → cP s L tx σ' b co → Q σ' (some (vI 1))) : qm_M d 50 [vR 28 s, vR 101 2] σ Q := by
  obtain ⟨d, rfl, hd⟩ := qm_dn hd
  show qm_Wp (qm_M d) qk_50 Q 0 [some (vR 28 s), some (vR 101 2), none] [] σ
  refine qm_go 2 (fun P hP => hP ?_)
  refine c_fsl2 (by omega) [98, 101, 97, 114, 32] 0 a σ hp rfl (by omega) (fun σ2 F2 hp2 => ?_)
  revert h0 h1 hp2
  generalize pzM (pzS tx L) a [98, 101, 97, 114, 32] = r
  obtain ⟨b, c⟩ := r
  intro h0 h1 hp2
  cases c with
  | false => exact h0 σ2 b rfl F2 hp2
  | true => exact h1 σ2 b rfl F2 hp2
theorem c_fsl3 {d : Nat} (hd : 4 ≤ d) {Q : qm_Po} {s L : Nat} {tx : Nat → Nat} {co : List Nat} : ∀ (l : List Nat) (j a : Nat) (σ : qm_Sg), cP s L tx σ a co → ([115, 111, 111, 110, 32] : List Nat).drop j = l → j ≤ 5 → (∀ σ', Fr (tP s) σ σ' → cP s L tx σ' (pzM (pzS tx L) a l).1 co → Q σ' (some (vI (nI (pzM (pzS tx L) a l).2.toNat)))) → qm_Wp (qm_M d) qk_50 Q 2 [some (vR 28 s), some (vR 101 3), some (vI (nI j))] [] σ
  | [], j, a, σ, hp, hl, hj, h => by
    have hj2 : j = 5 := by
      have := List.drop_eq_nil_iff.mp hl
      simp only [List.length_cons, List.length_nil] at this
      omega
    subst hj2
    refine qm_go 3 (fun P hP => c_len3 (by omega) hp.2.1 (hP ?_))
    refine qm_go 1 (fun P hP => And.intro (fun _ => hP ?_) (fun q => absurd (by decide) q))
    exact qm_go 2 (fun P hP => And.intro rfl (h σ Fr.rf hp))
  | x :: l, j, a, σ, hp, hl, hj, h => by
    obtain ⟨q1, q2, q3⟩ := ix_step hl
    obtain ⟨e1, e2, e3⟩ := sE_3 hp.2.1 j x q1
    refine qm_go 3 (fun P hP => c_len3 (by omega) hp.2.1 (hP ?_))
    refine qm_go 1 (fun P hP => And.intro (fun q => absurd q (nI_ge e3 (by decide))) (fun _ => hP ?_))
    unfold pzM at h
    by_cases ha : a < L
    · obtain ⟨g1, g2⟩ := hp.sg ha
      refine qm_go 5 (fun P hP => And.intro (fun c => absurd c (hp.ge ha)) (fun _ => hP ?_))
      refine qm_go 5 (fun P hP => Exists.intro (a) (And.intro (And.intro (hp.at_) (Nat.lt_of_lt_of_le ha hp.le.2.1)) (hP ?_)))
      rw [g1]
      refine qm_go 3 (fun P hP => c_chr3 (by omega) hp.2.1 q1 (hP ?_))
      by_cases e : pzS tx L a = x
      · rw [if_pos e] at h
        refine qm_go 1 (fun P hP => And.intro (fun _ => hP ?_) (fun z => absurd (by rw [e]) z))
        refine qm_go 6 (fun P hP => hP ?_)
        generalize hσ : wF _ 28 s (upd _ 10 _) = σ2
        have hp2 : cP s L tx σ2 (a + 1) co := by rw [← hσ]; exact hp.at1 ha
        have F2 : Fr (tP s) σ σ2 := by rw [← hσ]; exact hp.F
        refine qm_go 2 (fun P hP => hP ?_)
        rw [nI_1]
        exact c_fsl3 hd l (j + 1) (a + 1) σ2 hp2 q2 (by omega) (fun σ3 F3 hp3 => h σ3 (F2.tr F3) hp3)
      · rw [if_neg e] at h
        refine qm_go 1 (fun P hP => And.intro (fun z => absurd ((nI_eq (by omega) (by omega)).mp z) e) (fun _ => hP ?_))
        exact qm_go 2 (fun P hP => And.intro rfl (h σ Fr.rf hp))
    · rw [if_neg (by rw [pzS_end ha]; omega)] at h
      refine qm_go 5 (fun P hP => And.intro (fun _ => hP ?_) (fun c => absurd (hp.gt ha) c))
      exact qm_go 2 (fun P hP => And.intro rfl (h σ Fr.rf hp))
theorem c_fs3 {d : Nat} (hd : 5 ≤ d) {σ : qm_Sg} {Q : qm_Po} {s L : Nat} {tx : Nat → Nat} {a : Nat} {co : List Nat} (hp : cP s L tx σ a co) (h0 : ∀ σ' b, pzM (pzS tx L) a [115, 111, 111, 110, 32] = (b, false) → Fr (tP s) σ σ' → cP s L tx σ' b co → Q σ' (some (vI 0))) (h1 : ∀ σ' b, pzM (pzS tx L) a [115, 111, 111, 110, 32] = (b, true) → Fr (tP s) σ σ' → cP s L tx σ' b co → Q σ' (some (vI 1))) : qm_M d 50 [vR 28 s, vR 101 3] σ Q := by
  obtain ⟨d, rfl, hd⟩ := qm_dn hd
  show qm_Wp (qm_M d) qk_50 Q 0 [some (vR 28 s), some (vR 101 3), none] [] σ
  refine qm_go 2 (fun P hP => hP ?_)
  refine c_fsl3 (by omega) [115, 111, 111, 110, 32] 0 a σ hp rfl (by omega) (fun σ2 F2 hp2 => ?_)
  revert h0 h1 hp2
  generalize pzM (pzS tx L) a [115, 111, 111, 110, 32] = r
  obtain ⟨b, c⟩ := r
  intro h0 h1 hp2
  cases c with
  | false => exact h0 σ2 b rfl F2 hp2
  | true => exact h1 σ2 b rfl F2 hp2
theorem c_fsl4 {d : Nat} (hd : 4 ≤ d) {Q : qm_Po} {s L : Nat} {tx : Nat → Nat} {co : List Nat} : ∀ (l : List Nat) (j a : Nat) (σ : qm_Sg), cP s L tx σ a co → ([32] : List Nat).drop j = l → j ≤ 1 → (∀ σ', Fr (tP s) σ σ' → cP s L tx σ' (pzM (pzS tx L) a l).1 co → Q σ' (some (vI (nI (pzM (pzS tx L) a l).2.toNat)))) → qm_Wp (qm_M d) qk_50 Q 2 [some (vR 28 s), some (vR 101 4), some (vI (nI j))] [] σ
  | [], j, a, σ, hp, hl, hj, h => by
    have hj2 : j = 1 := by
      have := List.drop_eq_nil_iff.mp hl
      simp only [List.length_cons, List.length_nil] at this
      omega
    subst hj2
    refine qm_go 3 (fun P hP => c_len4 (by omega) hp.2.1 (hP ?_))
    refine qm_go 1 (fun P hP => And.intro (fun _ => hP ?_) (fun q => absurd (by decide) q))
    exact qm_go 2 (fun P hP => And.intro rfl (h σ Fr.rf hp))
  | x :: l, j, a, σ, hp, hl, hj, h => by
    obtain ⟨q1, q2, q3⟩ := ix_step hl
    obtain ⟨e1, e2, e3⟩ := sE_4 hp.2.1 j x q1
    refine qm_go 3 (fun P hP => c_len4 (by omega) hp.2.1 (hP ?_))
    refine qm_go 1 (fun P hP => And.intro (fun q => absurd q (nI_ge e3 (by decide))) (fun _ => hP ?_))
    unfold pzM at h
    by_cases ha : a < L
    · obtain ⟨g1, g2⟩ := hp.sg ha
      refine qm_go 5 (fun P hP => And.intro (fun c => absurd c (hp.ge ha)) (fun _ => hP ?_))
      refine qm_go 5 (fun P hP => Exists.intro (a) (And.intro (And.intro (hp.at_) (Nat.lt_of_lt_of_le ha hp.le.2.1)) (hP ?_)))
      rw [g1]
      refine qm_go 3 (fun P hP => c_chr4 (by omega) hp.2.1 q1 (hP ?_))
      by_cases e : pzS tx L a = x
      · rw [if_pos e] at h
        refine qm_go 1 (fun P hP => And.intro (fun _ => hP ?_) (fun z => absurd (by rw [e]) z))
        refine qm_go 6 (fun P hP => hP ?_)
        generalize hσ : wF _ 28 s (upd _ 10 _) = σ2
        have hp2 : cP s L tx σ2 (a + 1) co := by rw [← hσ]; exact hp.at1 ha
        have F2 : Fr (tP s) σ σ2 := by rw [← hσ]; exact hp.F
        refine qm_go 2 (fun P hP => hP ?_)
        rw [nI_1]
        exact c_fsl4 hd l (j + 1) (a + 1) σ2 hp2 q2 (by omega) (fun σ3 F3 hp3 => h σ3 (F2.tr F3) hp3)
      · rw [if_neg e] at h
        refine qm_go 1 (fun P hP => And.intro (fun z => absurd ((nI_eq (by omega) (by omega)).mp z) e) (fun _ => hP ?_))
        exact qm_go 2 (fun P hP => And.intro rfl (h σ Fr.rf hp))
    · rw [if_neg (by rw [pzS_end ha]; omega)] at h
      refine qm_go 5 (fun P hP => And.intro (fun _ => hP ?_) (fun c => absurd (hp.gt ha) c))
      exact qm_go 2 (fun P hP => And.intro rfl (h σ Fr.rf hp))
theorem c_fs4 {d : Nat} (hd : 5 ≤ d) {σ : qm_Sg} {Q : qm_Po} {s L : Nat} {tx : Nat → Nat} {a : Nat} {co : List Nat} (hp : cP s L tx σ a co) (h0 : ∀ σ' b, pzM (pzS tx L) a [32] = (b, false) → Fr (tP s) σ σ' → cP s L tx σ' b co → Q σ' (some (vI 0))) (h1 : ∀ σ' b, pzM (pzS tx L) a [32] = (b, true) → Fr (tP s) σ σ' → cP s L tx σ' b co → Q σ' (some (vI 1))) : qm_M d 50 [vR 28 s, vR 101 4] σ Q := by
  obtain ⟨d, rfl, hd⟩ := qm_dn hd
  show qm_Wp (qm_M d) qk_50 Q 0 [some (vR 28 s), some (vR 101 4), none] [] σ
  refine qm_go 2 (fun P hP => hP ?_)
  refine c_fsl4 (by omega) [32] 0 a σ hp rfl (by omega) (fun σ2 F2 hp2 => ?_)
  revert h0 h1 hp2
  generalize pzM (pzS tx L) a [32] = r
  obtain ⟨b, c⟩ := r
  intro h0 h1 hp2
  cases c with
  | false => exact h0 σ2 b rfl F2 hp2
  | true => exact h1 σ2 b rfl F2 hp2
theorem c_fsl7 {d : Nat} (hd : 4 ≤ d) {Q : qm_Po} {s L : Nat} {tx : Nat → Nat} {co : List Nat} : ∀ (l : List Nat) (j a : Nat) (σ : qm_Sg), cP s L tx σ a co → ([41] : List Nat).drop j = l → j ≤ 1 → (∀ σ', Fr (tP s) σ σ' → cP s L tx σ' (pzM (pzS tx L) a l).1 co → Q σ' (some (vI (nI (pzM (pzS tx L) a l).2.toNat)))) → qm_Wp (qm_M d) qk_50 Q 2 [some (vR 28 s), some (vR 101 7), some (vI (nI j))] [] σ
  | [], j, a, σ, hp, hl, hj, h => by
    have hj2 : j = 1 := by
      have := List.drop_eq_nil_iff.mp hl
      simp only [List.length_cons, List.length_nil] at this
      omega
    subst hj2
    refine qm_go 3 (fun P hP => c_len7 (by omega) hp.2.1 (hP ?_))
    refine qm_go 1 (fun P hP => And.intro (fun _ => hP ?_) (fun q => absurd (by decide) q))
    exact qm_go 2 (fun P hP => And.intro rfl (h σ Fr.rf hp))
  | x :: l, j, a, σ, hp, hl, hj, h => by
    obtain ⟨q1, q2, q3⟩ := ix_step hl
    obtain ⟨e1, e2, e3⟩ := sE_7 hp.2.1 j x q1
    refine qm_go 3 (fun P hP => c_len7 (by omega) hp.2.1 (hP ?_))
    refine qm_go 1 (fun P hP => And.intro (fun q => absurd q (nI_ge e3 (by decide))) (fun _ => hP ?_))
    unfold pzM at h
    by_cases ha : a < L
    · obtain ⟨g1, g2⟩ := hp.sg ha
      refine qm_go 5 (fun P hP => And.intro (fun c => absurd c (hp.ge ha)) (fun _ => hP ?_))
      refine qm_go 5 (fun P hP => Exists.intro (a) (And.intro (And.intro (hp.at_) (Nat.lt_of_lt_of_le ha hp.le.2.1)) (hP ?_)))
      rw [g1]
      refine qm_go 3 (fun P hP => c_chr7 (by omega) hp.2.1 q1 (hP ?_))
      by_cases e : pzS tx L a = x
      · rw [if_pos e] at h
        refine qm_go 1 (fun P hP => And.intro (fun _ => hP ?_) (fun z => absurd (by rw [e]) z))
        refine qm_go 6 (fun P hP => hP ?_)
        generalize hσ : wF _ 28 s (upd _ 10 _) = σ2
        have hp2 : cP s L tx σ2 (a + 1) co := by rw [← hσ]; exact hp.at1 ha
        have F2 : Fr (tP s) σ σ2 := by rw [← hσ]; exact hp.F
        refine qm_go 2 (fun P hP => hP ?_)
        rw [nI_1]
        exact c_fsl7 hd l (j + 1) (a + 1) σ2 hp2 q2 (by omega) (fun σ3 F3 hp3 => h σ3 (F2.tr F3) hp3)
      · rw [if_neg e] at h
        refine qm_go 1 (fun P hP => And.intro (fun z => absurd ((nI_eq (by omega) (by omega)).mp z) e) (fun _ => hP ?_))
        exact qm_go 2 (fun P hP => And.intro rfl (h σ Fr.rf hp))
    · rw [if_neg (by rw [pzS_end ha]; omega)] at h
      refine qm_go 5 (fun P hP => And.intro (fun _ => hP ?_) (fun c => absurd (hp.gt ha) c))
      exact qm_go 2 (fun P hP => And.intro rfl (h σ Fr.rf hp))
theorem c_fs7 {d : Nat} (hd : 5 ≤ d) {σ : qm_Sg} {Q : qm_Po} {s L : Nat} {tx : Nat → Nat} {a : Nat} {co : List Nat} (hp : cP s L tx σ a co) (h0 : ∀ σ' b, pzM (pzS tx L) a [41] = (b, false) → Fr (tP s) σ σ' → cP s L tx σ' b co → Q σ' (some (vI 0))) (h1 : ∀ σ' b, pzM (pzS tx L) a [41] = (b, true) → Fr (tP s) σ σ' → cP s L tx σ' b co → Q σ' (some (vI 1))) : qm_M d 50 [vR 28 s, vR 101 7] σ Q := by
  obtain ⟨d, rfl, hd⟩ := qm_dn hd
  show qm_Wp (qm_M d) qk_50 Q 0 [some (vR 28 s), some (vR 101 7), none] [] σ
  refine qm_go 2 (fun P hP => hP ?_)
  refine c_fsl7 (by omega) [41] 0 a σ hp rfl (by omega) (fun σ2 F2 hp2 => ?_)
  revert h0 h1 hp2
  generalize pzM (pzS tx L) a [41] = r
  obtain ⟨b, c⟩ := r
  intro h0 h1 hp2
  cases c with
  | false => exact h0 σ2 b rfl F2 hp2
  | true => exact h1 σ2 b rfl F2 hp2
theorem pzX_no {c : Nat} : ∀ (l : List Nat) (j : Nat), (∀ x ∈ l, x ≠ c) → pzX c l j = none
  | [], _, _ => rfl
  | x :: l, j, h => by
    unfold pzX
    rw [if_neg (h x List.mem_cons_self)]
    exact pzX_no l (j + 1) (fun y hy => h y (List.mem_cons_of_mem _ hy))
theorem pzX_lt {c r : Nat} : ∀ (l : List Nat) (j : Nat), pzX c l j = some r → r < j + l.length
  | [], _, h => by cases h
  | x :: l, j, h => by
    unfold pzX at h
    split at h
    · cases h; simp only [List.length_cons]; omega
    · have := pzX_lt l (j + 1) h
      simp only [List.length_cons]; omega
theorem pzX_i {c : Nat} {l : List Nat} (h : pzI (pzX c l 0) < 0) (hl : l.length < 100) : pzX c l 0 = none := by
  cases e : pzX c l 0 with
  | none => rfl
  | some r =>
    rw [e] at h
    have := pzX_lt l 0 e
    exact absurd h (nI_pos (by omega))
theorem pzX_s {c : Nat} {l : List Nat} (h : ¬ pzI (pzX c l 0) < 0) (hl : l.length < 100) : ∃ r, pzX c l 0 = some r ∧ r < l.length := by
  cases e : pzX c l 0 with
  | none => rw [e] at h; exact absurd (by decide) h
  | some r =>
    have := pzX_lt l 0 e
    exact ⟨r, rfl, by omega⟩
theorem tst_c {f y n : Nat} : (nI f * 3 + nI y) * 100 + nI n = cEn (3 + ((f * 3 + y) * 100 + n)) := by
  rw [show (3 : Int32) = nI 3 from rfl, pk_mul, nI_add, show (100 : Int32) = nI 100 from rfl, pk_mul, nI_add, Nat.add_comm 3]
  rfl
theorem c_test {d : Nat} (hd : 5 ≤ d) {σ : qm_Sg} {Q : qm_Po} {s L : Nat} {tx : Nat → Nat} {a : Nat} {co : List Nat} (hp : cP s L tx σ a co) (h0 : ∀ σ' b, pzT (pzS tx L) a = (b, none) → Fr (tP s) σ σ' → cP s L tx σ' b co → Q σ' (some (vI 0))) (h1 : ∀ σ' b t, pzT (pzS tx L) a = (b, some (t + 3)) → t < 1800 → a + 3 ≤ b → Fr (tP s) σ σ' → cP s L tx σ' b (co ++ [t + 3]) → Q σ' (some (vI 1))) : qm_M d 55 [vR 28 s] σ Q := by
  obtain ⟨d, rfl, hd⟩ := qm_dn hd
  show qm_Wp (qm_M d) qk_55 Q 0 [some (vR 28 s), none, none, none] [] σ
  unfold pzT at h0 h1
  by_cases ha : a < L
  · obtain ⟨g1, g2⟩ := hp.sg ha
    refine qm_go 5 (fun P hP => And.intro (fun c => absurd c (hp.ge ha)) (fun _ => hP ?_))
    refine qm_go 6 (fun P hP => Exists.intro (a) (And.intro (And.intro (hp.at_) (Nat.lt_of_lt_of_le ha hp.le.2.1)) (hP ?_)))
    rw [g1]
    refine qm_go 1 (fun P hP => hP ?_)
    rw [chr_c _ g2]
    refine qm_go 1 (fun P hP => c_ix5 (by omega) hp.2.1 g2 (hP ?_))
    refine qm_go 4 (fun P hP => And.intro (fun c => hP ?_) (fun c => hP ?_))
    · obtain ⟨f, hf, hf6⟩ := pzX_s (i_nlt c) (by decide)
      rw [hf] at h0 h1 ⊢
      refine qm_go 6 (fun P hP => hP ?_)
      generalize hσ2 : wF _ 28 s (upd _ 10 _) = σ2
      have hp2 : cP s L tx σ2 (a + 1) co := by rw [← hσ2]; exact hp.at1 ha
      have F2 : Fr (tP s) σ σ2 := by rw [← hσ2]; exact hp.F
      by_cases ha2 : a + 1 < L
      · obtain ⟨k1, k2⟩ := hp2.sg ha2
        refine qm_go 5 (fun P hP => And.intro (fun c => absurd c (hp2.ge ha2)) (fun _ => hP ?_))
        refine qm_go 6 (fun P hP => Exists.intro (a + 1) (And.intro (And.intro (hp2.at_) (Nat.lt_of_lt_of_le ha2 hp2.le.2.1)) (hP ?_)))
        rw [k1]
        refine qm_go 1 (fun P hP => hP ?_)
        rw [chr_c _ k2]
        refine qm_go 1 (fun P hP => c_ix6 (by omega) hp2.2.1 k2 (hP ?_))
        refine qm_go 4 (fun P hP => And.intro (fun c2 => hP ?_) (fun c2 => hP ?_))
        · obtain ⟨y, hy, hy3⟩ := pzX_s (i_nlt c2) (by decide)
          rw [hy] at h0 h1 ⊢
          refine qm_go 6 (fun P hP => hP ?_)
          generalize hσ3 : wF _ 28 s (upd _ 10 _) = σ3
          have hp3 : cP s L tx σ3 (a + 1 + 1) co := by rw [← hσ3]; exact hp2.at1 ha2
          have F3 : Fr (tP s) σ2 σ3 := by rw [← hσ3]; exact hp2.F
          refine qm_go 2 (fun P hP => c_number (by omega) hp3 (fun hn => hP ?_) (fun σ4 n b hn n1 n2 F4 hp4 => hP ?_))
          · refine qm_go 4 (fun P hP => And.intro (fun c3 => absurd rfl c3) (fun _ => hP ?_))
            have hn : pzN (pzS tx L) (a + 2) = none := hn
            rw [hn] at h0
            exact qm_go 2 (fun P hP => And.intro rfl (h0 σ3 _ rfl (F2.tr F3) hp3))
          · refine qm_go 4 (fun P hP => And.intro (fun _ => hP ?_) (fun c3 => absurd c3 (dg_4 (by omega))))
            have hn : pzN (pzS tx L) (a + 2) = some (n, b) := hn
            rw [hn] at h1
            have hl4 := hp.le
            have e9 : 3 + ((f * 3 + y) * 100 + n) = (f * 3 + y) * 100 + n + 3 := by omega
            refine qm_go 10 (fun P hP => hP ?_)
            simp only [List.length_cons, List.length_nil] at hf6 hy3
            rw [show (pzI (some f) * 3 + pzI (some y)) * 100 + nI n = cEn (3 + ((f * 3 + y) * 100 + n)) from tst_c]
            refine qm_go 1 (fun P hP => c_writes (by omega) hp4 (by omega) (fun σ5 F5 hp5 => hP ?_))
            rw [e9] at hp5
            have e8 : (b, some (3 + ((f * 3 + y) * 100 + n))) = (b, some ((f * 3 + y) * 100 + n + 3)) := by rw [e9]
            exact qm_go 2 (fun P hP => And.intro rfl (h1 σ5 b _ e8 (by omega) (by omega) (((F2.tr F3).tr F4).tr F5) hp5))
        · have hy := pzX_i (i_lt_of c2) (by decide)
          rw [hy] at h0
          exact qm_go 2 (fun P hP => And.intro rfl (h0 σ2 _ rfl F2 hp2))
      · rw [pzX_no (c := pzS tx L (a + 1)) [60, 61, 62] 0 (fun x hx => by rw [pzS_end ha2]; simp only [List.mem_cons, List.not_mem_nil, or_false] at hx; omega)] at h0
        refine qm_go 5 (fun P hP => And.intro (fun _ => hP ?_) (fun c => absurd (hp2.gt ha2) c))
        refine qm_go 4 (fun P hP => And.intro (fun c => absurd c (by decide)) (fun _ => hP ?_))
        exact qm_go 2 (fun P hP => And.intro rfl (h0 σ2 _ rfl F2 hp2))
    · have hf := pzX_i (i_lt_of c) (by decide)
      rw [hf] at h0
      exact qm_go 2 (fun P hP => And.intro rfl (h0 σ _ rfl Fr.rf hp))
  · rw [pzX_no (c := pzS tx L a) [112, 107, 118, 111, 108, 109] 0 (fun x hx => by rw [pzS_end ha]; simp only [List.mem_cons, List.not_mem_nil, or_false] at hx; omega)] at h0
    refine qm_go 5 (fun P hP => And.intro (fun _ => hP ?_) (fun c => absurd (hp.gt ha) c))
    refine qm_go 4 (fun P hP => And.intro (fun c => absurd c (by decide)) (fun _ => hP ?_))
    exact qm_go 2 (fun P hP => And.intro rfl (h0 σ _ rfl Fr.rf hp))
