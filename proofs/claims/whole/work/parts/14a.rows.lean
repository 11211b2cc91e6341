theorem byt_a : ∀ c, c < 128 → vp_nar .byte (nI c).toInt8.toInt32 = nI c := by decide +kernel
theorem inR_neg {s : Int32} {n : Nat} (hn : n < 2 ^ 31) (h : inR s n) : ¬ s = -1 := by
  obtain ⟨p, hp, rfl⟩ := h
  exact dg_4 (by omega)
abbrev B9 : Type := List (Nat × Int32)
def cBook (σ : qm_Sg) (B : B9) : Prop := σ.1 24 0 1 = nI B.length ∧ B.length ≤ 8 ∧ ∀ (i : Nat) (q : Nat × Int32), B[i]? = some q → σ.1 25 0 i = nI q.1 ∧ σ.1 26 0 i = q.2
def mBook (σ : qm_Sg) (B : B9) : Prop := σ.1 50 0 37 = nI B.length ∧ B.length ≤ 8 ∧ ∀ (i : Nat) (q : Nat × Int32), B[i]? = some q → σ.1 73 0 i = nI q.1 ∧ σ.1 74 0 i = q.2
theorem cBook.fg {T : Nat → Nat → Nat → Prop} {σ σ' : qm_Sg} {B : B9} (h : cBook σ B) (hF : Fr T σ σ') (hT : ∀ t i j, i = 0 → 24 ≤ t → t ≤ 26 → ¬ T t i j) : cBook σ' B := by
  obtain ⟨h1, h2, h3⟩ := h
  exact ⟨by rw [hF.1 _ _ _ (hT _ _ _ rfl (by omega) (by omega))]; exact h1, h2, fun i q hq => by rw [hF.1 _ _ _ (hT _ _ _ rfl (by omega) (by omega)), hF.1 _ _ _ (hT _ _ _ rfl (by omega) (by omega))]; exact h3 i q hq⟩
theorem mBook.fg {T : Nat → Nat → Nat → Prop} {σ σ' : qm_Sg} {B : B9} (h : mBook σ B) (hF : Fr T σ σ') (hT : ∀ t i j, ((t = 50 ∧ j = 37) ∨ t = 73 ∨ t = 74) → ¬ T t i j) : mBook σ' B := by
  obtain ⟨h1, h2, h3⟩ := h
  exact ⟨by rw [hF.1 _ _ _ (hT _ _ _ (by omega))]; exact h1, h2, fun i q hq => by rw [hF.1 _ _ _ (hT _ _ _ (by omega)), hF.1 _ _ _ (hT _ _ _ (by omega))]; exact h3 i q hq⟩
def wfB (n : Nat) (B : B9) : Prop := ∀ q ∈ B, q.1 < n
def slV (c l : Nat) : Int32 := if c = 9 then 0 else if c = 0 then nI (l + 1) else -nI c
def seeC (A : AS) (R : R9) (s n m : Int32) : Nat := if s = -1 then 9 else if inP s A.1 then (if inP n 13 ∧ inP m 100 then (if R.length = 5 then 4 else 0) else 2) else 1
def seeR (A : AS) (R : R9) (s n m : Int32) : R9 := if seeC A R s n m = 9 then [] else if seeC A R s n m = 0 then R ++ [(tN s, tN n, m)] else R
def planC (A : AS) (R : P9) (s n : Int32) : Nat := if s = -1 then 9 else if inP s 4 ∧ (s = 0 ∨ inP n A.1) then (if R.length = 10 then 4 else 0) else 1
def planR (A : AS) (R : P9) (s n : Int32) : P9 := if planC A R s n = 9 then [] else if planC A R s n = 0 then R ++ [(tN s, if s = 0 then 0 else tN n)] else R
def bookC (A : AS) (R : B9) (s n : Int32) : Nat := if s = -1 then 9 else if inP s A.1 then (if inP n 10000 then (if R.length = 8 then 4 else 0) else 2) else 1
def bookR (A : AS) (R : B9) (s n : Int32) : B9 := if bookC A R s n = 9 then [] else if bookC A R s n = 0 then R ++ [(tN s, n)] else R
theorem see_9 {A : AS} {R : R9} {s n m : Int32} (h : s = -1) : slV (seeC A R s n m) R.length = 0 ∧ seeR A R s n m = [] := by
  have e : seeC A R s n m = 9 := if_pos h
  unfold seeR
  rw [e]
  exact ⟨rfl, rfl⟩
theorem see_c {A : AS} {R : R9} {s n m : Int32} {c : Nat} (h : seeC A R s n m = c) (h9 : c ≠ 9) (h0 : c ≠ 0) : slV (seeC A R s n m) R.length = -nI c ∧ seeR A R s n m = R := by
  unfold seeR slV
  rw [h, if_neg h9, if_neg h0, if_neg h9, if_neg h0]
  exact ⟨rfl, rfl⟩
theorem see_0 {A : AS} {R : R9} {s n m : Int32} (h : seeC A R s n m = 0) : slV (seeC A R s n m) R.length = nI (R.length + 1) ∧ seeR A R s n m = R ++ [(tN s, tN n, m)] := by
  unfold seeR slV
  rw [h, if_neg (by decide), if_pos rfl, if_neg (by decide), if_pos rfl]
  exact ⟨rfl, rfl⟩
theorem plan_9 {A : AS} {R : P9} {s n : Int32} (h : s = -1) : slV (planC A R s n) R.length = 0 ∧ planR A R s n = [] := by
  have e : planC A R s n = 9 := if_pos h
  unfold planR
  rw [e]
  exact ⟨rfl, rfl⟩
theorem plan_c {A : AS} {R : P9} {s n : Int32} {c : Nat} (h : planC A R s n = c) (h9 : c ≠ 9) (h0 : c ≠ 0) : slV (planC A R s n) R.length = -nI c ∧ planR A R s n = R := by
  unfold planR slV
  rw [h, if_neg h9, if_neg h0, if_neg h9, if_neg h0]
  exact ⟨rfl, rfl⟩
theorem plan_0 {A : AS} {R : P9} {s n : Int32} (h : planC A R s n = 0) : slV (planC A R s n) R.length = nI (R.length + 1) ∧ planR A R s n = R ++ [(tN s, if s = 0 then 0 else tN n)] := by
  unfold planR slV
  rw [h, if_neg (by decide), if_pos rfl, if_neg (by decide), if_pos rfl]
  exact ⟨rfl, rfl⟩
theorem book_9 {A : AS} {R : B9} {s n : Int32} (h : s = -1) : slV (bookC A R s n) R.length = 0 ∧ bookR A R s n = [] := by
  have e : bookC A R s n = 9 := if_pos h
  unfold bookR
  rw [e]
  exact ⟨rfl, rfl⟩
theorem book_c {A : AS} {R : B9} {s n : Int32} {c : Nat} (h : bookC A R s n = c) (h9 : c ≠ 9) (h0 : c ≠ 0) : slV (bookC A R s n) R.length = -nI c ∧ bookR A R s n = R := by
  unfold bookR slV
  rw [h, if_neg h9, if_neg h0, if_neg h9, if_neg h0]
  exact ⟨rfl, rfl⟩
theorem book_0 {A : AS} {R : B9} {s n : Int32} (h : bookC A R s n = 0) : slV (bookC A R s n) R.length = nI (R.length + 1) ∧ bookR A R s n = R ++ [(tN s, n)] := by
  unfold bookR slV
  rw [h, if_neg (by decide), if_pos rfl, if_neg (by decide), if_pos rfl]
  exact ⟨rfl, rfl⟩
theorem nil_seen {σ : qm_Sg} (h : σ.1 16 0 1 = 0) : cSeen σ [] := ⟨h, by decide, fun i q hq => by cases hq⟩
theorem nil_plan {σ : qm_Sg} (h : σ.1 20 0 1 = 0) : cPlan σ [] := ⟨h, by decide, fun i q hq => by cases hq⟩
theorem nil_book {σ : qm_Sg} (h : σ.1 24 0 1 = 0) : cBook σ [] := ⟨h, by decide, fun i q hq => by cases hq⟩
theorem c_see {d : Nat} (hd : 3 ≤ d) {σ : qm_Sg} {Q : qm_Po} {A : AS} {R : R9} {s n m : Int32} (hs : cS 0 σ A) (hr : cSeen σ R) (hm : σ.1 16 0 0 = 5) (h : ∀ σ', Fr (tSl 16) σ σ' → cSeen σ' (seeR A R s n m) → Q σ' (some (vI (slV (seeC A R s n m) R.length)))) : qm_M d 77 [vR 0 0, vI s, vI n, vI m] σ Q := by
  obtain ⟨d, rfl, hd⟩ := qm_dn hd
  show qm_Wp (qm_M d) qk_77 Q 0 [some (vR 0 0), some (vI s), some (vI n), some (vI m)] [] σ
  have h6 := hs.le
  by_cases e : s = -1
  · refine qm_go 3 (fun P hP => And.intro (fun z => absurd e z) (fun _ => hP ?_))
    have z := see_9 (A := A) (R := R) (n := n) (m := m) e
    rw [z.1, z.2] at h
    refine qm_go 4 (fun P hP => c_clears16 (by omega) (fun σ2 F2 e2 => hP ?_))
    exact qm_go 1 (fun P hP => h σ2 F2 (nil_seen e2))
  · refine qm_go 3 (fun P hP => And.intro (fun _ => hP ?_) (fun z => absurd z e))
    refine qm_go 4 (fun P hP => c_has (by omega) (Nat.lt_of_le_of_lt h6 (by decide)) hs.n (fun ch => hP ?_) (fun ch => hP ?_))
    · refine qm_go 1 (fun P hP => And.intro (fun _ => hP ?_) (fun z => absurd z (by decide)))
      have h1 : seeC A R s n m = (if inP n 13 ∧ inP m 100 then (if R.length = 5 then 4 else 0) else 2) := (if_neg e).trans (if_pos ch)
      have bad : ¬ (inR n 13 ∧ inR m 100) → qm_Wp (qm_M d) qk_77 Q 24 [some (vR 0 0), some (vI s), some (vI n), some (vI m)] [] σ := fun y => by
        have hc : seeC A R s n m = 2 := h1.trans (if_neg y)
        have z := see_c hc (by decide) (by decide)
        rw [z.1, z.2] at h
        exact qm_go 2 (fun P hP => h σ Fr.rf hr)
      refine qm_go 2 (fun P hP => And.intro (fun c => hP (bad (fun y => (inR_lt' (by decide) y.1).1 c))) (fun c => hP ?_))
      refine qm_go 3 (fun P hP => And.intro (fun c2 => hP (bad (fun y => (inR_lt' (n := 13) (by decide) y.1).2 c2))) (fun c2 => hP ?_))
      have hn : inR n 13 := inR_of' (n := 13) (by decide) c c2
      refine qm_go 3 (fun P hP => c_isWithin (n := 100) (by omega) (by decide) (fun cm => hP ?_) (fun cm => hP ?_))
      · refine qm_go 1 (fun P hP => And.intro (fun _ => hP ?_) (fun z => absurd z (by decide)))
        have hcc := h1.trans (if_pos ⟨hn, cm⟩)
        obtain ⟨p, hp, rfl⟩ := ch
        obtain ⟨q, hq, rfl⟩ := hn
        refine qm_go 7 (fun P hP => c_adds16 (by omega) hm hr.1 hr.2.1 (fun e5 => hP ?_) (fun e5 σ2 F2 k1 k2 k3 k4 k5 => hP ?_))
        · have hc := hcc.trans (if_pos e5)
          have z := see_c hc (by decide) (by decide)
          rw [z.1, z.2] at h
          exact qm_go 1 (fun P hP => h σ Fr.rf hr)
        · have hc := hcc.trans (if_neg (show ¬ R.length = 5 by omega))
          have z := see_0 hc
          rw [z.1, z.2] at h
          refine qm_go 1 (fun P hP => h σ2 F2 ⟨by rw [k2, List.length_append]; rfl, by rw [List.length_append]; exact e5, l_app (P := fun i q => σ.1 17 0 i = nI q.1 ∧ σ.1 18 0 i = nI q.2.1 ∧ σ.1 19 0 i = q.2.2) hr.2.2 (fun i q hi w => ?_) ?_⟩)
          · have := k1 i (by omega)
            rw [this.1, this.2.1, this.2.2]
            exact w
          · rw [tN_nI (by omega), tN_nI (by omega)]
            exact ⟨k3, k4, k5⟩
      · refine qm_go 1 (fun P hP => And.intro (fun z => absurd rfl z) (fun _ => hP (bad (fun y => cm y.2))))
    · refine qm_go 1 (fun P hP => And.intro (fun z => absurd rfl z) (fun _ => hP ?_))
      have hc : seeC A R s n m = 1 := (if_neg e).trans (if_neg ch)
      have z := see_c hc (by decide) (by decide)
      rw [z.1, z.2] at h
      exact qm_go 2 (fun P hP => h σ Fr.rf hr)
theorem c_plan {d : Nat} (hd : 3 ≤ d) {σ : qm_Sg} {Q : qm_Po} {A : AS} {R : P9} {s n : Int32} (hs : cS 0 σ A) (hr : cPlan σ R) (hm : σ.1 20 0 0 = 10) (h : ∀ σ', Fr (tSl 20) σ σ' → cPlan σ' (planR A R s n) → Q σ' (some (vI (slV (planC A R s n) R.length)))) : qm_M d 81 [vR 0 0, vI s, vI n] σ Q := by
  obtain ⟨d, rfl, hd⟩ := qm_dn hd
  show qm_Wp (qm_M d) qk_81 Q 0 [some (vR 0 0), some (vI s), some (vI n)] [] σ
  have h6 := hs.le
  by_cases e : s = -1
  · refine qm_go 3 (fun P hP => And.intro (fun z => absurd e z) (fun _ => hP ?_))
    have z := plan_9 (A := A) (R := R) (n := n) e
    rw [z.1, z.2] at h
    refine qm_go 4 (fun P hP => c_clears20 (by omega) (fun σ2 F2 e2 => hP ?_))
    exact qm_go 1 (fun P hP => h σ2 F2 (nil_plan e2))
  · refine qm_go 3 (fun P hP => And.intro (fun _ => hP ?_) (fun z => absurd z e))
    have bad : ¬ (inR s 4 ∧ (s = 0 ∨ inR n A.1)) → qm_Wp (qm_M d) qk_81 Q 20 [some (vR 0 0), some (vI s), some (vI n)] [] σ := fun y => by
      have hc : planC A R s n = 1 := (if_neg e).trans (if_neg y)
      have z := plan_c hc (by decide) (by decide)
      rw [z.1, z.2] at h
      exact qm_go 2 (fun P hP => h σ Fr.rf hr)
    have good : inR s 4 → (s = 0 ∨ inR n A.1) → qm_Wp (qm_M d) qk_81 Q 22 [some (vR 0 0), some (vI s), some (vI n)] [] σ := fun y1 y2 => by
      have hcc : planC A R s n = (if R.length = 10 then 4 else 0) := (if_neg e).trans (if_pos ⟨y1, y2⟩)
      obtain ⟨p, hp, rfl⟩ := y1
      refine qm_go 7 (fun P hP => c_adds20 (by omega) hm hr.1 hr.2.1 (fun e5 => hP ?_) (fun e5 σ2 F2 k1 k2 k3 k4 k5 => hP ?_))
      · have hc := hcc.trans (if_pos e5)
        have z := plan_c hc (by decide) (by decide)
        rw [z.1, z.2] at h
        exact qm_go 1 (fun P hP => h σ Fr.rf hr)
      · have hc := hcc.trans (if_neg (show ¬ R.length = 10 by omega))
        have z := plan_0 hc
        rw [z.1, z.2] at h
        refine qm_go 1 (fun P hP => h σ2 F2 ⟨by rw [k2, List.length_append]; rfl, by rw [List.length_append]; exact e5, l_app (P := fun i q => σ.1 21 0 i = nI q.1 ∧ (q.1 ≠ 0 → σ.1 22 0 i = nI q.2)) hr.2.2 (fun i q hi w => ?_) ?_⟩)
        · have := k1 i (by omega)
          rw [this.1, this.2.1]
          exact w
        · rw [tN_nI (by omega)]
          refine ⟨k3, fun z => ?_⟩
          have z2 : ¬ nI p = 0 := fun y => z ((nI_eq (b := 0) (by omega) (by omega)).mp y)
          obtain ⟨q, hq, rfl⟩ := y2.resolve_left z2
          rw [k4]
          show nI q = nI (if nI p = 0 then 0 else tN (nI q))
          rw [if_neg z2, tN_nI (by omega)]
    refine qm_go 2 (fun P hP => And.intro (fun c => hP (bad (fun y => (inR_lt' (by decide) y.1).1 c))) (fun c => hP ?_))
    refine qm_go 3 (fun P hP => And.intro (fun c2 => hP (bad (fun y => (inR_lt' (n := 4) (by decide) y.1).2 c2))) (fun c2 => hP ?_))
    have hn : inR s 4 := inR_of' (n := 4) (by decide) c c2
    refine qm_go 2 (fun P hP => And.intro (fun c3 => hP (good hn (Or.inl c3))) (fun c3 => hP ?_))
    refine qm_go 4 (fun P hP => c_has (by omega) (Nat.lt_of_le_of_lt h6 (by decide)) hs.n (fun ch => hP ?_) (fun ch => hP ?_))
    · exact qm_go 1 (fun P hP => And.intro (fun _ => hP (good hn (Or.inr ch))) (fun z => absurd z (by decide)))
    · exact qm_go 1 (fun P hP => And.intro (fun z => absurd rfl z) (fun _ => hP (bad (fun y => y.2.elim c3 ch))))
theorem c_book {d : Nat} (hd : 3 ≤ d) {σ : qm_Sg} {Q : qm_Po} {A : AS} {R : B9} {s n : Int32} (hs : cS 0 σ A) (hr : cBook σ R) (hm : σ.1 24 0 0 = 8) (h : ∀ σ', Fr (tSl 24) σ σ' → cBook σ' (bookR A R s n) → Q σ' (some (vI (slV (bookC A R s n) R.length)))) : qm_M d 83 [vR 0 0, vI s, vI n] σ Q := by
  obtain ⟨d, rfl, hd⟩ := qm_dn hd
  show qm_Wp (qm_M d) qk_83 Q 0 [some (vR 0 0), some (vI s), some (vI n)] [] σ
  have h6 := hs.le
  by_cases e : s = -1
  · refine qm_go 3 (fun P hP => And.intro (fun z => absurd e z) (fun _ => hP ?_))
    have z := book_9 (A := A) (R := R) (n := n) e
    rw [z.1, z.2] at h
    refine qm_go 4 (fun P hP => c_clears24 (by omega) (fun σ2 F2 e2 => hP ?_))
    exact qm_go 1 (fun P hP => h σ2 F2 (nil_book e2))
  · refine qm_go 3 (fun P hP => And.intro (fun _ => hP ?_) (fun z => absurd z e))
    refine qm_go 4 (fun P hP => c_has (by omega) (Nat.lt_of_le_of_lt h6 (by decide)) hs.n (fun ch => hP ?_) (fun ch => hP ?_))
    · refine qm_go 1 (fun P hP => And.intro (fun _ => hP ?_) (fun z => absurd z (by decide)))
      have h1 : bookC A R s n = (if inP n 10000 then (if R.length = 8 then 4 else 0) else 2) := (if_neg e).trans (if_pos ch)
      refine qm_go 2 (fun P hP => c_isAmount (by omega) (fun cm => hP ?_) (fun cm => hP ?_))
      · refine qm_go 1 (fun P hP => And.intro (fun _ => hP ?_) (fun z => absurd z (by decide)))
        have hcc := h1.trans (if_pos cm)
        obtain ⟨p, hp, rfl⟩ := ch
        refine qm_go 7 (fun P hP => c_adds24 (by omega) hm hr.1 hr.2.1 (fun e5 => hP ?_) (fun e5 σ2 F2 k1 k2 k3 k4 k5 => hP ?_))
        · have hc := hcc.trans (if_pos e5)
          have z := book_c hc (by decide) (by decide)
          rw [z.1, z.2] at h
          exact qm_go 1 (fun P hP => h σ Fr.rf hr)
        · have hc := hcc.trans (if_neg (show ¬ R.length = 8 by omega))
          have z := book_0 hc
          rw [z.1, z.2] at h
          refine qm_go 1 (fun P hP => h σ2 F2 ⟨by rw [k2, List.length_append]; rfl, by rw [List.length_append]; exact e5, l_app (P := fun i q => σ.1 25 0 i = nI q.1 ∧ σ.1 26 0 i = q.2) hr.2.2 (fun i q hi w => ?_) ?_⟩)
          · have := k1 i (by omega)
            rw [this.1, this.2.1]
            exact w
          · rw [tN_nI (by omega)]
            exact ⟨k3, k4⟩
      · refine qm_go 1 (fun P hP => And.intro (fun z => absurd rfl z) (fun _ => hP ?_))
        have hc : bookC A R s n = 2 := h1.trans (if_neg cm)
        have z := book_c hc (by decide) (by decide)
        rw [z.1, z.2] at h
        exact qm_go 2 (fun P hP => h σ Fr.rf hr)
    · refine qm_go 1 (fun P hP => And.intro (fun z => absurd rfl z) (fun _ => hP ?_))
      have hc : bookC A R s n = 1 := (if_neg e).trans (if_neg ch)
      have z := book_c hc (by decide) (by decide)
      rw [z.1, z.2] at h
      exact qm_go 2 (fun P hP => h σ Fr.rf hr)
