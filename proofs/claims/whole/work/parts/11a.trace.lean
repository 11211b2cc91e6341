def cTr (σ : qm_Sg) (l : List Nat) : Prop := σ.1 1 0 1 = nI l.length ∧ ∀ (i b : Nat), l[i]? = some b → i < 20 → σ.1 2 0 i = nI b
def mTr (σ : qm_Sg) (l : List Nat) : Prop := σ.1 50 0 63 = nI l.length ∧ ∀ (i b : Nat), l[i]? = some b → i < 20 → σ.1 87 0 i = nI b
def tA (t _ _ : Nat) : Prop := t = 1 ∨ t = 2
def tB (t _ j : Nat) : Prop := t = 87 ∨ (t = 50 ∧ j = 63)
def rolF (k p : Nat) (v x : Int32) : Int32 × List Nat := match k with
  | 2 => (x * 3 + nI p, [30, 10])
  | 4 => (-(x + nI p), [50, 10])
  | 5 => (x * 3 + nI p, [30, 10])
  | 6 => ((x + nI p) ^^^ v, [71, 10])
  | _ => (x + nI p, [10])
def oyF (k p : Nat) (v x : Int32) : Int32 × List Nat := ((rolF k p v x).1 - v, 11 :: (rolF k p v x).2)
def lyF (k p : Nat) (v x : Int32) : Int32 × List Nat := ((oyF k p v x).1 ^^^ 6, 20 :: (oyF k p v x).2)
def yawF (k p : Nat) (v x : Int32) : Int32 × List Nat := match k with
  | 1 => lyF 1 p v x
  | 4 => ((lyF 4 p v (x + 1)).1, 51 :: (lyF 4 p v (x + 1)).2)
  | 6 => ((oyF 6 p v x).1 + (2 + nI p), 70 :: ((oyF 6 p v x).2 ++ [10]))
  | k => oyF k p v x
def otF (k p : Nat) (v x : Int32) : Int32 × List Nat := ((yawF k p v x).1 * 2, 12 :: (yawF k p v x).2)
def telF (k p : Nat) (v x : Int32) : Int32 × List Nat := match k with
  | 3 => ((otF 3 p v x).1 + (yawF 3 p v 1).1, 40 :: ((otF 3 p v x).2 ++ (yawF 3 p v 1).2))
  | 6 => ((otF 6 p v x).1 + (yawF 6 p v 1).1, 40 :: ((otF 6 p v x).2 ++ (yawF 6 p v 1).2))
  | 5 => ((otF 5 p v (x - nI p)).1, 60 :: (otF 5 p v (x - nI p)).2)
  | k => otF k p v x
theorem tr_app {σ0 σ : qm_Sg} {t u b : Nat} {l : List Nat} (hne : ∀ i, i < 20 → i ≠ l.length → σ.1 t u i = σ0.1 t u i) (h0 : ∀ (i b : Nat), l[i]? = some b → i < 20 → σ0.1 t u i = nI b) (hb : l.length < 20 → σ.1 t u l.length = nI b) : ∀ (i c : Nat), (l ++ [b])[i]? = some c → i < 20 → σ.1 t u i = nI c := by
  intro i c hc hi
  by_cases e : i < l.length
  · rw [List.getElem?_append_left e] at hc
    rw [hne i hi (by omega)]
    exact h0 i c hc hi
  · rw [List.getElem?_append_right (by omega)] at hc
    have : i = l.length := by
      have := (List.getElem?_eq_some_iff.mp hc).1
      simp only [List.length_cons, List.length_nil] at this
      omega
    subst this
    rw [Nat.sub_self] at hc
    cases hc
    exact hb hi
theorem c_began {d : Nat} (hd : 1 ≤ d) {σ : qm_Sg} {Q : qm_Po} {l : List Nat} {b : Nat} (ht : cTr σ l) (hl : l.length < 1000) (h : ∀ σ', Fr tA σ σ' → cTr σ' (l ++ [b]) → Q σ' none) : qm_M d 62 [vR 1 0, vI (nI b)] σ Q := by
  obtain ⟨d, rfl, hd⟩ := qm_dn hd
  show qm_Wp (qm_M d) qk_62 Q 0 [some (vR 1 0), some (vI (nI b))] [] σ
  refine qm_go 4 (fun P hP => And.intro (fun c3 => hP ?_) (fun c3 => hP ?_))
  · refine qm_go 6 (fun P hP => hP ?_)
    generalize hσ : wF _ 1 0 (upd _ 1 _) = σ'
    first
      | (have hc : l.length < 20 := by
           have := i_lt.mp (i_lt_of c3)
           rw [ht.1, nI_toInt (by omega)] at this
           have : ((l.length : Nat) : Int) < 20 := this
           omega
         have F : Fr tA σ σ' := by
           rw [← hσ]
           exact Fr.p1 (Fr.w1 (by unfold tA; omega)) (by unfold tA; omega)
         refine qm_go 1 (fun P hP => h σ' F ⟨?_, tr_app (fun i hi hne => ?_) ht.2 (fun _ => ?_)⟩)
         · rw [← hσ, wv_same, wF_ne _ _ (by omega), ht.1, nI_1, List.length_append]; rfl
         · rw [← hσ, wF_ne _ _ (by omega), wv_ne hne]
         · rw [← hσ, wF_ne _ _ (by omega), wv_same])
      | (have hc : ¬ l.length < 20 := by
           have := i_le.mp c3
           rw [ht.1, nI_toInt (by omega)] at this
           have : (20 : Int) ≤ ((l.length : Nat) : Int) := this
           omega
         have F : Fr tA σ σ' := by
           rw [← hσ]
           exact Fr.w1 (by unfold tA; omega)
         refine qm_go 1 (fun P hP => h σ' F ⟨?_, tr_app (fun i hi hne => ?_) ht.2 (fun z => absurd z hc)⟩)
         · rw [← hσ, wv_same, ht.1, nI_1, List.length_append]; rfl
         · rw [← hσ, wF_ne _ _ (by omega)])
  · refine qm_go 6 (fun P hP => Exists.intro (l.length) (And.intro (And.intro (ht.1) ((show l.length < 20 by first | exact hc9 | (have := i_lt.mp (i_lt_of c3); rw [ht.1, nI_toInt (by omega)] at this; have : ((l.length : Nat) : Int) < 20 := this; omega)))) (hP ?_)))
    refine qm_go 6 (fun P hP => hP ?_)
    generalize hσ : wF _ 1 0 (upd _ 1 _) = σ'
    first
      | (have hc : l.length < 20 := by
           have := i_lt.mp (i_lt_of c3)
           rw [ht.1, nI_toInt (by omega)] at this
           have : ((l.length : Nat) : Int) < 20 := this
           omega
         have F : Fr tA σ σ' := by
           rw [← hσ]
           exact Fr.p1 (Fr.w1 (by unfold tA; omega)) (by unfold tA; omega)
         refine qm_go 1 (fun P hP => h σ' F ⟨?_, tr_app (fun i hi hne => ?_) ht.2 (fun _ => ?_)⟩)
         · rw [← hσ, wv_same, wF_ne _ _ (by omega), ht.1, nI_1, List.length_append]; rfl
         · rw [← hσ, wF_ne _ _ (by omega), wv_ne hne]
         · rw [← hσ, wF_ne _ _ (by omega), wv_same])
      | (have hc : ¬ l.length < 20 := by
           have := i_le.mp c3
           rw [ht.1, nI_toInt (by omega)] at this
           have : (20 : Int) ≤ ((l.length : Nat) : Int) := this
           omega
         have F : Fr tA σ σ' := by
           rw [← hσ]
           exact Fr.w1 (by unfold tA; omega)
         refine qm_go 1 (fun P hP => h σ' F ⟨?_, tr_app (fun i hi hne => ?_) ht.2 (fun z => absurd z hc)⟩)
         · rw [← hσ, wv_same, ht.1, nI_1, List.length_append]; rfl
         · rw [← hσ, wF_ne _ _ (by omega)])
theorem m_body {d : Nat} (hd : 1 ≤ d) {σ : qm_Sg} {Q : qm_Po} {l : List Nat} {b : Nat} (ht : mTr σ l) (hl : l.length < 1000) (h : ∀ σ', Fr tB σ σ' → mTr σ' (l ++ [b]) → Q σ' none) : qm_M d 179 [vR 50 0, vI (nI b)] σ Q := by
  obtain ⟨d, rfl, hd⟩ := qm_dn hd
  show qm_Wp (qm_M d) qk_179 Q 0 [some (vR 50 0), some (vI (nI b))] [] σ
  refine qm_go 4 (fun P hP => And.intro (fun c3 => hP ?_) (fun c3 => hP ?_))
  · refine qm_go 6 (fun P hP => hP ?_)
    generalize hσ : wF _ 50 0 (upd _ 63 _) = σ'
    first
      | (have hc : l.length < 20 := by
           have := i_lt.mp (i_lt_of c3)
           rw [ht.1, nI_toInt (by omega)] at this
           have : ((l.length : Nat) : Int) < 20 := this
           omega
         have F : Fr tB σ σ' := by
           rw [← hσ]
           exact Fr.p1 (Fr.w1 (by unfold tB; omega)) (by unfold tB; omega)
         refine qm_go 1 (fun P hP => h σ' F ⟨?_, tr_app (fun i hi hne => ?_) ht.2 (fun _ => ?_)⟩)
         · rw [← hσ, wv_same, wF_ne _ _ (by omega), ht.1, nI_1, List.length_append]; rfl
         · rw [← hσ, wF_ne _ _ (by omega), wv_ne hne]
         · rw [← hσ, wF_ne _ _ (by omega), wv_same])
      | (have hc : ¬ l.length < 20 := by
           have := i_le.mp c3
           rw [ht.1, nI_toInt (by omega)] at this
           have : (20 : Int) ≤ ((l.length : Nat) : Int) := this
           omega
         have F : Fr tB σ σ' := by
           rw [← hσ]
           exact Fr.w1 (by unfold tB; omega)
         refine qm_go 1 (fun P hP => h σ' F ⟨?_, tr_app (fun i hi hne => ?_) ht.2 (fun z => absurd z hc)⟩)
         · rw [← hσ, wv_same, ht.1, nI_1, List.length_append]; rfl
         · rw [← hσ, wF_ne _ _ (by omega)])
  · refine qm_go 6 (fun P hP => Exists.intro (l.length) (And.intro (And.intro (ht.1) ((show l.length < 20 by first | exact hc9 | (have := i_lt.mp (i_lt_of c3); rw [ht.1, nI_toInt (by omega)] at this; have : ((l.length : Nat) : Int) < 20 := this; omega)))) (hP ?_)))
    refine qm_go 6 (fun P hP => hP ?_)
    generalize hσ : wF _ 50 0 (upd _ 63 _) = σ'
    first
      | (have hc : l.length < 20 := by
           have := i_lt.mp (i_lt_of c3)
           rw [ht.1, nI_toInt (by omega)] at this
           have : ((l.length : Nat) : Int) < 20 := this
           omega
         have F : Fr tB σ σ' := by
           rw [← hσ]
           exact Fr.p1 (Fr.w1 (by unfold tB; omega)) (by unfold tB; omega)
         refine qm_go 1 (fun P hP => h σ' F ⟨?_, tr_app (fun i hi hne => ?_) ht.2 (fun _ => ?_)⟩)
         · rw [← hσ, wv_same, wF_ne _ _ (by omega), ht.1, nI_1, List.length_append]; rfl
         · rw [← hσ, wF_ne _ _ (by omega), wv_ne hne]
         · rw [← hσ, wF_ne _ _ (by omega), wv_same])
      | (have hc : ¬ l.length < 20 := by
           have := i_le.mp c3
           rw [ht.1, nI_toInt (by omega)] at this
           have : (20 : Int) ≤ ((l.length : Nat) : Int) := this
           omega
         have F : Fr tB σ σ' := by
           rw [← hσ]
           exact Fr.w1 (by unfold tB; omega)
         refine qm_go 1 (fun P hP => h σ' F ⟨?_, tr_app (fun i hi hne => ?_) ht.2 (fun z => absurd z hc)⟩)
         · rw [← hσ, wv_same, ht.1, nI_1, List.length_append]; rfl
         · rw [← hσ, wF_ne _ _ (by omega)])
