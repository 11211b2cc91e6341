def inR (a : Int32) (n : Nat) : Prop := ∃ p : Nat, p < n ∧ a = nI p
theorem nI_toI {n : Nat} (h : n < 2 ^ 31) : (nI n).toInt = (n : Int) := nI_toInt h
theorem i_lt {a b : Int32} : a < b ↔ a.toInt < b.toInt := Int32.lt_iff_toInt_lt
theorem i_le {a b : Int32} : a ≤ b ↔ a.toInt ≤ b.toInt := Int32.le_iff_toInt_le
theorem i_eq {a b : Int32} : a = b ↔ a.toInt = b.toInt := Int32.toInt_inj.symm
theorem inR_of {a : Int32} {n : Nat} (hn : n < 2 ^ 31) (h0 : ¬ a < 0) (h1 : ¬ nI n ≤ a) : inR a n := by
  obtain ⟨j, hj, rfl⟩ := nI_of h0
  refine ⟨j, ?_, rfl⟩
  rcases Nat.lt_or_ge j n with q | q
  · exact q
  · exact absurd (nI_le q hj) h1
theorem inR_ge {a : Int32} {n : Nat} (hn : n < 2 ^ 31) (h : inR a n) : ¬ a < 0 ∧ ¬ nI n ≤ a := by
  obtain ⟨p, hp, rfl⟩ := h
  exact ⟨nI_pos (by omega), nI_ge hp hn⟩
theorem i_sub1 {n : Nat} (hn : n < 2 ^ 31) : (nI n - 1 : Int32).toInt = (n : Int) - 1 := by
  have h := pk_sub_toInt (a := n) (b := 1)
  cases n with
  | zero => rfl
  | succ k => rw [nI_pred]; rw [nI_toInt (by omega)]; omega
theorem inR_of' {a : Int32} {n : Nat} (hn : n < 2 ^ 31) (h0 : ¬ a < 0) (h1 : ¬ nI n - 1 < a) : inR a n := by
  obtain ⟨j, hj, rfl⟩ := nI_of h0
  refine ⟨j, ?_, rfl⟩
  rw [i_lt, i_sub1 hn, nI_toInt hj] at h1
  omega
theorem inR_lt' {a : Int32} {n : Nat} (hn : n < 2 ^ 31) (h : inR a n) : ¬ a < 0 ∧ ¬ nI n - 1 < a := by
  obtain ⟨p, hp, rfl⟩ := h
  refine ⟨nI_pos (by omega), ?_⟩
  rw [i_lt, i_sub1 hn, nI_toInt (by omega)]
  omega
theorem upd_same {f : Nat → Int32} {k : Nat} {x : Int32} : upd f k x k = x := pk_us
theorem upd_ne {f : Nat → Int32} {k j : Nat} {x : Int32} (h : j ≠ k) : upd f k x j = f j := pk_un h
theorem wF_2 (σ : qm_Sg) (t i : Nat) (f : Nat → Int32) : (wF σ t i f).2 = σ.2 := rfl
theorem wG_1 (σ : qm_Sg) (t i : Nat) (f : Nat → Int64) : (wG σ t i f).1 = σ.1 := rfl
theorem wF_ne (σ : qm_Sg) {t i a b : Nat} (f : Nat → Int32) (h : ¬ (a = t ∧ b = i)) : (wF σ t i f).1 a b = σ.1 a b := by
  unfold wF
  by_cases h1 : a = t
  · by_cases h2 : b = i
    · exact absurd ⟨h1, h2⟩ h
    · simp [h2]
  · simp [h1]
theorem wG_ne (σ : qm_Sg) {t i a b : Nat} (f : Nat → Int64) (h : ¬ (a = t ∧ b = i)) : (wG σ t i f).2 a b = σ.2 a b := by
  unfold wG
  by_cases h1 : a = t
  · by_cases h2 : b = i
    · exact absurd ⟨h1, h2⟩ h
    · simp [h2]
  · simp [h1]
/-- what may have changed -/
def Fr (T : Nat → Nat → Nat → Prop) (σ σ' : qm_Sg) : Prop := (∀ t i j : Nat, ¬ T t i j → σ'.1 t i j = σ.1 t i j) ∧ σ'.2 = σ.2
theorem Fr.rf {T : Nat → Nat → Nat → Prop} {σ : qm_Sg} : Fr T σ σ := ⟨fun _ _ _ _ => rfl, rfl⟩
theorem Fr.tr {T : Nat → Nat → Nat → Prop} {σ σ1 σ2 : qm_Sg} (h1 : Fr T σ σ1) (h2 : Fr T σ1 σ2) : Fr T σ σ2 := ⟨fun t i j h => (h2.1 t i j h).trans (h1.1 t i j h), h2.2.trans h1.2⟩
theorem Fr.mono {T T' : Nat → Nat → Nat → Prop} {σ σ' : qm_Sg} (h : Fr T σ σ') (hT : ∀ t i j, T t i j → T' t i j) : Fr T' σ σ' := ⟨fun t i j q => h.1 t i j (fun z => q (hT t i j z)), h.2⟩
theorem Fr.w1 {T : Nat → Nat → Nat → Prop} {σ : qm_Sg} {t i k : Nat} {x : Int32} (hT : T t i k) : Fr T σ (wF σ t i (upd (σ.1 t i) k x)) := by
  refine ⟨fun a b j h => ?_, rfl⟩
  by_cases e : a = t ∧ b = i
  · obtain ⟨rfl, rfl⟩ := e
    rw [wF_same]
    exact upd_ne (fun q => h (by rw [q]; exact hT))
  · rw [wF_ne _ _ e]
theorem Fr.wA {T : Nat → Nat → Nat → Prop} {σ : qm_Sg} {t i : Nat} {f : Nat → Int32} (hT : ∀ j, T t i j) : Fr T σ (wF σ t i f) := by
  refine ⟨fun a b j h => ?_, rfl⟩
  by_cases e : a = t ∧ b = i
  · obtain ⟨rfl, rfl⟩ := e
    exact absurd (hT j) h
  · rw [wF_ne _ _ e]
/-- the field or element k of (t, i) after it was set -/
theorem wv_same {σ : qm_Sg} {t i k : Nat} {x : Int32} : (wF σ t i (upd (σ.1 t i) k x)).1 t i k = x := by rw [wF_same, upd_same]
theorem wv_ne {σ : qm_Sg} {t i k j : Nat} {x : Int32} (h : j ≠ k) : (wF σ t i (upd (σ.1 t i) k x)).1 t i j = σ.1 t i j := by rw [wF_same, upd_ne h]
abbrev isAw (a : Int32) (p : Nat) : Prop := (a >>> (nI p &&& 31)) &&& 1 = 1
theorem qm_dn {d h : Nat} (hd : h + 1 ≤ d) : ∃ e, d = e + 1 ∧ h ≤ e := ⟨d - 1, by omega, by omega⟩
