theorem i_nlt {a b : Int32} (h : b ≤ a) : ¬ a < b := by rw [i_lt]; rw [i_le] at h; omega
theorem i_lt_of {a b : Int32} (h : ¬ b ≤ a) : a < b := by rw [i_lt]; rw [i_le] at h; omega
theorem i_le_of {a b : Int32} (h : ¬ a < b) : b ≤ a := by rw [i_le]; rw [i_lt] at h; omega
theorem i_nle {a b : Int32} (h : a < b) : ¬ b ≤ a := by rw [i_le]; rw [i_lt] at h; omega
def tC (X t i j : Nat) : Prop := t = 33 ∨ (i = X ∧ (t = 13 ∨ t = 14 ∨ (t = 10 ∧ (j = 9 ∨ j = 10))))
def vD (X : Nat) (σ : qm_Sg) (D : DD) : Prop := σ.1 13 X = D.1 ∧ σ.1 14 X = D.2.1 ∧ σ.1 10 X 9 = D.2.2.1 ∧ σ.1 10 X 10 = nI D.2.2.2
def cSt (X : Nat) (σ : qm_Sg) (S : (Nat → Int32) → Int32) (br : Int32) : Prop := (σ.1 10 X 11 = -1 ∧ S = (fun _ => 9) ∧ br = 40) ∨ ∃ (s : Nat) (c : CT9), s < 6 ∧ σ.1 10 X 11 = nI s ∧ cRep σ s c ∧ wfC c ∧ S = (fun x => sumC x c 9) ∧ br = nI (bearC c 40)
def sD (X : Nat) (σ : qm_Sg) (n : Nat) (kd vv rw9 : Nat → Int32) (aw : Int32) (S : (Nat → Int32) → Int32) (br : Int32) : Prop := σ.1 10 X 2 = nI n ∧ n ≤ 6 ∧ σ.1 11 X = kd ∧ σ.1 12 X = vv ∧ σ.1 15 X = rw9 ∧ σ.1 10 X 7 = aw ∧ (∀ p, p < n → ∃ k, k < 7 ∧ kd p = nI k) ∧ cSt X σ S br
theorem Fr.row {T : Nat → Nat → Nat → Prop} {σ σ' : qm_Sg} (h : Fr T σ σ') {t i : Nat} (hT : ∀ j, ¬ T t i j) : σ'.1 t i = σ.1 t i := funext fun j => h.1 t i j (hT j)
theorem cRep.fr {T : Nat → Nat → Nat → Prop} {σ σ' : qm_Sg} {s : Nat} {c : CT9} (h : cRep σ s c) (hF : Fr T σ σ') (hT : ∀ t i j, 28 ≤ t → t ≤ 32 → ¬ T t i j) : cRep σ' s c := by
  obtain ⟨h1, h2, h3, h4⟩ := h
  refine ⟨by rw [hF.1 _ _ _ (hT _ _ _ (by omega) (by omega))]; exact h1, by rw [hF.1 _ _ _ (hT _ _ _ (by omega) (by omega))]; exact h2, h3, fun i q hq => ?_⟩
  obtain ⟨a1, a2, a3, a4⟩ := h4 i q hq
  exact ⟨by rw [hF.1 _ _ _ (hT _ _ _ (by omega) (by omega))]; exact a1, by rw [hF.1 _ _ _ (hT _ _ _ (by omega) (by omega))]; exact a2, by rw [hF.1 _ _ _ (hT _ _ _ (by omega) (by omega))]; exact a3, fun k t ht => by rw [hF.1 _ _ _ (hT _ _ _ (by omega) (by omega))]; exact a4 k t ht⟩
theorem cSt.fr {T : Nat → Nat → Nat → Prop} {X : Nat} {σ σ' : qm_Sg} {S : (Nat → Int32) → Int32} {br : Int32} (h : cSt X σ S br) (hF : Fr T σ σ') (hT : ∀ t i j, 28 ≤ t → t ≤ 32 → ¬ T t i j) (h11 : ¬ T 10 X 11) : cSt X σ' S br := by
  rcases h with ⟨h1, h2⟩ | ⟨s, c, h1, h2, h3, h4⟩
  · exact Or.inl ⟨by rw [hF.1 _ _ _ h11]; exact h1, h2⟩
  · exact Or.inr ⟨s, c, h1, by rw [hF.1 _ _ _ h11]; exact h2, h3.fr hF hT, h4⟩
theorem sD.fr {T : Nat → Nat → Nat → Prop} {X n : Nat} {σ σ' : qm_Sg} {kd vv rw9 : Nat → Int32} {aw : Int32} {S : (Nat → Int32) → Int32} {br : Int32} (h : sD X σ n kd vv rw9 aw S br) (hF : Fr T σ σ') (hT : ∀ t i j, T t i j → tC X t i j) : sD X σ' n kd vv rw9 aw S br := by
  have z : ∀ t i j, ¬ tC X t i j → ¬ T t i j := fun t i j h q => h (hT t i j q)
  obtain ⟨h1, h2, h3, h4, h5, h6, h7, h8⟩ := h
  refine ⟨by rw [hF.1 _ _ _ (z _ _ _ (by unfold tC; omega))]; exact h1, h2, by rw [hF.row (fun j => z _ _ _ (by unfold tC; omega))]; exact h3, by rw [hF.row (fun j => z _ _ _ (by unfold tC; omega))]; exact h4, by rw [hF.row (fun j => z _ _ _ (by unfold tC; omega))]; exact h5, by rw [hF.1 _ _ _ (z _ _ _ (by unfold tC; omega))]; exact h6, h7, h8.fr hF (fun t i j a b => z _ _ _ (by unfold tC; omega)) (z _ _ _ (by unfold tC; omega))⟩
theorem vD.fr {X : Nat} {σ σ' : qm_Sg} {D : DD} (h : vD X σ D) (hF : Fr (fun t _ _ => t = 33) σ σ') : vD X σ' D := by
  obtain ⟨h1, h2, h3, h4⟩ := h
  exact ⟨by rw [hF.row (fun j => by omega)]; exact h1, by rw [hF.row (fun j => by omega)]; exact h2, by rw [hF.1 _ _ _ (by omega)]; exact h3, by rw [hF.1 _ _ _ (by omega)]; exact h4⟩
