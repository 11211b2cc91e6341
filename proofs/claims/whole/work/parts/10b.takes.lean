theorem Fr.p1 {T : Nat → Nat → Nat → Prop} {σ σ' : qm_Sg} {t i k : Nat} {x : Int32} (h : Fr T σ σ') (hT : T t i k) : Fr T σ (wF σ' t i (upd (σ'.1 t i) k x)) := h.tr (Fr.w1 hT)
theorem Fr.pA {T : Nat → Nat → Nat → Prop} {σ σ' : qm_Sg} {t i : Nat} {f : Nat → Int32} (h : Fr T σ σ') (hT : ∀ j, T t i j) : Fr T σ (wF σ' t i f) := h.tr (Fr.wA hT)
theorem cp6 {f g : Nat → Int32} {n j : Nat} (h : j < n) : va_cpy f g 0 0 n j = f j := (pk_cpy_in (Nat.zero_le j) (by omega)).trans (by rw [Nat.zero_add, Nat.sub_zero])
def tK (X t i j : Nat) : Prop := i = X ∧ ((11 ≤ t ∧ t ≤ 15) ∨ (t = 10 ∧ (j = 2 ∨ j = 7 ∨ j = 9 ∨ j = 10 ∨ j = 11)))
theorem cSt.cp {X Y : Nat} {σ σ' : qm_Sg} {S : (Nat → Int32) → Int32} {br : Int32} {T : Nat → Nat → Nat → Prop} (h : cSt Y σ S br) (hF : Fr T σ σ') (hT : ∀ t i j, 28 ≤ t → t ≤ 32 → ¬ T t i j) (h11 : σ'.1 10 X 11 = σ.1 10 Y 11) : cSt X σ' S br := by
  rcases h with ⟨h1, h2⟩ | ⟨s, c, h1, h2, h3, h4⟩
  · exact Or.inl ⟨by rw [h11]; exact h1, h2⟩
  · exact Or.inr ⟨s, c, h1, by rw [h11]; exact h2, h3.fr hF hT, h4⟩
theorem cpS {X Y : Nat} {σ σ' : qm_Sg} {A : AS} {T : Nat → Nat → Nat → Prop} (hs : cS Y σ A) (hF : Fr T σ σ') (hT : ∀ t i j, 28 ≤ t → t ≤ 32 → ¬ T t i j) (h2 : σ'.1 10 X 2 = σ.1 10 Y 2) (h7 : σ'.1 10 X 7 = σ.1 10 Y 7) (h11 : σ'.1 10 X 11 = σ.1 10 Y 11) (a1 : Q6 (σ'.1 11 X) (σ.1 11 Y)) (a2 : Q6 (σ'.1 12 X) (σ.1 12 Y)) (a3 : Q24 (σ'.1 15 X) (σ.1 15 Y)) : cS X σ' A := by
  obtain ⟨kd, vv, rw9, q1, q2, q3, s1, s2, s3, s4, s5, s6, s7, s8⟩ := hs
  rw [s3] at a1
  rw [s4] at a2
  rw [s5] at a3
  exact ⟨_, _, _, a1.tr q1, a2.tr q2, a3.tr q3, h2.trans s1, s2, rfl, rfl, rfl, h7.trans s6, fun p hp => by rw [a1 p (by omega)]; exact s7 p hp, s8.cp hF hT h11⟩
theorem cpV {X Y : Nat} {σ σ' : qm_Sg} {D : DD} (hv : cV Y σ D) (h9 : σ'.1 10 X 9 = σ.1 10 Y 9) (h10 : σ'.1 10 X 10 = σ.1 10 Y 10) (a1 : Q6 (σ'.1 13 X) (σ.1 13 Y)) (a2 : Q6 (σ'.1 14 X) (σ.1 14 Y)) : cV X σ' D := by
  obtain ⟨E, ⟨v1, v2, v3, v4⟩, e1, e2, e3⟩ := hv
  rw [v1] at a1
  rw [v2] at a2
  exact ⟨(σ'.1 13 X, σ'.1 14 X, E.2.2), ⟨rfl, rfl, h9.trans v3, h10.trans v4⟩, a1.tr e1, a2.tr e2, e3⟩
theorem c_takes20 {d : Nat} (hd : 1 ≤ d) {σ : qm_Sg} {Q : qm_Po} {A : AS} {D : DD} (hs : cS 0 σ A) (hv : cV 0 σ D) (h : ∀ σ', Fr (tK 2) σ σ' → cS 2 σ' A → cV 2 σ' D → Q σ' none) : qm_M d 25 [vR 10 2, vR 10 0] σ Q := by
  obtain ⟨d, rfl, hd⟩ := qm_dn hd
  show qm_Wp (qm_M d) qk_25 Q 0 [some (vR 10 2), some (vR 10 0)] [] σ
  refine qm_go 12 (fun P hP => Exists.intro 0 (Exists.intro 0 (Exists.intro 6 (And.intro ⟨rfl, rfl, rfl, by decide, by decide⟩ (hP ?_)))))
  refine qm_go 8 (fun P hP => Exists.intro 0 (Exists.intro 0 (Exists.intro 6 (And.intro ⟨rfl, rfl, rfl, by decide, by decide⟩ (hP ?_)))))
  refine qm_go 8 (fun P hP => Exists.intro 0 (Exists.intro 0 (Exists.intro 6 (And.intro ⟨rfl, rfl, rfl, by decide, by decide⟩ (hP ?_)))))
  refine qm_go 8 (fun P hP => Exists.intro 0 (Exists.intro 0 (Exists.intro 6 (And.intro ⟨rfl, rfl, rfl, by decide, by decide⟩ (hP ?_)))))
  refine qm_go 12 (fun P hP => Exists.intro 0 (Exists.intro 0 (Exists.intro 24 (And.intro ⟨rfl, rfl, rfl, by decide, by decide⟩ (hP ?_)))))
  refine qm_go 12 (fun P hP => hP ?_)
  generalize hσ : wF _ 10 2 (upd _ 11 _) = σ'
  have F : Fr (tK 2) σ σ' := by
    rw [← hσ]
    exact (Fr.p1 (Fr.p1 (Fr.p1 (Fr.pA (Fr.p1 (Fr.pA (Fr.pA (Fr.pA (Fr.pA (Fr.p1 Fr.rf ⟨rfl, Or.inr ⟨rfl, by decide⟩⟩) (fun _ => ⟨rfl, Or.inl ⟨by decide, by decide⟩⟩)) (fun _ => ⟨rfl, Or.inl ⟨by decide, by decide⟩⟩)) (fun _ => ⟨rfl, Or.inl ⟨by decide, by decide⟩⟩)) (fun _ => ⟨rfl, Or.inl ⟨by decide, by decide⟩⟩)) ⟨rfl, Or.inr ⟨rfl, by decide⟩⟩) (fun _ => ⟨rfl, Or.inl ⟨by decide, by decide⟩⟩)) ⟨rfl, Or.inr ⟨rfl, by decide⟩⟩) ⟨rfl, Or.inr ⟨rfl, by decide⟩⟩) ⟨rfl, Or.inr ⟨rfl, by decide⟩⟩)
  refine qm_go 1 (fun P hP => h σ' F ?_ ?_)
  · refine cpS (Y := 0) hs F (fun t i j a b q => by have q := q.2; omega) ?_ ?_ ?_ ?_ ?_ ?_
    · rw [← hσ]; rfl
    · rw [← hσ]; rfl
    · rw [← hσ]; rfl
    · intro j hj; rw [← hσ]; exact cp6 (f := σ.1 11 0) (n := 6) hj
    · intro j hj; rw [← hσ]; exact cp6 (f := σ.1 12 0) (n := 6) hj
    · intro j hj; rw [← hσ]; exact cp6 (f := σ.1 15 0) (n := 24) hj
  · refine cpV (Y := 0) hv ?_ ?_ ?_ ?_
    · rw [← hσ]; rfl
    · rw [← hσ]; rfl
    · intro j hj; rw [← hσ]; exact cp6 (f := σ.1 13 0) (n := 6) hj
    · intro j hj; rw [← hσ]; exact cp6 (f := σ.1 14 0) (n := 6) hj
theorem c_takes10 {d : Nat} (hd : 1 ≤ d) {σ : qm_Sg} {Q : qm_Po} {A : AS} {D : DD} (hs : cS 0 σ A) (hv : cV 0 σ D) (h : ∀ σ', Fr (tK 1) σ σ' → cS 1 σ' A → cV 1 σ' D → Q σ' none) : qm_M d 25 [vR 10 1, vR 10 0] σ Q := by
  obtain ⟨d, rfl, hd⟩ := qm_dn hd
  show qm_Wp (qm_M d) qk_25 Q 0 [some (vR 10 1), some (vR 10 0)] [] σ
  refine qm_go 12 (fun P hP => Exists.intro 0 (Exists.intro 0 (Exists.intro 6 (And.intro ⟨rfl, rfl, rfl, by decide, by decide⟩ (hP ?_)))))
  refine qm_go 8 (fun P hP => Exists.intro 0 (Exists.intro 0 (Exists.intro 6 (And.intro ⟨rfl, rfl, rfl, by decide, by decide⟩ (hP ?_)))))
  refine qm_go 8 (fun P hP => Exists.intro 0 (Exists.intro 0 (Exists.intro 6 (And.intro ⟨rfl, rfl, rfl, by decide, by decide⟩ (hP ?_)))))
  refine qm_go 8 (fun P hP => Exists.intro 0 (Exists.intro 0 (Exists.intro 6 (And.intro ⟨rfl, rfl, rfl, by decide, by decide⟩ (hP ?_)))))
  refine qm_go 12 (fun P hP => Exists.intro 0 (Exists.intro 0 (Exists.intro 24 (And.intro ⟨rfl, rfl, rfl, by decide, by decide⟩ (hP ?_)))))
  refine qm_go 12 (fun P hP => hP ?_)
  generalize hσ : wF _ 10 1 (upd _ 11 _) = σ'
  have F : Fr (tK 1) σ σ' := by
    rw [← hσ]
    exact (Fr.p1 (Fr.p1 (Fr.p1 (Fr.pA (Fr.p1 (Fr.pA (Fr.pA (Fr.pA (Fr.pA (Fr.p1 Fr.rf ⟨rfl, Or.inr ⟨rfl, by decide⟩⟩) (fun _ => ⟨rfl, Or.inl ⟨by decide, by decide⟩⟩)) (fun _ => ⟨rfl, Or.inl ⟨by decide, by decide⟩⟩)) (fun _ => ⟨rfl, Or.inl ⟨by decide, by decide⟩⟩)) (fun _ => ⟨rfl, Or.inl ⟨by decide, by decide⟩⟩)) ⟨rfl, Or.inr ⟨rfl, by decide⟩⟩) (fun _ => ⟨rfl, Or.inl ⟨by decide, by decide⟩⟩)) ⟨rfl, Or.inr ⟨rfl, by decide⟩⟩) ⟨rfl, Or.inr ⟨rfl, by decide⟩⟩) ⟨rfl, Or.inr ⟨rfl, by decide⟩⟩)
  refine qm_go 1 (fun P hP => h σ' F ?_ ?_)
  · refine cpS (Y := 0) hs F (fun t i j a b q => by have q := q.2; omega) ?_ ?_ ?_ ?_ ?_ ?_
    · rw [← hσ]; rfl
    · rw [← hσ]; rfl
    · rw [← hσ]; rfl
    · intro j hj; rw [← hσ]; exact cp6 (f := σ.1 11 0) (n := 6) hj
    · intro j hj; rw [← hσ]; exact cp6 (f := σ.1 12 0) (n := 6) hj
    · intro j hj; rw [← hσ]; exact cp6 (f := σ.1 15 0) (n := 24) hj
  · refine cpV (Y := 0) hv ?_ ?_ ?_ ?_
    · rw [← hσ]; rfl
    · rw [← hσ]; rfl
    · intro j hj; rw [← hσ]; exact cp6 (f := σ.1 13 0) (n := 6) hj
    · intro j hj; rw [← hσ]; exact cp6 (f := σ.1 14 0) (n := 6) hj
theorem c_takes01 {d : Nat} (hd : 1 ≤ d) {σ : qm_Sg} {Q : qm_Po} {A : AS} {D : DD} (hs : cS 1 σ A) (hv : cV 1 σ D) (h : ∀ σ', Fr (tK 0) σ σ' → cS 0 σ' A → cV 0 σ' D → Q σ' none) : qm_M d 25 [vR 10 0, vR 10 1] σ Q := by
  obtain ⟨d, rfl, hd⟩ := qm_dn hd
  show qm_Wp (qm_M d) qk_25 Q 0 [some (vR 10 0), some (vR 10 1)] [] σ
  refine qm_go 12 (fun P hP => Exists.intro 0 (Exists.intro 0 (Exists.intro 6 (And.intro ⟨rfl, rfl, rfl, by decide, by decide⟩ (hP ?_)))))
  refine qm_go 8 (fun P hP => Exists.intro 0 (Exists.intro 0 (Exists.intro 6 (And.intro ⟨rfl, rfl, rfl, by decide, by decide⟩ (hP ?_)))))
  refine qm_go 8 (fun P hP => Exists.intro 0 (Exists.intro 0 (Exists.intro 6 (And.intro ⟨rfl, rfl, rfl, by decide, by decide⟩ (hP ?_)))))
  refine qm_go 8 (fun P hP => Exists.intro 0 (Exists.intro 0 (Exists.intro 6 (And.intro ⟨rfl, rfl, rfl, by decide, by decide⟩ (hP ?_)))))
  refine qm_go 12 (fun P hP => Exists.intro 0 (Exists.intro 0 (Exists.intro 24 (And.intro ⟨rfl, rfl, rfl, by decide, by decide⟩ (hP ?_)))))
  refine qm_go 12 (fun P hP => hP ?_)
  generalize hσ : wF _ 10 0 (upd _ 11 _) = σ'
  have F : Fr (tK 0) σ σ' := by
    rw [← hσ]
    exact (Fr.p1 (Fr.p1 (Fr.p1 (Fr.pA (Fr.p1 (Fr.pA (Fr.pA (Fr.pA (Fr.pA (Fr.p1 Fr.rf ⟨rfl, Or.inr ⟨rfl, by decide⟩⟩) (fun _ => ⟨rfl, Or.inl ⟨by decide, by decide⟩⟩)) (fun _ => ⟨rfl, Or.inl ⟨by decide, by decide⟩⟩)) (fun _ => ⟨rfl, Or.inl ⟨by decide, by decide⟩⟩)) (fun _ => ⟨rfl, Or.inl ⟨by decide, by decide⟩⟩)) ⟨rfl, Or.inr ⟨rfl, by decide⟩⟩) (fun _ => ⟨rfl, Or.inl ⟨by decide, by decide⟩⟩)) ⟨rfl, Or.inr ⟨rfl, by decide⟩⟩) ⟨rfl, Or.inr ⟨rfl, by decide⟩⟩) ⟨rfl, Or.inr ⟨rfl, by decide⟩⟩)
  refine qm_go 1 (fun P hP => h σ' F ?_ ?_)
  · refine cpS (Y := 1) hs F (fun t i j a b q => by have q := q.2; omega) ?_ ?_ ?_ ?_ ?_ ?_
    · rw [← hσ]; rfl
    · rw [← hσ]; rfl
    · rw [← hσ]; rfl
    · intro j hj; rw [← hσ]; exact cp6 (f := σ.1 11 1) (n := 6) hj
    · intro j hj; rw [← hσ]; exact cp6 (f := σ.1 12 1) (n := 6) hj
    · intro j hj; rw [← hσ]; exact cp6 (f := σ.1 15 1) (n := 24) hj
  · refine cpV (Y := 1) hv ?_ ?_ ?_ ?_
    · rw [← hσ]; rfl
    · rw [← hσ]; rfl
    · intro j hj; rw [← hσ]; exact cp6 (f := σ.1 13 1) (n := 6) hj
    · intro j hj; rw [← hσ]; exact cp6 (f := σ.1 14 1) (n := 6) hj
