def ofK (kk k : Nat) : Bool := Nat.beq k 0 || Nat.beq kk k || (Nat.beq k 1 && Nat.beq kk 4) || (Nat.beq k 2 && Nat.beq kk 5) || (Nat.beq k 3 && Nat.beq kk 6)
def takenV (A : AS) (s k : Int32) : Int32 := if inP k 7 then (if inP s A.1 then (if ofK (tN (A.2.1 (tN s))) (tN k) then A.2.1 (tN s) else -12) else -11) else -2
theorem taken_1 {A : AS} {s k : Int32} (h : ¬ inR k 7) : takenV A s k = -2 := if_neg h
theorem taken_2 {A : AS} {s k : Int32} (h : inR k 7) (h2 : ¬ inR s A.1) : takenV A s k = -11 := (if_pos h).trans (if_neg h2)
theorem taken_3 {A : AS} {p kk k : Nat} (hn : A.1 ≤ 6) (hk : k < 7) (hp : p < A.1) (hkk : kk < 7) (e : A.2.1 p = nI kk) : takenV A (nI p) (nI k) = (if ofK kk k then nI kk else -12) := by
  have h1 : inP (nI k) 7 := ⟨k, hk, rfl⟩
  have h2 : inP (nI p) A.1 := ⟨p, hp, rfl⟩
  unfold takenV
  rw [if_pos h1, if_pos h2, tN_nI (show p < 2 ^ 31 by omega), e, tN_nI (show kk < 2 ^ 31 by omega), tN_nI (show k < 2 ^ 31 by omega)]
theorem c_isOf_0 {d : Nat} (hd : 1 ≤ d) {σ : qm_Sg} {Q : qm_Po} {k : Nat} (hk : k < 7) (h : Q σ (some (vI (nI (ofK 0 k).toNat)))) : qm_M d 102 [vR 34 0, vI (nI k)] σ Q := by
  obtain ⟨d, rfl, hd⟩ := qm_dn hd
  show qm_Wp (qm_M d) qk_102 Q 0 [some (vR 34 0), some (vI (nI k))] [] σ
  rcases (show k = 0 ∨ k = 1 ∨ k = 2 ∨ k = 3 ∨ k = 4 ∨ k = 5 ∨ k = 6 by omega) with rfl | rfl | rfl | rfl | rfl | rfl | rfl
  · skip
    refine qm_go 2 (fun P hP => And.intro (fun c => absurd c (by decide)) (fun _ => And.intro (fun c => absurd c (by decide)) (fun _ => And.intro (fun c => absurd c (by decide)) (fun _ => And.intro (fun c => absurd c (by decide)) (fun _ => And.intro (fun c => absurd c (by decide)) (fun _ => And.intro (fun c => absurd c (by decide)) (fun _ => hP ?_)))))))
    refine qm_go 2 (fun P hP => And.intro rfl h)
  · skip
    refine qm_go 2 (fun P hP => And.intro (fun _ => hP ?_) (fun n => absurd (by decide) n))
    refine qm_go 3 (fun P hP => And.intro rfl h)
  · skip
    refine qm_go 2 (fun P hP => And.intro (fun c => absurd c (by decide)) (fun _ => And.intro (fun _ => hP ?_) (fun n => absurd (by decide) n)))
    refine qm_go 3 (fun P hP => And.intro rfl h)
  · skip
    refine qm_go 2 (fun P hP => And.intro (fun c => absurd c (by decide)) (fun _ => And.intro (fun c => absurd c (by decide)) (fun _ => And.intro (fun _ => hP ?_) (fun n => absurd (by decide) n))))
    refine qm_go 3 (fun P hP => And.intro rfl h)
  · skip
    refine qm_go 2 (fun P hP => And.intro (fun c => absurd c (by decide)) (fun _ => And.intro (fun c => absurd c (by decide)) (fun _ => And.intro (fun c => absurd c (by decide)) (fun _ => And.intro (fun _ => hP ?_) (fun n => absurd (by decide) n)))))
    refine qm_go 3 (fun P hP => And.intro rfl h)
  · skip
    refine qm_go 2 (fun P hP => And.intro (fun c => absurd c (by decide)) (fun _ => And.intro (fun c => absurd c (by decide)) (fun _ => And.intro (fun c => absurd c (by decide)) (fun _ => And.intro (fun c => absurd c (by decide)) (fun _ => And.intro (fun _ => hP ?_) (fun n => absurd (by decide) n))))))
    refine qm_go 3 (fun P hP => And.intro rfl h)
  · skip
    refine qm_go 2 (fun P hP => And.intro (fun c => absurd c (by decide)) (fun _ => And.intro (fun c => absurd c (by decide)) (fun _ => And.intro (fun c => absurd c (by decide)) (fun _ => And.intro (fun c => absurd c (by decide)) (fun _ => And.intro (fun c => absurd c (by decide)) (fun _ => And.intro (fun _ => hP ?_) (fun n => absurd (by decide) n)))))))
    refine qm_go 3 (fun P hP => And.intro rfl h)
theorem c_isOf_1 {d : Nat} (hd : 1 ≤ d) {σ : qm_Sg} {Q : qm_Po} {k : Nat} (hk : k < 7) (h : Q σ (some (vI (nI (ofK 1 k).toNat)))) : qm_M d 102 [vR 35 0, vI (nI k)] σ Q := by
  obtain ⟨d, rfl, hd⟩ := qm_dn hd
  show qm_Wp (qm_M d) qk_102 Q 0 [some (vR 35 0), some (vI (nI k))] [] σ
  rcases (show k = 0 ∨ k = 1 ∨ k = 2 ∨ k = 3 ∨ k = 4 ∨ k = 5 ∨ k = 6 by omega) with rfl | rfl | rfl | rfl | rfl | rfl | rfl
  · skip
    refine qm_go 2 (fun P hP => And.intro (fun c => absurd c (by decide)) (fun _ => And.intro (fun c => absurd c (by decide)) (fun _ => And.intro (fun c => absurd c (by decide)) (fun _ => And.intro (fun c => absurd c (by decide)) (fun _ => And.intro (fun c => absurd c (by decide)) (fun _ => And.intro (fun c => absurd c (by decide)) (fun _ => hP ?_)))))))
    refine qm_go 2 (fun P hP => And.intro rfl h)
  · skip
    refine qm_go 2 (fun P hP => And.intro (fun _ => hP ?_) (fun n => absurd (by decide) n))
    refine qm_go 3 (fun P hP => And.intro rfl h)
  · skip
    refine qm_go 2 (fun P hP => And.intro (fun c => absurd c (by decide)) (fun _ => And.intro (fun _ => hP ?_) (fun n => absurd (by decide) n)))
    refine qm_go 3 (fun P hP => And.intro rfl h)
  · skip
    refine qm_go 2 (fun P hP => And.intro (fun c => absurd c (by decide)) (fun _ => And.intro (fun c => absurd c (by decide)) (fun _ => And.intro (fun _ => hP ?_) (fun n => absurd (by decide) n))))
    refine qm_go 3 (fun P hP => And.intro rfl h)
  · skip
    refine qm_go 2 (fun P hP => And.intro (fun c => absurd c (by decide)) (fun _ => And.intro (fun c => absurd c (by decide)) (fun _ => And.intro (fun c => absurd c (by decide)) (fun _ => And.intro (fun _ => hP ?_) (fun n => absurd (by decide) n)))))
    refine qm_go 3 (fun P hP => And.intro rfl h)
  · skip
    refine qm_go 2 (fun P hP => And.intro (fun c => absurd c (by decide)) (fun _ => And.intro (fun c => absurd c (by decide)) (fun _ => And.intro (fun c => absurd c (by decide)) (fun _ => And.intro (fun c => absurd c (by decide)) (fun _ => And.intro (fun _ => hP ?_) (fun n => absurd (by decide) n))))))
    refine qm_go 3 (fun P hP => And.intro rfl h)
  · skip
    refine qm_go 2 (fun P hP => And.intro (fun c => absurd c (by decide)) (fun _ => And.intro (fun c => absurd c (by decide)) (fun _ => And.intro (fun c => absurd c (by decide)) (fun _ => And.intro (fun c => absurd c (by decide)) (fun _ => And.intro (fun c => absurd c (by decide)) (fun _ => And.intro (fun _ => hP ?_) (fun n => absurd (by decide) n)))))))
    refine qm_go 3 (fun P hP => And.intro rfl h)
theorem c_isOf_2 {d : Nat} (hd : 1 ≤ d) {σ : qm_Sg} {Q : qm_Po} {k : Nat} (hk : k < 7) (h : Q σ (some (vI (nI (ofK 2 k).toNat)))) : qm_M d 102 [vR 36 0, vI (nI k)] σ Q := by
  obtain ⟨d, rfl, hd⟩ := qm_dn hd
  show qm_Wp (qm_M d) qk_102 Q 0 [some (vR 36 0), some (vI (nI k))] [] σ
  rcases (show k = 0 ∨ k = 1 ∨ k = 2 ∨ k = 3 ∨ k = 4 ∨ k = 5 ∨ k = 6 by omega) with rfl | rfl | rfl | rfl | rfl | rfl | rfl
  · skip
    refine qm_go 2 (fun P hP => And.intro (fun c => absurd c (by decide)) (fun _ => And.intro (fun c => absurd c (by decide)) (fun _ => And.intro (fun c => absurd c (by decide)) (fun _ => And.intro (fun c => absurd c (by decide)) (fun _ => And.intro (fun c => absurd c (by decide)) (fun _ => And.intro (fun c => absurd c (by decide)) (fun _ => hP ?_)))))))
    refine qm_go 2 (fun P hP => And.intro rfl h)
  · skip
    refine qm_go 2 (fun P hP => And.intro (fun _ => hP ?_) (fun n => absurd (by decide) n))
    refine qm_go 3 (fun P hP => And.intro rfl h)
  · skip
    refine qm_go 2 (fun P hP => And.intro (fun c => absurd c (by decide)) (fun _ => And.intro (fun _ => hP ?_) (fun n => absurd (by decide) n)))
    refine qm_go 3 (fun P hP => And.intro rfl h)
  · skip
    refine qm_go 2 (fun P hP => And.intro (fun c => absurd c (by decide)) (fun _ => And.intro (fun c => absurd c (by decide)) (fun _ => And.intro (fun _ => hP ?_) (fun n => absurd (by decide) n))))
    refine qm_go 3 (fun P hP => And.intro rfl h)
  · skip
    refine qm_go 2 (fun P hP => And.intro (fun c => absurd c (by decide)) (fun _ => And.intro (fun c => absurd c (by decide)) (fun _ => And.intro (fun c => absurd c (by decide)) (fun _ => And.intro (fun _ => hP ?_) (fun n => absurd (by decide) n)))))
    refine qm_go 3 (fun P hP => And.intro rfl h)
  · skip
    refine qm_go 2 (fun P hP => And.intro (fun c => absurd c (by decide)) (fun _ => And.intro (fun c => absurd c (by decide)) (fun _ => And.intro (fun c => absurd c (by decide)) (fun _ => And.intro (fun c => absurd c (by decide)) (fun _ => And.intro (fun _ => hP ?_) (fun n => absurd (by decide) n))))))
    refine qm_go 3 (fun P hP => And.intro rfl h)
  · skip
    refine qm_go 2 (fun P hP => And.intro (fun c => absurd c (by decide)) (fun _ => And.intro (fun c => absurd c (by decide)) (fun _ => And.intro (fun c => absurd c (by decide)) (fun _ => And.intro (fun c => absurd c (by decide)) (fun _ => And.intro (fun c => absurd c (by decide)) (fun _ => And.intro (fun _ => hP ?_) (fun n => absurd (by decide) n)))))))
    refine qm_go 3 (fun P hP => And.intro rfl h)
theorem c_isOf_3 {d : Nat} (hd : 1 ≤ d) {σ : qm_Sg} {Q : qm_Po} {k : Nat} (hk : k < 7) (h : Q σ (some (vI (nI (ofK 3 k).toNat)))) : qm_M d 102 [vR 37 0, vI (nI k)] σ Q := by
  obtain ⟨d, rfl, hd⟩ := qm_dn hd
  show qm_Wp (qm_M d) qk_102 Q 0 [some (vR 37 0), some (vI (nI k))] [] σ
  rcases (show k = 0 ∨ k = 1 ∨ k = 2 ∨ k = 3 ∨ k = 4 ∨ k = 5 ∨ k = 6 by omega) with rfl | rfl | rfl | rfl | rfl | rfl | rfl
  · skip
    refine qm_go 2 (fun P hP => And.intro (fun c => absurd c (by decide)) (fun _ => And.intro (fun c => absurd c (by decide)) (fun _ => And.intro (fun c => absurd c (by decide)) (fun _ => And.intro (fun c => absurd c (by decide)) (fun _ => And.intro (fun c => absurd c (by decide)) (fun _ => And.intro (fun c => absurd c (by decide)) (fun _ => hP ?_)))))))
    refine qm_go 2 (fun P hP => And.intro rfl h)
  · skip
    refine qm_go 2 (fun P hP => And.intro (fun _ => hP ?_) (fun n => absurd (by decide) n))
    refine qm_go 3 (fun P hP => And.intro rfl h)
  · skip
    refine qm_go 2 (fun P hP => And.intro (fun c => absurd c (by decide)) (fun _ => And.intro (fun _ => hP ?_) (fun n => absurd (by decide) n)))
    refine qm_go 3 (fun P hP => And.intro rfl h)
  · skip
    refine qm_go 2 (fun P hP => And.intro (fun c => absurd c (by decide)) (fun _ => And.intro (fun c => absurd c (by decide)) (fun _ => And.intro (fun _ => hP ?_) (fun n => absurd (by decide) n))))
    refine qm_go 3 (fun P hP => And.intro rfl h)
  · skip
    refine qm_go 2 (fun P hP => And.intro (fun c => absurd c (by decide)) (fun _ => And.intro (fun c => absurd c (by decide)) (fun _ => And.intro (fun c => absurd c (by decide)) (fun _ => And.intro (fun _ => hP ?_) (fun n => absurd (by decide) n)))))
    refine qm_go 3 (fun P hP => And.intro rfl h)
  · skip
    refine qm_go 2 (fun P hP => And.intro (fun c => absurd c (by decide)) (fun _ => And.intro (fun c => absurd c (by decide)) (fun _ => And.intro (fun c => absurd c (by decide)) (fun _ => And.intro (fun c => absurd c (by decide)) (fun _ => And.intro (fun _ => hP ?_) (fun n => absurd (by decide) n))))))
    refine qm_go 3 (fun P hP => And.intro rfl h)
  · skip
    refine qm_go 2 (fun P hP => And.intro (fun c => absurd c (by decide)) (fun _ => And.intro (fun c => absurd c (by decide)) (fun _ => And.intro (fun c => absurd c (by decide)) (fun _ => And.intro (fun c => absurd c (by decide)) (fun _ => And.intro (fun c => absurd c (by decide)) (fun _ => And.intro (fun _ => hP ?_) (fun n => absurd (by decide) n)))))))
    refine qm_go 3 (fun P hP => And.intro rfl h)
theorem c_isOf_4 {d : Nat} (hd : 1 ≤ d) {σ : qm_Sg} {Q : qm_Po} {k : Nat} (hk : k < 7) (h : Q σ (some (vI (nI (ofK 4 k).toNat)))) : qm_M d 102 [vR 38 0, vI (nI k)] σ Q := by
  obtain ⟨d, rfl, hd⟩ := qm_dn hd
  show qm_Wp (qm_M d) qk_102 Q 0 [some (vR 38 0), some (vI (nI k))] [] σ
  rcases (show k = 0 ∨ k = 1 ∨ k = 2 ∨ k = 3 ∨ k = 4 ∨ k = 5 ∨ k = 6 by omega) with rfl | rfl | rfl | rfl | rfl | rfl | rfl
  · skip
    refine qm_go 2 (fun P hP => And.intro (fun c => absurd c (by decide)) (fun _ => And.intro (fun c => absurd c (by decide)) (fun _ => And.intro (fun c => absurd c (by decide)) (fun _ => And.intro (fun c => absurd c (by decide)) (fun _ => And.intro (fun c => absurd c (by decide)) (fun _ => And.intro (fun c => absurd c (by decide)) (fun _ => hP ?_)))))))
    refine qm_go 2 (fun P hP => And.intro rfl h)
  · skip
    refine qm_go 2 (fun P hP => And.intro (fun _ => hP ?_) (fun n => absurd (by decide) n))
    refine qm_go 3 (fun P hP => And.intro rfl h)
  · skip
    refine qm_go 2 (fun P hP => And.intro (fun c => absurd c (by decide)) (fun _ => And.intro (fun _ => hP ?_) (fun n => absurd (by decide) n)))
    refine qm_go 3 (fun P hP => And.intro rfl h)
  · skip
    refine qm_go 2 (fun P hP => And.intro (fun c => absurd c (by decide)) (fun _ => And.intro (fun c => absurd c (by decide)) (fun _ => And.intro (fun _ => hP ?_) (fun n => absurd (by decide) n))))
    refine qm_go 3 (fun P hP => And.intro rfl h)
  · skip
    refine qm_go 2 (fun P hP => And.intro (fun c => absurd c (by decide)) (fun _ => And.intro (fun c => absurd c (by decide)) (fun _ => And.intro (fun c => absurd c (by decide)) (fun _ => And.intro (fun _ => hP ?_) (fun n => absurd (by decide) n)))))
    refine qm_go 3 (fun P hP => And.intro rfl h)
  · skip
    refine qm_go 2 (fun P hP => And.intro (fun c => absurd c (by decide)) (fun _ => And.intro (fun c => absurd c (by decide)) (fun _ => And.intro (fun c => absurd c (by decide)) (fun _ => And.intro (fun c => absurd c (by decide)) (fun _ => And.intro (fun _ => hP ?_) (fun n => absurd (by decide) n))))))
    refine qm_go 3 (fun P hP => And.intro rfl h)
  · skip
    refine qm_go 2 (fun P hP => And.intro (fun c => absurd c (by decide)) (fun _ => And.intro (fun c => absurd c (by decide)) (fun _ => And.intro (fun c => absurd c (by decide)) (fun _ => And.intro (fun c => absurd c (by decide)) (fun _ => And.intro (fun c => absurd c (by decide)) (fun _ => And.intro (fun _ => hP ?_) (fun n => absurd (by decide) n)))))))
    refine qm_go 3 (fun P hP => And.intro rfl h)
theorem c_isOf_5 {d : Nat} (hd : 1 ≤ d) {σ : qm_Sg} {Q : qm_Po} {k : Nat} (hk : k < 7) (h : Q σ (some (vI (nI (ofK 5 k).toNat)))) : qm_M d 102 [vR 39 0, vI (nI k)] σ Q := by
  obtain ⟨d, rfl, hd⟩ := qm_dn hd
  show qm_Wp (qm_M d) qk_102 Q 0 [some (vR 39 0), some (vI (nI k))] [] σ
  rcases (show k = 0 ∨ k = 1 ∨ k = 2 ∨ k = 3 ∨ k = 4 ∨ k = 5 ∨ k = 6 by omega) with rfl | rfl | rfl | rfl | rfl | rfl | rfl
  · skip
    refine qm_go 2 (fun P hP => And.intro (fun c => absurd c (by decide)) (fun _ => And.intro (fun c => absurd c (by decide)) (fun _ => And.intro (fun c => absurd c (by decide)) (fun _ => And.intro (fun c => absurd c (by decide)) (fun _ => And.intro (fun c => absurd c (by decide)) (fun _ => And.intro (fun c => absurd c (by decide)) (fun _ => hP ?_)))))))
    refine qm_go 2 (fun P hP => And.intro rfl h)
  · skip
    refine qm_go 2 (fun P hP => And.intro (fun _ => hP ?_) (fun n => absurd (by decide) n))
    refine qm_go 3 (fun P hP => And.intro rfl h)
  · skip
    refine qm_go 2 (fun P hP => And.intro (fun c => absurd c (by decide)) (fun _ => And.intro (fun _ => hP ?_) (fun n => absurd (by decide) n)))
    refine qm_go 3 (fun P hP => And.intro rfl h)
  · skip
    refine qm_go 2 (fun P hP => And.intro (fun c => absurd c (by decide)) (fun _ => And.intro (fun c => absurd c (by decide)) (fun _ => And.intro (fun _ => hP ?_) (fun n => absurd (by decide) n))))
    refine qm_go 3 (fun P hP => And.intro rfl h)
  · skip
    refine qm_go 2 (fun P hP => And.intro (fun c => absurd c (by decide)) (fun _ => And.intro (fun c => absurd c (by decide)) (fun _ => And.intro (fun c => absurd c (by decide)) (fun _ => And.intro (fun _ => hP ?_) (fun n => absurd (by decide) n)))))
    refine qm_go 3 (fun P hP => And.intro rfl h)
  · skip
    refine qm_go 2 (fun P hP => And.intro (fun c => absurd c (by decide)) (fun _ => And.intro (fun c => absurd c (by decide)) (fun _ => And.intro (fun c => absurd c (by decide)) (fun _ => And.intro (fun c => absurd c (by decide)) (fun _ => And.intro (fun _ => hP ?_) (fun n => absurd (by decide) n))))))
    refine qm_go 3 (fun P hP => And.intro rfl h)
  · skip
    refine qm_go 2 (fun P hP => And.intro (fun c => absurd c (by decide)) (fun _ => And.intro (fun c => absurd c (by decide)) (fun _ => And.intro (fun c => absurd c (by decide)) (fun _ => And.intro (fun c => absurd c (by decide)) (fun _ => And.intro (fun c => absurd c (by decide)) (fun _ => And.intro (fun _ => hP ?_) (fun n => absurd (by decide) n)))))))
    refine qm_go 3 (fun P hP => And.intro rfl h)
theorem c_isOf_6 {d : Nat} (hd : 1 ≤ d) {σ : qm_Sg} {Q : qm_Po} {k : Nat} (hk : k < 7) (h : Q σ (some (vI (nI (ofK 6 k).toNat)))) : qm_M d 102 [vR 40 0, vI (nI k)] σ Q := by
  obtain ⟨d, rfl, hd⟩ := qm_dn hd
  show qm_Wp (qm_M d) qk_102 Q 0 [some (vR 40 0), some (vI (nI k))] [] σ
  rcases (show k = 0 ∨ k = 1 ∨ k = 2 ∨ k = 3 ∨ k = 4 ∨ k = 5 ∨ k = 6 by omega) with rfl | rfl | rfl | rfl | rfl | rfl | rfl
  · skip
    refine qm_go 2 (fun P hP => And.intro (fun c => absurd c (by decide)) (fun _ => And.intro (fun c => absurd c (by decide)) (fun _ => And.intro (fun c => absurd c (by decide)) (fun _ => And.intro (fun c => absurd c (by decide)) (fun _ => And.intro (fun c => absurd c (by decide)) (fun _ => And.intro (fun c => absurd c (by decide)) (fun _ => hP ?_)))))))
    refine qm_go 2 (fun P hP => And.intro rfl h)
  · skip
    refine qm_go 2 (fun P hP => And.intro (fun _ => hP ?_) (fun n => absurd (by decide) n))
    refine qm_go 3 (fun P hP => And.intro rfl h)
  · skip
    refine qm_go 2 (fun P hP => And.intro (fun c => absurd c (by decide)) (fun _ => And.intro (fun _ => hP ?_) (fun n => absurd (by decide) n)))
    refine qm_go 3 (fun P hP => And.intro rfl h)
  · skip
    refine qm_go 2 (fun P hP => And.intro (fun c => absurd c (by decide)) (fun _ => And.intro (fun c => absurd c (by decide)) (fun _ => And.intro (fun _ => hP ?_) (fun n => absurd (by decide) n))))
    refine qm_go 3 (fun P hP => And.intro rfl h)
  · skip
    refine qm_go 2 (fun P hP => And.intro (fun c => absurd c (by decide)) (fun _ => And.intro (fun c => absurd c (by decide)) (fun _ => And.intro (fun c => absurd c (by decide)) (fun _ => And.intro (fun _ => hP ?_) (fun n => absurd (by decide) n)))))
    refine qm_go 3 (fun P hP => And.intro rfl h)
  · skip
    refine qm_go 2 (fun P hP => And.intro (fun c => absurd c (by decide)) (fun _ => And.intro (fun c => absurd c (by decide)) (fun _ => And.intro (fun c => absurd c (by decide)) (fun _ => And.intro (fun c => absurd c (by decide)) (fun _ => And.intro (fun _ => hP ?_) (fun n => absurd (by decide) n))))))
    refine qm_go 3 (fun P hP => And.intro rfl h)
  · skip
    refine qm_go 2 (fun P hP => And.intro (fun c => absurd c (by decide)) (fun _ => And.intro (fun c => absurd c (by decide)) (fun _ => And.intro (fun c => absurd c (by decide)) (fun _ => And.intro (fun c => absurd c (by decide)) (fun _ => And.intro (fun c => absurd c (by decide)) (fun _ => And.intro (fun _ => hP ?_) (fun n => absurd (by decide) n)))))))
    refine qm_go 3 (fun P hP => And.intro rfl h)
theorem c_taken {d : Nat} (hd : 2 ≤ d) {σ : qm_Sg} {Q : qm_Po} {A : AS} {s k9 : Int32} (hs : cS 0 σ A) (h : Q σ (some (vI (takenV A s k9)))) : qm_M d 90 [vR 0 0, vI s, vI k9] σ Q := by
  obtain ⟨d, rfl, hd⟩ := qm_dn hd
  show qm_Wp (qm_M d) qk_90 Q 0 [some (vR 0 0), some (vI s), some (vI k9), none] [] σ
  refine qm_go 3 (fun P hP => c_isWithin (n := 7) (by omega) (by decide) (fun ck => hP ?_) (fun ck => hP ?_))
  · refine qm_go 1 (fun P hP => And.intro (fun _ => hP ?_) (fun c => absurd c (by decide)))
    refine qm_go 4 (fun P hP => c_has (by omega) (Nat.lt_of_le_of_lt hs.le (by decide)) hs.n (fun ch => hP ?_) (fun ch => hP ?_))
    · refine qm_go 1 (fun P hP => And.intro (fun _ => hP ?_) (fun c => absurd c (by decide)))
      obtain ⟨k, hk, rfl⟩ := ck
      obtain ⟨p, hp, rfl⟩ := ch
      have hn6 := hs.le
      have hp6 : p < 6 := by omega
      obtain ⟨kk, hkk, ek⟩ := hs.kind hp
      rw [taken_3 hn6 hk hp hkk ek] at h
      have kp := (hs.kd p hp6).trans ek
      rcases (show kk = 0 ∨ kk = 1 ∨ kk = 2 ∨ kk = 3 ∨ kk = 4 ∨ kk = 5 ∨ kk = 6 by omega) with rfl | rfl | rfl | rfl | rfl | rfl | rfl
      · rcases (show k = 0 ∨ k = 1 ∨ k = 2 ∨ k = 3 ∨ k = 4 ∨ k = 5 ∨ k = 6 by omega) with rfl | rfl | rfl | rfl | rfl | rfl | rfl
        · skip
          refine qm_go 5 (fun P hP => Exists.intro (p) (And.intro (And.intro (rfl) (hp6)) (hP ?_)))
          rw [kp]
          refine qm_go 6 (fun P hP => Exists.intro (0) (And.intro (And.intro (rfl) (by decide)) (hP ?_)))
          refine qm_go 2 (fun P hP => c_isOf_0 (by omega) hk (hP ?_))
          refine qm_go 1 (fun P hP => And.intro (fun c => absurd c (by decide)) (fun _ => hP ?_))
          refine qm_go 3 (fun P hP => h)
        · skip
          refine qm_go 5 (fun P hP => Exists.intro (p) (And.intro (And.intro (rfl) (hp6)) (hP ?_)))
          rw [kp]
          refine qm_go 6 (fun P hP => Exists.intro (0) (And.intro (And.intro (rfl) (by decide)) (hP ?_)))
          refine qm_go 2 (fun P hP => c_isOf_0 (by omega) hk (hP ?_))
          refine qm_go 1 (fun P hP => And.intro (fun _ => hP ?_) (fun c => absurd rfl c))
          refine qm_go 2 (fun P hP => h)
        · skip
          refine qm_go 5 (fun P hP => Exists.intro (p) (And.intro (And.intro (rfl) (hp6)) (hP ?_)))
          rw [kp]
          refine qm_go 6 (fun P hP => Exists.intro (0) (And.intro (And.intro (rfl) (by decide)) (hP ?_)))
          refine qm_go 2 (fun P hP => c_isOf_0 (by omega) hk (hP ?_))
          refine qm_go 1 (fun P hP => And.intro (fun _ => hP ?_) (fun c => absurd rfl c))
          refine qm_go 2 (fun P hP => h)
        · skip
          refine qm_go 5 (fun P hP => Exists.intro (p) (And.intro (And.intro (rfl) (hp6)) (hP ?_)))
          rw [kp]
          refine qm_go 6 (fun P hP => Exists.intro (0) (And.intro (And.intro (rfl) (by decide)) (hP ?_)))
          refine qm_go 2 (fun P hP => c_isOf_0 (by omega) hk (hP ?_))
          refine qm_go 1 (fun P hP => And.intro (fun _ => hP ?_) (fun c => absurd rfl c))
          refine qm_go 2 (fun P hP => h)
        · skip
          refine qm_go 5 (fun P hP => Exists.intro (p) (And.intro (And.intro (rfl) (hp6)) (hP ?_)))
          rw [kp]
          refine qm_go 6 (fun P hP => Exists.intro (0) (And.intro (And.intro (rfl) (by decide)) (hP ?_)))
          refine qm_go 2 (fun P hP => c_isOf_0 (by omega) hk (hP ?_))
          refine qm_go 1 (fun P hP => And.intro (fun _ => hP ?_) (fun c => absurd rfl c))
          refine qm_go 2 (fun P hP => h)
        · skip
          refine qm_go 5 (fun P hP => Exists.intro (p) (And.intro (And.intro (rfl) (hp6)) (hP ?_)))
          rw [kp]
          refine qm_go 6 (fun P hP => Exists.intro (0) (And.intro (And.intro (rfl) (by decide)) (hP ?_)))
          refine qm_go 2 (fun P hP => c_isOf_0 (by omega) hk (hP ?_))
          refine qm_go 1 (fun P hP => And.intro (fun _ => hP ?_) (fun c => absurd rfl c))
          refine qm_go 2 (fun P hP => h)
        · skip
          refine qm_go 5 (fun P hP => Exists.intro (p) (And.intro (And.intro (rfl) (hp6)) (hP ?_)))
          rw [kp]
          refine qm_go 6 (fun P hP => Exists.intro (0) (And.intro (And.intro (rfl) (by decide)) (hP ?_)))
          refine qm_go 2 (fun P hP => c_isOf_0 (by omega) hk (hP ?_))
          refine qm_go 1 (fun P hP => And.intro (fun _ => hP ?_) (fun c => absurd rfl c))
          refine qm_go 2 (fun P hP => h)
      · rcases (show k = 0 ∨ k = 1 ∨ k = 2 ∨ k = 3 ∨ k = 4 ∨ k = 5 ∨ k = 6 by omega) with rfl | rfl | rfl | rfl | rfl | rfl | rfl
        · skip
          refine qm_go 5 (fun P hP => Exists.intro (p) (And.intro (And.intro (rfl) (hp6)) (hP ?_)))
          rw [kp]
          refine qm_go 6 (fun P hP => Exists.intro (1) (And.intro (And.intro (rfl) (by decide)) (hP ?_)))
          refine qm_go 2 (fun P hP => c_isOf_1 (by omega) hk (hP ?_))
          refine qm_go 1 (fun P hP => And.intro (fun c => absurd c (by decide)) (fun _ => hP ?_))
          refine qm_go 3 (fun P hP => h)
        · skip
          refine qm_go 5 (fun P hP => Exists.intro (p) (And.intro (And.intro (rfl) (hp6)) (hP ?_)))
          rw [kp]
          refine qm_go 6 (fun P hP => Exists.intro (1) (And.intro (And.intro (rfl) (by decide)) (hP ?_)))
          refine qm_go 2 (fun P hP => c_isOf_1 (by omega) hk (hP ?_))
          refine qm_go 1 (fun P hP => And.intro (fun c => absurd c (by decide)) (fun _ => hP ?_))
          refine qm_go 3 (fun P hP => h)
        · skip
          refine qm_go 5 (fun P hP => Exists.intro (p) (And.intro (And.intro (rfl) (hp6)) (hP ?_)))
          rw [kp]
          refine qm_go 6 (fun P hP => Exists.intro (1) (And.intro (And.intro (rfl) (by decide)) (hP ?_)))
          refine qm_go 2 (fun P hP => c_isOf_1 (by omega) hk (hP ?_))
          refine qm_go 1 (fun P hP => And.intro (fun _ => hP ?_) (fun c => absurd rfl c))
          refine qm_go 2 (fun P hP => h)
        · skip
          refine qm_go 5 (fun P hP => Exists.intro (p) (And.intro (And.intro (rfl) (hp6)) (hP ?_)))
          rw [kp]
          refine qm_go 6 (fun P hP => Exists.intro (1) (And.intro (And.intro (rfl) (by decide)) (hP ?_)))
          refine qm_go 2 (fun P hP => c_isOf_1 (by omega) hk (hP ?_))
          refine qm_go 1 (fun P hP => And.intro (fun _ => hP ?_) (fun c => absurd rfl c))
          refine qm_go 2 (fun P hP => h)
        · skip
          refine qm_go 5 (fun P hP => Exists.intro (p) (And.intro (And.intro (rfl) (hp6)) (hP ?_)))
          rw [kp]
          refine qm_go 6 (fun P hP => Exists.intro (1) (And.intro (And.intro (rfl) (by decide)) (hP ?_)))
          refine qm_go 2 (fun P hP => c_isOf_1 (by omega) hk (hP ?_))
          refine qm_go 1 (fun P hP => And.intro (fun _ => hP ?_) (fun c => absurd rfl c))
          refine qm_go 2 (fun P hP => h)
        · skip
          refine qm_go 5 (fun P hP => Exists.intro (p) (And.intro (And.intro (rfl) (hp6)) (hP ?_)))
          rw [kp]
          refine qm_go 6 (fun P hP => Exists.intro (1) (And.intro (And.intro (rfl) (by decide)) (hP ?_)))
          refine qm_go 2 (fun P hP => c_isOf_1 (by omega) hk (hP ?_))
          refine qm_go 1 (fun P hP => And.intro (fun _ => hP ?_) (fun c => absurd rfl c))
          refine qm_go 2 (fun P hP => h)
        · skip
          refine qm_go 5 (fun P hP => Exists.intro (p) (And.intro (And.intro (rfl) (hp6)) (hP ?_)))
          rw [kp]
          refine qm_go 6 (fun P hP => Exists.intro (1) (And.intro (And.intro (rfl) (by decide)) (hP ?_)))
          refine qm_go 2 (fun P hP => c_isOf_1 (by omega) hk (hP ?_))
          refine qm_go 1 (fun P hP => And.intro (fun _ => hP ?_) (fun c => absurd rfl c))
          refine qm_go 2 (fun P hP => h)
      · rcases (show k = 0 ∨ k = 1 ∨ k = 2 ∨ k = 3 ∨ k = 4 ∨ k = 5 ∨ k = 6 by omega) with rfl | rfl | rfl | rfl | rfl | rfl | rfl
        · skip
          refine qm_go 5 (fun P hP => Exists.intro (p) (And.intro (And.intro (rfl) (hp6)) (hP ?_)))
          rw [kp]
          refine qm_go 6 (fun P hP => Exists.intro (2) (And.intro (And.intro (rfl) (by decide)) (hP ?_)))
          refine qm_go 2 (fun P hP => c_isOf_2 (by omega) hk (hP ?_))
          refine qm_go 1 (fun P hP => And.intro (fun c => absurd c (by decide)) (fun _ => hP ?_))
          refine qm_go 3 (fun P hP => h)
        · skip
          refine qm_go 5 (fun P hP => Exists.intro (p) (And.intro (And.intro (rfl) (hp6)) (hP ?_)))
          rw [kp]
          refine qm_go 6 (fun P hP => Exists.intro (2) (And.intro (And.intro (rfl) (by decide)) (hP ?_)))
          refine qm_go 2 (fun P hP => c_isOf_2 (by omega) hk (hP ?_))
          refine qm_go 1 (fun P hP => And.intro (fun _ => hP ?_) (fun c => absurd rfl c))
          refine qm_go 2 (fun P hP => h)
        · skip
          refine qm_go 5 (fun P hP => Exists.intro (p) (And.intro (And.intro (rfl) (hp6)) (hP ?_)))
          rw [kp]
          refine qm_go 6 (fun P hP => Exists.intro (2) (And.intro (And.intro (rfl) (by decide)) (hP ?_)))
          refine qm_go 2 (fun P hP => c_isOf_2 (by omega) hk (hP ?_))
          refine qm_go 1 (fun P hP => And.intro (fun c => absurd c (by decide)) (fun _ => hP ?_))
          refine qm_go 3 (fun P hP => h)
        · skip
          refine qm_go 5 (fun P hP => Exists.intro (p) (And.intro (And.intro (rfl) (hp6)) (hP ?_)))
          rw [kp]
          refine qm_go 6 (fun P hP => Exists.intro (2) (And.intro (And.intro (rfl) (by decide)) (hP ?_)))
          refine qm_go 2 (fun P hP => c_isOf_2 (by omega) hk (hP ?_))
          refine qm_go 1 (fun P hP => And.intro (fun _ => hP ?_) (fun c => absurd rfl c))
          refine qm_go 2 (fun P hP => h)
        · skip
          refine qm_go 5 (fun P hP => Exists.intro (p) (And.intro (And.intro (rfl) (hp6)) (hP ?_)))
          rw [kp]
          refine qm_go 6 (fun P hP => Exists.intro (2) (And.intro (And.intro (rfl) (by decide)) (hP ?_)))
          refine qm_go 2 (fun P hP => c_isOf_2 (by omega) hk (hP ?_))
          refine qm_go 1 (fun P hP => And.intro (fun _ => hP ?_) (fun c => absurd rfl c))
          refine qm_go 2 (fun P hP => h)
        · skip
          refine qm_go 5 (fun P hP => Exists.intro (p) (And.intro (And.intro (rfl) (hp6)) (hP ?_)))
          rw [kp]
          refine qm_go 6 (fun P hP => Exists.intro (2) (And.intro (And.intro (rfl) (by decide)) (hP ?_)))
          refine qm_go 2 (fun P hP => c_isOf_2 (by omega) hk (hP ?_))
          refine qm_go 1 (fun P hP => And.intro (fun _ => hP ?_) (fun c => absurd rfl c))
          refine qm_go 2 (fun P hP => h)
        · skip
          refine qm_go 5 (fun P hP => Exists.intro (p) (And.intro (And.intro (rfl) (hp6)) (hP ?_)))
          rw [kp]
          refine qm_go 6 (fun P hP => Exists.intro (2) (And.intro (And.intro (rfl) (by decide)) (hP ?_)))
          refine qm_go 2 (fun P hP => c_isOf_2 (by omega) hk (hP ?_))
          refine qm_go 1 (fun P hP => And.intro (fun _ => hP ?_) (fun c => absurd rfl c))
          refine qm_go 2 (fun P hP => h)
      · rcases (show k = 0 ∨ k = 1 ∨ k = 2 ∨ k = 3 ∨ k = 4 ∨ k = 5 ∨ k = 6 by omega) with rfl | rfl | rfl | rfl | rfl | rfl | rfl
        · skip
          refine qm_go 5 (fun P hP => Exists.intro (p) (And.intro (And.intro (rfl) (hp6)) (hP ?_)))
          rw [kp]
          refine qm_go 6 (fun P hP => Exists.intro (3) (And.intro (And.intro (rfl) (by decide)) (hP ?_)))
          refine qm_go 2 (fun P hP => c_isOf_3 (by omega) hk (hP ?_))
          refine qm_go 1 (fun P hP => And.intro (fun c => absurd c (by decide)) (fun _ => hP ?_))
          refine qm_go 3 (fun P hP => h)
        · skip
          refine qm_go 5 (fun P hP => Exists.intro (p) (And.intro (And.intro (rfl) (hp6)) (hP ?_)))
          rw [kp]
          refine qm_go 6 (fun P hP => Exists.intro (3) (And.intro (And.intro (rfl) (by decide)) (hP ?_)))
          refine qm_go 2 (fun P hP => c_isOf_3 (by omega) hk (hP ?_))
          refine qm_go 1 (fun P hP => And.intro (fun _ => hP ?_) (fun c => absurd rfl c))
          refine qm_go 2 (fun P hP => h)
        · skip
          refine qm_go 5 (fun P hP => Exists.intro (p) (And.intro (And.intro (rfl) (hp6)) (hP ?_)))
          rw [kp]
          refine qm_go 6 (fun P hP => Exists.intro (3) (And.intro (And.intro (rfl) (by decide)) (hP ?_)))
          refine qm_go 2 (fun P hP => c_isOf_3 (by omega) hk (hP ?_))
          refine qm_go 1 (fun P hP => And.intro (fun _ => hP ?_) (fun c => absurd rfl c))
          refine qm_go 2 (fun P hP => h)
        · skip
          refine qm_go 5 (fun P hP => Exists.intro (p) (And.intro (And.intro (rfl) (hp6)) (hP ?_)))
          rw [kp]
          refine qm_go 6 (fun P hP => Exists.intro (3) (And.intro (And.intro (rfl) (by decide)) (hP ?_)))
          refine qm_go 2 (fun P hP => c_isOf_3 (by omega) hk (hP ?_))
          refine qm_go 1 (fun P hP => And.intro (fun c => absurd c (by decide)) (fun _ => hP ?_))
          refine qm_go 3 (fun P hP => h)
        · skip
          refine qm_go 5 (fun P hP => Exists.intro (p) (And.intro (And.intro (rfl) (hp6)) (hP ?_)))
          rw [kp]
          refine qm_go 6 (fun P hP => Exists.intro (3) (And.intro (And.intro (rfl) (by decide)) (hP ?_)))
          refine qm_go 2 (fun P hP => c_isOf_3 (by omega) hk (hP ?_))
          refine qm_go 1 (fun P hP => And.intro (fun _ => hP ?_) (fun c => absurd rfl c))
          refine qm_go 2 (fun P hP => h)
        · skip
          refine qm_go 5 (fun P hP => Exists.intro (p) (And.intro (And.intro (rfl) (hp6)) (hP ?_)))
          rw [kp]
          refine qm_go 6 (fun P hP => Exists.intro (3) (And.intro (And.intro (rfl) (by decide)) (hP ?_)))
          refine qm_go 2 (fun P hP => c_isOf_3 (by omega) hk (hP ?_))
          refine qm_go 1 (fun P hP => And.intro (fun _ => hP ?_) (fun c => absurd rfl c))
          refine qm_go 2 (fun P hP => h)
        · skip
          refine qm_go 5 (fun P hP => Exists.intro (p) (And.intro (And.intro (rfl) (hp6)) (hP ?_)))
          rw [kp]
          refine qm_go 6 (fun P hP => Exists.intro (3) (And.intro (And.intro (rfl) (by decide)) (hP ?_)))
          refine qm_go 2 (fun P hP => c_isOf_3 (by omega) hk (hP ?_))
          refine qm_go 1 (fun P hP => And.intro (fun _ => hP ?_) (fun c => absurd rfl c))
          refine qm_go 2 (fun P hP => h)
      · rcases (show k = 0 ∨ k = 1 ∨ k = 2 ∨ k = 3 ∨ k = 4 ∨ k = 5 ∨ k = 6 by omega) with rfl | rfl | rfl | rfl | rfl | rfl | rfl
        · skip
          refine qm_go 5 (fun P hP => Exists.intro (p) (And.intro (And.intro (rfl) (hp6)) (hP ?_)))
          rw [kp]
          refine qm_go 6 (fun P hP => Exists.intro (4) (And.intro (And.intro (rfl) (by decide)) (hP ?_)))
          refine qm_go 2 (fun P hP => c_isOf_4 (by omega) hk (hP ?_))
          refine qm_go 1 (fun P hP => And.intro (fun c => absurd c (by decide)) (fun _ => hP ?_))
          refine qm_go 3 (fun P hP => h)
        · skip
          refine qm_go 5 (fun P hP => Exists.intro (p) (And.intro (And.intro (rfl) (hp6)) (hP ?_)))
          rw [kp]
          refine qm_go 6 (fun P hP => Exists.intro (4) (And.intro (And.intro (rfl) (by decide)) (hP ?_)))
          refine qm_go 2 (fun P hP => c_isOf_4 (by omega) hk (hP ?_))
          refine qm_go 1 (fun P hP => And.intro (fun c => absurd c (by decide)) (fun _ => hP ?_))
          refine qm_go 3 (fun P hP => h)
        · skip
          refine qm_go 5 (fun P hP => Exists.intro (p) (And.intro (And.intro (rfl) (hp6)) (hP ?_)))
          rw [kp]
          refine qm_go 6 (fun P hP => Exists.intro (4) (And.intro (And.intro (rfl) (by decide)) (hP ?_)))
          refine qm_go 2 (fun P hP => c_isOf_4 (by omega) hk (hP ?_))
          refine qm_go 1 (fun P hP => And.intro (fun _ => hP ?_) (fun c => absurd rfl c))
          refine qm_go 2 (fun P hP => h)
        · skip
          refine qm_go 5 (fun P hP => Exists.intro (p) (And.intro (And.intro (rfl) (hp6)) (hP ?_)))
          rw [kp]
          refine qm_go 6 (fun P hP => Exists.intro (4) (And.intro (And.intro (rfl) (by decide)) (hP ?_)))
          refine qm_go 2 (fun P hP => c_isOf_4 (by omega) hk (hP ?_))
          refine qm_go 1 (fun P hP => And.intro (fun _ => hP ?_) (fun c => absurd rfl c))
          refine qm_go 2 (fun P hP => h)
        · skip
          refine qm_go 5 (fun P hP => Exists.intro (p) (And.intro (And.intro (rfl) (hp6)) (hP ?_)))
          rw [kp]
          refine qm_go 6 (fun P hP => Exists.intro (4) (And.intro (And.intro (rfl) (by decide)) (hP ?_)))
          refine qm_go 2 (fun P hP => c_isOf_4 (by omega) hk (hP ?_))
          refine qm_go 1 (fun P hP => And.intro (fun c => absurd c (by decide)) (fun _ => hP ?_))
          refine qm_go 3 (fun P hP => h)
        · skip
          refine qm_go 5 (fun P hP => Exists.intro (p) (And.intro (And.intro (rfl) (hp6)) (hP ?_)))
          rw [kp]
          refine qm_go 6 (fun P hP => Exists.intro (4) (And.intro (And.intro (rfl) (by decide)) (hP ?_)))
          refine qm_go 2 (fun P hP => c_isOf_4 (by omega) hk (hP ?_))
          refine qm_go 1 (fun P hP => And.intro (fun _ => hP ?_) (fun c => absurd rfl c))
          refine qm_go 2 (fun P hP => h)
        · skip
          refine qm_go 5 (fun P hP => Exists.intro (p) (And.intro (And.intro (rfl) (hp6)) (hP ?_)))
          rw [kp]
          refine qm_go 6 (fun P hP => Exists.intro (4) (And.intro (And.intro (rfl) (by decide)) (hP ?_)))
          refine qm_go 2 (fun P hP => c_isOf_4 (by omega) hk (hP ?_))
          refine qm_go 1 (fun P hP => And.intro (fun _ => hP ?_) (fun c => absurd rfl c))
          refine qm_go 2 (fun P hP => h)
      · rcases (show k = 0 ∨ k = 1 ∨ k = 2 ∨ k = 3 ∨ k = 4 ∨ k = 5 ∨ k = 6 by omega) with rfl | rfl | rfl | rfl | rfl | rfl | rfl
        · skip
          refine qm_go 5 (fun P hP => Exists.intro (p) (And.intro (And.intro (rfl) (hp6)) (hP ?_)))
          rw [kp]
          refine qm_go 6 (fun P hP => Exists.intro (5) (And.intro (And.intro (rfl) (by decide)) (hP ?_)))
          refine qm_go 2 (fun P hP => c_isOf_5 (by omega) hk (hP ?_))
          refine qm_go 1 (fun P hP => And.intro (fun c => absurd c (by decide)) (fun _ => hP ?_))
          refine qm_go 3 (fun P hP => h)
        · skip
          refine qm_go 5 (fun P hP => Exists.intro (p) (And.intro (And.intro (rfl) (hp6)) (hP ?_)))
          rw [kp]
          refine qm_go 6 (fun P hP => Exists.intro (5) (And.intro (And.intro (rfl) (by decide)) (hP ?_)))
          refine qm_go 2 (fun P hP => c_isOf_5 (by omega) hk (hP ?_))
          refine qm_go 1 (fun P hP => And.intro (fun _ => hP ?_) (fun c => absurd rfl c))
          refine qm_go 2 (fun P hP => h)
        · skip
          refine qm_go 5 (fun P hP => Exists.intro (p) (And.intro (And.intro (rfl) (hp6)) (hP ?_)))
          rw [kp]
          refine qm_go 6 (fun P hP => Exists.intro (5) (And.intro (And.intro (rfl) (by decide)) (hP ?_)))
          refine qm_go 2 (fun P hP => c_isOf_5 (by omega) hk (hP ?_))
          refine qm_go 1 (fun P hP => And.intro (fun c => absurd c (by decide)) (fun _ => hP ?_))
          refine qm_go 3 (fun P hP => h)
        · skip
          refine qm_go 5 (fun P hP => Exists.intro (p) (And.intro (And.intro (rfl) (hp6)) (hP ?_)))
          rw [kp]
          refine qm_go 6 (fun P hP => Exists.intro (5) (And.intro (And.intro (rfl) (by decide)) (hP ?_)))
          refine qm_go 2 (fun P hP => c_isOf_5 (by omega) hk (hP ?_))
          refine qm_go 1 (fun P hP => And.intro (fun _ => hP ?_) (fun c => absurd rfl c))
          refine qm_go 2 (fun P hP => h)
        · skip
          refine qm_go 5 (fun P hP => Exists.intro (p) (And.intro (And.intro (rfl) (hp6)) (hP ?_)))
          rw [kp]
          refine qm_go 6 (fun P hP => Exists.intro (5) (And.intro (And.intro (rfl) (by decide)) (hP ?_)))
          refine qm_go 2 (fun P hP => c_isOf_5 (by omega) hk (hP ?_))
          refine qm_go 1 (fun P hP => And.intro (fun _ => hP ?_) (fun c => absurd rfl c))
          refine qm_go 2 (fun P hP => h)
        · skip
          refine qm_go 5 (fun P hP => Exists.intro (p) (And.intro (And.intro (rfl) (hp6)) (hP ?_)))
          rw [kp]
          refine qm_go 6 (fun P hP => Exists.intro (5) (And.intro (And.intro (rfl) (by decide)) (hP ?_)))
          refine qm_go 2 (fun P hP => c_isOf_5 (by omega) hk (hP ?_))
          refine qm_go 1 (fun P hP => And.intro (fun c => absurd c (by decide)) (fun _ => hP ?_))
          refine qm_go 3 (fun P hP => h)
        · skip
          refine qm_go 5 (fun P hP => Exists.intro (p) (And.intro (And.intro (rfl) (hp6)) (hP ?_)))
          rw [kp]
          refine qm_go 6 (fun P hP => Exists.intro (5) (And.intro (And.intro (rfl) (by decide)) (hP ?_)))
          refine qm_go 2 (fun P hP => c_isOf_5 (by omega) hk (hP ?_))
          refine qm_go 1 (fun P hP => And.intro (fun _ => hP ?_) (fun c => absurd rfl c))
          refine qm_go 2 (fun P hP => h)
      · rcases (show k = 0 ∨ k = 1 ∨ k = 2 ∨ k = 3 ∨ k = 4 ∨ k = 5 ∨ k = 6 by omega) with rfl | rfl | rfl | rfl | rfl | rfl | rfl
        · skip
          refine qm_go 5 (fun P hP => Exists.intro (p) (And.intro (And.intro (rfl) (hp6)) (hP ?_)))
          rw [kp]
          refine qm_go 6 (fun P hP => Exists.intro (6) (And.intro (And.intro (rfl) (by decide)) (hP ?_)))
          refine qm_go 2 (fun P hP => c_isOf_6 (by omega) hk (hP ?_))
          refine qm_go 1 (fun P hP => And.intro (fun c => absurd c (by decide)) (fun _ => hP ?_))
          refine qm_go 3 (fun P hP => h)
        · skip
          refine qm_go 5 (fun P hP => Exists.intro (p) (And.intro (And.intro (rfl) (hp6)) (hP ?_)))
          rw [kp]
          refine qm_go 6 (fun P hP => Exists.intro (6) (And.intro (And.intro (rfl) (by decide)) (hP ?_)))
          refine qm_go 2 (fun P hP => c_isOf_6 (by omega) hk (hP ?_))
          refine qm_go 1 (fun P hP => And.intro (fun _ => hP ?_) (fun c => absurd rfl c))
          refine qm_go 2 (fun P hP => h)
        · skip
          refine qm_go 5 (fun P hP => Exists.intro (p) (And.intro (And.intro (rfl) (hp6)) (hP ?_)))
          rw [kp]
          refine qm_go 6 (fun P hP => Exists.intro (6) (And.intro (And.intro (rfl) (by decide)) (hP ?_)))
          refine qm_go 2 (fun P hP => c_isOf_6 (by omega) hk (hP ?_))
          refine qm_go 1 (fun P hP => And.intro (fun _ => hP ?_) (fun c => absurd rfl c))
          refine qm_go 2 (fun P hP => h)
        · skip
          refine qm_go 5 (fun P hP => Exists.intro (p) (And.intro (And.intro (rfl) (hp6)) (hP ?_)))
          rw [kp]
          refine qm_go 6 (fun P hP => Exists.intro (6) (And.intro (And.intro (rfl) (by decide)) (hP ?_)))
          refine qm_go 2 (fun P hP => c_isOf_6 (by omega) hk (hP ?_))
          refine qm_go 1 (fun P hP => And.intro (fun c => absurd c (by decide)) (fun _ => hP ?_))
          refine qm_go 3 (fun P hP => h)
        · skip
          refine qm_go 5 (fun P hP => Exists.intro (p) (And.intro (And.intro (rfl) (hp6)) (hP ?_)))
          rw [kp]
          refine qm_go 6 (fun P hP => Exists.intro (6) (And.intro (And.intro (rfl) (by decide)) (hP ?_)))
          refine qm_go 2 (fun P hP => c_isOf_6 (by omega) hk (hP ?_))
          refine qm_go 1 (fun P hP => And.intro (fun _ => hP ?_) (fun c => absurd rfl c))
          refine qm_go 2 (fun P hP => h)
        · skip
          refine qm_go 5 (fun P hP => Exists.intro (p) (And.intro (And.intro (rfl) (hp6)) (hP ?_)))
          rw [kp]
          refine qm_go 6 (fun P hP => Exists.intro (6) (And.intro (And.intro (rfl) (by decide)) (hP ?_)))
          refine qm_go 2 (fun P hP => c_isOf_6 (by omega) hk (hP ?_))
          refine qm_go 1 (fun P hP => And.intro (fun _ => hP ?_) (fun c => absurd rfl c))
          refine qm_go 2 (fun P hP => h)
        · skip
          refine qm_go 5 (fun P hP => Exists.intro (p) (And.intro (And.intro (rfl) (hp6)) (hP ?_)))
          rw [kp]
          refine qm_go 6 (fun P hP => Exists.intro (6) (And.intro (And.intro (rfl) (by decide)) (hP ?_)))
          refine qm_go 2 (fun P hP => c_isOf_6 (by omega) hk (hP ?_))
          refine qm_go 1 (fun P hP => And.intro (fun c => absurd c (by decide)) (fun _ => hP ?_))
          refine qm_go 3 (fun P hP => h)
    · refine qm_go 1 (fun P hP => And.intro (fun c => absurd (by decide) c) (fun _ => hP ?_))
      refine qm_go 2 (fun P hP => ?_)
      rw [taken_2 ck ch] at h
      exact h
  · refine qm_go 1 (fun P hP => And.intro (fun c => absurd (by decide) c) (fun _ => hP ?_))
    refine qm_go 2 (fun P hP => ?_)
    rw [taken_1 ck] at h
    exact h
theorem m_taken {d : Nat} (hd : 3 ≤ d) {σ : qm_Sg} {Q : qm_Po} {A : AS} {s k9 : Int32} (hs : mS σ A) (h : Q σ (some (vI (takenV A s k9)))) : qm_M d 189 [vR 50 0, vI s, vI k9] σ Q := by
  obtain ⟨d, rfl, hd⟩ := qm_dn hd
  show qm_Wp (qm_M d) qk_189 Q 0 [some (vR 50 0), some (vI s), some (vI k9), none] [] σ
  refine qm_go 5 (fun P hP => m_inR 7 (by decide) rfl (hd := by omega) (fun ck => hP ?_) (fun ck => hP ?_))
  · refine qm_go 1 (fun P hP => And.intro (fun _ => hP ?_) (fun c => absurd c (by decide)))
    refine qm_go 3 (fun P hP => m_isOne (by omega) (Nat.lt_of_le_of_lt hs.le (by decide)) hs.n (fun ch => hP ?_) (fun ch => hP ?_))
    · refine qm_go 1 (fun P hP => And.intro (fun _ => hP ?_) (fun c => absurd c (by decide)))
      obtain ⟨k, hk, rfl⟩ := ck
      obtain ⟨p, hp, rfl⟩ := ch
      have hn6 := hs.le
      have hp6 : p < 6 := by omega
      obtain ⟨kk, hkk, ek⟩ := hs.kind hp
      rw [taken_3 hn6 hk hp hkk ek] at h
      have kp := (hs.kd p hp6).trans ek
      rcases (show kk = 0 ∨ kk = 1 ∨ kk = 2 ∨ kk = 3 ∨ kk = 4 ∨ kk = 5 ∨ kk = 6 by omega) with rfl | rfl | rfl | rfl | rfl | rfl | rfl
      · rcases (show k = 0 ∨ k = 1 ∨ k = 2 ∨ k = 3 ∨ k = 4 ∨ k = 5 ∨ k = 6 by omega) with rfl | rfl | rfl | rfl | rfl | rfl | rfl
        · skip
          refine qm_go 4 (fun P hP => Exists.intro (p) (And.intro (And.intro (rfl) (hp6)) (hP ?_)))
          rw [kp]
          refine qm_go 3 (fun P hP => And.intro (fun _ => hP ?_) (fun c => absurd rfl c))
          refine qm_go 3 (fun P hP => h)
        · skip
          refine qm_go 4 (fun P hP => Exists.intro (p) (And.intro (And.intro (rfl) (hp6)) (hP ?_)))
          rw [kp]
          refine qm_go 3 (fun P hP => And.intro (fun c => absurd c (by decide)) (fun _ => hP ?_))
          refine qm_go 3 (fun P hP => And.intro (fun c => absurd c (by decide)) (fun _ => hP ?_))
          refine qm_go 3 (fun P hP => And.intro (fun c => absurd rfl c) (fun _ => hP ?_))
          refine qm_go 3 (fun P hP => And.intro (fun c => absurd c (by decide)) (fun _ => hP ?_))
          refine qm_go 3 (fun P hP => And.intro (fun _ => hP ?_) (fun c => absurd c (by decide)))
          refine qm_go 3 (fun P hP => And.intro (fun _ => hP ?_) (fun c => absurd c (by decide)))
          refine qm_go 2 (fun P hP => h)
        · skip
          refine qm_go 4 (fun P hP => Exists.intro (p) (And.intro (And.intro (rfl) (hp6)) (hP ?_)))
          rw [kp]
          refine qm_go 3 (fun P hP => And.intro (fun c => absurd c (by decide)) (fun _ => hP ?_))
          refine qm_go 3 (fun P hP => And.intro (fun c => absurd c (by decide)) (fun _ => hP ?_))
          refine qm_go 3 (fun P hP => And.intro (fun _ => hP ?_) (fun c => absurd c (by decide)))
          refine qm_go 3 (fun P hP => And.intro (fun c => absurd rfl c) (fun _ => hP ?_))
          refine qm_go 3 (fun P hP => And.intro (fun c => absurd c (by decide)) (fun _ => hP ?_))
          refine qm_go 3 (fun P hP => And.intro (fun _ => hP ?_) (fun c => absurd c (by decide)))
          refine qm_go 2 (fun P hP => h)
        · skip
          refine qm_go 4 (fun P hP => Exists.intro (p) (And.intro (And.intro (rfl) (hp6)) (hP ?_)))
          rw [kp]
          refine qm_go 3 (fun P hP => And.intro (fun c => absurd c (by decide)) (fun _ => hP ?_))
          refine qm_go 3 (fun P hP => And.intro (fun c => absurd c (by decide)) (fun _ => hP ?_))
          refine qm_go 3 (fun P hP => And.intro (fun _ => hP ?_) (fun c => absurd c (by decide)))
          refine qm_go 3 (fun P hP => And.intro (fun _ => hP ?_) (fun c => absurd c (by decide)))
          refine qm_go 3 (fun P hP => And.intro (fun c => absurd rfl c) (fun _ => hP ?_))
          refine qm_go 3 (fun P hP => And.intro (fun _ => hP ?_) (fun c => absurd c (by decide)))
          refine qm_go 2 (fun P hP => h)
        · skip
          refine qm_go 4 (fun P hP => Exists.intro (p) (And.intro (And.intro (rfl) (hp6)) (hP ?_)))
          rw [kp]
          refine qm_go 3 (fun P hP => And.intro (fun c => absurd c (by decide)) (fun _ => hP ?_))
          refine qm_go 3 (fun P hP => And.intro (fun c => absurd c (by decide)) (fun _ => hP ?_))
          refine qm_go 3 (fun P hP => And.intro (fun _ => hP ?_) (fun c => absurd c (by decide)))
          refine qm_go 3 (fun P hP => And.intro (fun _ => hP ?_) (fun c => absurd c (by decide)))
          refine qm_go 3 (fun P hP => And.intro (fun _ => hP ?_) (fun c => absurd c (by decide)))
          refine qm_go 2 (fun P hP => h)
        · skip
          refine qm_go 4 (fun P hP => Exists.intro (p) (And.intro (And.intro (rfl) (hp6)) (hP ?_)))
          rw [kp]
          refine qm_go 3 (fun P hP => And.intro (fun c => absurd c (by decide)) (fun _ => hP ?_))
          refine qm_go 3 (fun P hP => And.intro (fun c => absurd c (by decide)) (fun _ => hP ?_))
          refine qm_go 3 (fun P hP => And.intro (fun _ => hP ?_) (fun c => absurd c (by decide)))
          refine qm_go 3 (fun P hP => And.intro (fun _ => hP ?_) (fun c => absurd c (by decide)))
          refine qm_go 3 (fun P hP => And.intro (fun _ => hP ?_) (fun c => absurd c (by decide)))
          refine qm_go 2 (fun P hP => h)
        · skip
          refine qm_go 4 (fun P hP => Exists.intro (p) (And.intro (And.intro (rfl) (hp6)) (hP ?_)))
          rw [kp]
          refine qm_go 3 (fun P hP => And.intro (fun c => absurd c (by decide)) (fun _ => hP ?_))
          refine qm_go 3 (fun P hP => And.intro (fun c => absurd c (by decide)) (fun _ => hP ?_))
          refine qm_go 3 (fun P hP => And.intro (fun _ => hP ?_) (fun c => absurd c (by decide)))
          refine qm_go 3 (fun P hP => And.intro (fun _ => hP ?_) (fun c => absurd c (by decide)))
          refine qm_go 3 (fun P hP => And.intro (fun _ => hP ?_) (fun c => absurd c (by decide)))
          refine qm_go 2 (fun P hP => h)
      · rcases (show k = 0 ∨ k = 1 ∨ k = 2 ∨ k = 3 ∨ k = 4 ∨ k = 5 ∨ k = 6 by omega) with rfl | rfl | rfl | rfl | rfl | rfl | rfl
        · skip
          refine qm_go 4 (fun P hP => Exists.intro (p) (And.intro (And.intro (rfl) (hp6)) (hP ?_)))
          rw [kp]
          refine qm_go 3 (fun P hP => And.intro (fun _ => hP ?_) (fun c => absurd rfl c))
          refine qm_go 3 (fun P hP => h)
        · skip
          refine qm_go 4 (fun P hP => Exists.intro (p) (And.intro (And.intro (rfl) (hp6)) (hP ?_)))
          rw [kp]
          refine qm_go 3 (fun P hP => And.intro (fun c => absurd c (by decide)) (fun _ => hP ?_))
          refine qm_go 3 (fun P hP => And.intro (fun _ => hP ?_) (fun c => absurd rfl c))
          refine qm_go 3 (fun P hP => h)
        · skip
          refine qm_go 4 (fun P hP => Exists.intro (p) (And.intro (And.intro (rfl) (hp6)) (hP ?_)))
          rw [kp]
          refine qm_go 3 (fun P hP => And.intro (fun c => absurd c (by decide)) (fun _ => hP ?_))
          refine qm_go 3 (fun P hP => And.intro (fun c => absurd c (by decide)) (fun _ => hP ?_))
          refine qm_go 3 (fun P hP => And.intro (fun _ => hP ?_) (fun c => absurd c (by decide)))
          refine qm_go 3 (fun P hP => And.intro (fun c => absurd rfl c) (fun _ => hP ?_))
          refine qm_go 3 (fun P hP => And.intro (fun c => absurd c (by decide)) (fun _ => hP ?_))
          refine qm_go 3 (fun P hP => And.intro (fun _ => hP ?_) (fun c => absurd c (by decide)))
          refine qm_go 2 (fun P hP => h)
        · skip
          refine qm_go 4 (fun P hP => Exists.intro (p) (And.intro (And.intro (rfl) (hp6)) (hP ?_)))
          rw [kp]
          refine qm_go 3 (fun P hP => And.intro (fun c => absurd c (by decide)) (fun _ => hP ?_))
          refine qm_go 3 (fun P hP => And.intro (fun c => absurd c (by decide)) (fun _ => hP ?_))
          refine qm_go 3 (fun P hP => And.intro (fun _ => hP ?_) (fun c => absurd c (by decide)))
          refine qm_go 3 (fun P hP => And.intro (fun _ => hP ?_) (fun c => absurd c (by decide)))
          refine qm_go 3 (fun P hP => And.intro (fun c => absurd rfl c) (fun _ => hP ?_))
          refine qm_go 3 (fun P hP => And.intro (fun _ => hP ?_) (fun c => absurd c (by decide)))
          refine qm_go 2 (fun P hP => h)
        · skip
          refine qm_go 4 (fun P hP => Exists.intro (p) (And.intro (And.intro (rfl) (hp6)) (hP ?_)))
          rw [kp]
          refine qm_go 3 (fun P hP => And.intro (fun c => absurd c (by decide)) (fun _ => hP ?_))
          refine qm_go 3 (fun P hP => And.intro (fun c => absurd c (by decide)) (fun _ => hP ?_))
          refine qm_go 3 (fun P hP => And.intro (fun _ => hP ?_) (fun c => absurd c (by decide)))
          refine qm_go 3 (fun P hP => And.intro (fun _ => hP ?_) (fun c => absurd c (by decide)))
          refine qm_go 3 (fun P hP => And.intro (fun _ => hP ?_) (fun c => absurd c (by decide)))
          refine qm_go 2 (fun P hP => h)
        · skip
          refine qm_go 4 (fun P hP => Exists.intro (p) (And.intro (And.intro (rfl) (hp6)) (hP ?_)))
          rw [kp]
          refine qm_go 3 (fun P hP => And.intro (fun c => absurd c (by decide)) (fun _ => hP ?_))
          refine qm_go 3 (fun P hP => And.intro (fun c => absurd c (by decide)) (fun _ => hP ?_))
          refine qm_go 3 (fun P hP => And.intro (fun _ => hP ?_) (fun c => absurd c (by decide)))
          refine qm_go 3 (fun P hP => And.intro (fun _ => hP ?_) (fun c => absurd c (by decide)))
          refine qm_go 3 (fun P hP => And.intro (fun _ => hP ?_) (fun c => absurd c (by decide)))
          refine qm_go 2 (fun P hP => h)
        · skip
          refine qm_go 4 (fun P hP => Exists.intro (p) (And.intro (And.intro (rfl) (hp6)) (hP ?_)))
          rw [kp]
          refine qm_go 3 (fun P hP => And.intro (fun c => absurd c (by decide)) (fun _ => hP ?_))
          refine qm_go 3 (fun P hP => And.intro (fun c => absurd c (by decide)) (fun _ => hP ?_))
          refine qm_go 3 (fun P hP => And.intro (fun _ => hP ?_) (fun c => absurd c (by decide)))
          refine qm_go 3 (fun P hP => And.intro (fun _ => hP ?_) (fun c => absurd c (by decide)))
          refine qm_go 3 (fun P hP => And.intro (fun _ => hP ?_) (fun c => absurd c (by decide)))
          refine qm_go 2 (fun P hP => h)
      · rcases (show k = 0 ∨ k = 1 ∨ k = 2 ∨ k = 3 ∨ k = 4 ∨ k = 5 ∨ k = 6 by omega) with rfl | rfl | rfl | rfl | rfl | rfl | rfl
        · skip
          refine qm_go 4 (fun P hP => Exists.intro (p) (And.intro (And.intro (rfl) (hp6)) (hP ?_)))
          rw [kp]
          refine qm_go 3 (fun P hP => And.intro (fun _ => hP ?_) (fun c => absurd rfl c))
          refine qm_go 3 (fun P hP => h)
        · skip
          refine qm_go 4 (fun P hP => Exists.intro (p) (And.intro (And.intro (rfl) (hp6)) (hP ?_)))
          rw [kp]
          refine qm_go 3 (fun P hP => And.intro (fun c => absurd c (by decide)) (fun _ => hP ?_))
          refine qm_go 3 (fun P hP => And.intro (fun c => absurd c (by decide)) (fun _ => hP ?_))
          refine qm_go 3 (fun P hP => And.intro (fun c => absurd rfl c) (fun _ => hP ?_))
          refine qm_go 3 (fun P hP => And.intro (fun c => absurd c (by decide)) (fun _ => hP ?_))
          refine qm_go 3 (fun P hP => And.intro (fun _ => hP ?_) (fun c => absurd c (by decide)))
          refine qm_go 3 (fun P hP => And.intro (fun _ => hP ?_) (fun c => absurd c (by decide)))
          refine qm_go 2 (fun P hP => h)
        · skip
          refine qm_go 4 (fun P hP => Exists.intro (p) (And.intro (And.intro (rfl) (hp6)) (hP ?_)))
          rw [kp]
          refine qm_go 3 (fun P hP => And.intro (fun c => absurd c (by decide)) (fun _ => hP ?_))
          refine qm_go 3 (fun P hP => And.intro (fun _ => hP ?_) (fun c => absurd rfl c))
          refine qm_go 3 (fun P hP => h)
        · skip
          refine qm_go 4 (fun P hP => Exists.intro (p) (And.intro (And.intro (rfl) (hp6)) (hP ?_)))
          rw [kp]
          refine qm_go 3 (fun P hP => And.intro (fun c => absurd c (by decide)) (fun _ => hP ?_))
          refine qm_go 3 (fun P hP => And.intro (fun c => absurd c (by decide)) (fun _ => hP ?_))
          refine qm_go 3 (fun P hP => And.intro (fun _ => hP ?_) (fun c => absurd c (by decide)))
          refine qm_go 3 (fun P hP => And.intro (fun _ => hP ?_) (fun c => absurd c (by decide)))
          refine qm_go 3 (fun P hP => And.intro (fun c => absurd rfl c) (fun _ => hP ?_))
          refine qm_go 3 (fun P hP => And.intro (fun _ => hP ?_) (fun c => absurd c (by decide)))
          refine qm_go 2 (fun P hP => h)
        · skip
          refine qm_go 4 (fun P hP => Exists.intro (p) (And.intro (And.intro (rfl) (hp6)) (hP ?_)))
          rw [kp]
          refine qm_go 3 (fun P hP => And.intro (fun c => absurd c (by decide)) (fun _ => hP ?_))
          refine qm_go 3 (fun P hP => And.intro (fun c => absurd c (by decide)) (fun _ => hP ?_))
          refine qm_go 3 (fun P hP => And.intro (fun _ => hP ?_) (fun c => absurd c (by decide)))
          refine qm_go 3 (fun P hP => And.intro (fun _ => hP ?_) (fun c => absurd c (by decide)))
          refine qm_go 3 (fun P hP => And.intro (fun _ => hP ?_) (fun c => absurd c (by decide)))
          refine qm_go 2 (fun P hP => h)
        · skip
          refine qm_go 4 (fun P hP => Exists.intro (p) (And.intro (And.intro (rfl) (hp6)) (hP ?_)))
          rw [kp]
          refine qm_go 3 (fun P hP => And.intro (fun c => absurd c (by decide)) (fun _ => hP ?_))
          refine qm_go 3 (fun P hP => And.intro (fun c => absurd c (by decide)) (fun _ => hP ?_))
          refine qm_go 3 (fun P hP => And.intro (fun _ => hP ?_) (fun c => absurd c (by decide)))
          refine qm_go 3 (fun P hP => And.intro (fun _ => hP ?_) (fun c => absurd c (by decide)))
          refine qm_go 3 (fun P hP => And.intro (fun _ => hP ?_) (fun c => absurd c (by decide)))
          refine qm_go 2 (fun P hP => h)
        · skip
          refine qm_go 4 (fun P hP => Exists.intro (p) (And.intro (And.intro (rfl) (hp6)) (hP ?_)))
          rw [kp]
          refine qm_go 3 (fun P hP => And.intro (fun c => absurd c (by decide)) (fun _ => hP ?_))
          refine qm_go 3 (fun P hP => And.intro (fun c => absurd c (by decide)) (fun _ => hP ?_))
          refine qm_go 3 (fun P hP => And.intro (fun _ => hP ?_) (fun c => absurd c (by decide)))
          refine qm_go 3 (fun P hP => And.intro (fun _ => hP ?_) (fun c => absurd c (by decide)))
          refine qm_go 3 (fun P hP => And.intro (fun _ => hP ?_) (fun c => absurd c (by decide)))
          refine qm_go 2 (fun P hP => h)
      · rcases (show k = 0 ∨ k = 1 ∨ k = 2 ∨ k = 3 ∨ k = 4 ∨ k = 5 ∨ k = 6 by omega) with rfl | rfl | rfl | rfl | rfl | rfl | rfl
        · skip
          refine qm_go 4 (fun P hP => Exists.intro (p) (And.intro (And.intro (rfl) (hp6)) (hP ?_)))
          rw [kp]
          refine qm_go 3 (fun P hP => And.intro (fun _ => hP ?_) (fun c => absurd rfl c))
          refine qm_go 3 (fun P hP => h)
        · skip
          refine qm_go 4 (fun P hP => Exists.intro (p) (And.intro (And.intro (rfl) (hp6)) (hP ?_)))
          rw [kp]
          refine qm_go 3 (fun P hP => And.intro (fun c => absurd c (by decide)) (fun _ => hP ?_))
          refine qm_go 3 (fun P hP => And.intro (fun c => absurd c (by decide)) (fun _ => hP ?_))
          refine qm_go 3 (fun P hP => And.intro (fun c => absurd rfl c) (fun _ => hP ?_))
          refine qm_go 3 (fun P hP => And.intro (fun c => absurd c (by decide)) (fun _ => hP ?_))
          refine qm_go 3 (fun P hP => And.intro (fun _ => hP ?_) (fun c => absurd c (by decide)))
          refine qm_go 3 (fun P hP => And.intro (fun _ => hP ?_) (fun c => absurd c (by decide)))
          refine qm_go 2 (fun P hP => h)
        · skip
          refine qm_go 4 (fun P hP => Exists.intro (p) (And.intro (And.intro (rfl) (hp6)) (hP ?_)))
          rw [kp]
          refine qm_go 3 (fun P hP => And.intro (fun c => absurd c (by decide)) (fun _ => hP ?_))
          refine qm_go 3 (fun P hP => And.intro (fun c => absurd c (by decide)) (fun _ => hP ?_))
          refine qm_go 3 (fun P hP => And.intro (fun _ => hP ?_) (fun c => absurd c (by decide)))
          refine qm_go 3 (fun P hP => And.intro (fun c => absurd rfl c) (fun _ => hP ?_))
          refine qm_go 3 (fun P hP => And.intro (fun c => absurd c (by decide)) (fun _ => hP ?_))
          refine qm_go 3 (fun P hP => And.intro (fun _ => hP ?_) (fun c => absurd c (by decide)))
          refine qm_go 2 (fun P hP => h)
        · skip
          refine qm_go 4 (fun P hP => Exists.intro (p) (And.intro (And.intro (rfl) (hp6)) (hP ?_)))
          rw [kp]
          refine qm_go 3 (fun P hP => And.intro (fun c => absurd c (by decide)) (fun _ => hP ?_))
          refine qm_go 3 (fun P hP => And.intro (fun _ => hP ?_) (fun c => absurd rfl c))
          refine qm_go 3 (fun P hP => h)
        · skip
          refine qm_go 4 (fun P hP => Exists.intro (p) (And.intro (And.intro (rfl) (hp6)) (hP ?_)))
          rw [kp]
          refine qm_go 3 (fun P hP => And.intro (fun c => absurd c (by decide)) (fun _ => hP ?_))
          refine qm_go 3 (fun P hP => And.intro (fun c => absurd c (by decide)) (fun _ => hP ?_))
          refine qm_go 3 (fun P hP => And.intro (fun _ => hP ?_) (fun c => absurd c (by decide)))
          refine qm_go 3 (fun P hP => And.intro (fun _ => hP ?_) (fun c => absurd c (by decide)))
          refine qm_go 3 (fun P hP => And.intro (fun _ => hP ?_) (fun c => absurd c (by decide)))
          refine qm_go 2 (fun P hP => h)
        · skip
          refine qm_go 4 (fun P hP => Exists.intro (p) (And.intro (And.intro (rfl) (hp6)) (hP ?_)))
          rw [kp]
          refine qm_go 3 (fun P hP => And.intro (fun c => absurd c (by decide)) (fun _ => hP ?_))
          refine qm_go 3 (fun P hP => And.intro (fun c => absurd c (by decide)) (fun _ => hP ?_))
          refine qm_go 3 (fun P hP => And.intro (fun _ => hP ?_) (fun c => absurd c (by decide)))
          refine qm_go 3 (fun P hP => And.intro (fun _ => hP ?_) (fun c => absurd c (by decide)))
          refine qm_go 3 (fun P hP => And.intro (fun _ => hP ?_) (fun c => absurd c (by decide)))
          refine qm_go 2 (fun P hP => h)
        · skip
          refine qm_go 4 (fun P hP => Exists.intro (p) (And.intro (And.intro (rfl) (hp6)) (hP ?_)))
          rw [kp]
          refine qm_go 3 (fun P hP => And.intro (fun c => absurd c (by decide)) (fun _ => hP ?_))
          refine qm_go 3 (fun P hP => And.intro (fun c => absurd c (by decide)) (fun _ => hP ?_))
          refine qm_go 3 (fun P hP => And.intro (fun _ => hP ?_) (fun c => absurd c (by decide)))
          refine qm_go 3 (fun P hP => And.intro (fun _ => hP ?_) (fun c => absurd c (by decide)))
          refine qm_go 3 (fun P hP => And.intro (fun _ => hP ?_) (fun c => absurd c (by decide)))
          refine qm_go 2 (fun P hP => h)
      · rcases (show k = 0 ∨ k = 1 ∨ k = 2 ∨ k = 3 ∨ k = 4 ∨ k = 5 ∨ k = 6 by omega) with rfl | rfl | rfl | rfl | rfl | rfl | rfl
        · skip
          refine qm_go 4 (fun P hP => Exists.intro (p) (And.intro (And.intro (rfl) (hp6)) (hP ?_)))
          rw [kp]
          refine qm_go 3 (fun P hP => And.intro (fun _ => hP ?_) (fun c => absurd rfl c))
          refine qm_go 3 (fun P hP => h)
        · skip
          refine qm_go 4 (fun P hP => Exists.intro (p) (And.intro (And.intro (rfl) (hp6)) (hP ?_)))
          rw [kp]
          refine qm_go 3 (fun P hP => And.intro (fun c => absurd c (by decide)) (fun _ => hP ?_))
          refine qm_go 3 (fun P hP => And.intro (fun c => absurd c (by decide)) (fun _ => hP ?_))
          refine qm_go 3 (fun P hP => And.intro (fun c => absurd rfl c) (fun _ => hP ?_))
          refine qm_go 3 (fun P hP => And.intro (fun _ => hP ?_) (fun c => absurd rfl c))
          refine qm_go 3 (fun P hP => h)
        · skip
          refine qm_go 4 (fun P hP => Exists.intro (p) (And.intro (And.intro (rfl) (hp6)) (hP ?_)))
          rw [kp]
          refine qm_go 3 (fun P hP => And.intro (fun c => absurd c (by decide)) (fun _ => hP ?_))
          refine qm_go 3 (fun P hP => And.intro (fun c => absurd c (by decide)) (fun _ => hP ?_))
          refine qm_go 3 (fun P hP => And.intro (fun _ => hP ?_) (fun c => absurd c (by decide)))
          refine qm_go 3 (fun P hP => And.intro (fun c => absurd rfl c) (fun _ => hP ?_))
          refine qm_go 3 (fun P hP => And.intro (fun c => absurd c (by decide)) (fun _ => hP ?_))
          refine qm_go 3 (fun P hP => And.intro (fun _ => hP ?_) (fun c => absurd c (by decide)))
          refine qm_go 2 (fun P hP => h)
        · skip
          refine qm_go 4 (fun P hP => Exists.intro (p) (And.intro (And.intro (rfl) (hp6)) (hP ?_)))
          rw [kp]
          refine qm_go 3 (fun P hP => And.intro (fun c => absurd c (by decide)) (fun _ => hP ?_))
          refine qm_go 3 (fun P hP => And.intro (fun c => absurd c (by decide)) (fun _ => hP ?_))
          refine qm_go 3 (fun P hP => And.intro (fun _ => hP ?_) (fun c => absurd c (by decide)))
          refine qm_go 3 (fun P hP => And.intro (fun _ => hP ?_) (fun c => absurd c (by decide)))
          refine qm_go 3 (fun P hP => And.intro (fun c => absurd rfl c) (fun _ => hP ?_))
          refine qm_go 3 (fun P hP => And.intro (fun _ => hP ?_) (fun c => absurd c (by decide)))
          refine qm_go 2 (fun P hP => h)
        · skip
          refine qm_go 4 (fun P hP => Exists.intro (p) (And.intro (And.intro (rfl) (hp6)) (hP ?_)))
          rw [kp]
          refine qm_go 3 (fun P hP => And.intro (fun c => absurd c (by decide)) (fun _ => hP ?_))
          refine qm_go 3 (fun P hP => And.intro (fun _ => hP ?_) (fun c => absurd rfl c))
          refine qm_go 3 (fun P hP => h)
        · skip
          refine qm_go 4 (fun P hP => Exists.intro (p) (And.intro (And.intro (rfl) (hp6)) (hP ?_)))
          rw [kp]
          refine qm_go 3 (fun P hP => And.intro (fun c => absurd c (by decide)) (fun _ => hP ?_))
          refine qm_go 3 (fun P hP => And.intro (fun c => absurd c (by decide)) (fun _ => hP ?_))
          refine qm_go 3 (fun P hP => And.intro (fun _ => hP ?_) (fun c => absurd c (by decide)))
          refine qm_go 3 (fun P hP => And.intro (fun _ => hP ?_) (fun c => absurd c (by decide)))
          refine qm_go 3 (fun P hP => And.intro (fun _ => hP ?_) (fun c => absurd c (by decide)))
          refine qm_go 2 (fun P hP => h)
        · skip
          refine qm_go 4 (fun P hP => Exists.intro (p) (And.intro (And.intro (rfl) (hp6)) (hP ?_)))
          rw [kp]
          refine qm_go 3 (fun P hP => And.intro (fun c => absurd c (by decide)) (fun _ => hP ?_))
          refine qm_go 3 (fun P hP => And.intro (fun c => absurd c (by decide)) (fun _ => hP ?_))
          refine qm_go 3 (fun P hP => And.intro (fun _ => hP ?_) (fun c => absurd c (by decide)))
          refine qm_go 3 (fun P hP => And.intro (fun _ => hP ?_) (fun c => absurd c (by decide)))
          refine qm_go 3 (fun P hP => And.intro (fun _ => hP ?_) (fun c => absurd c (by decide)))
          refine qm_go 2 (fun P hP => h)
      · rcases (show k = 0 ∨ k = 1 ∨ k = 2 ∨ k = 3 ∨ k = 4 ∨ k = 5 ∨ k = 6 by omega) with rfl | rfl | rfl | rfl | rfl | rfl | rfl
        · skip
          refine qm_go 4 (fun P hP => Exists.intro (p) (And.intro (And.intro (rfl) (hp6)) (hP ?_)))
          rw [kp]
          refine qm_go 3 (fun P hP => And.intro (fun _ => hP ?_) (fun c => absurd rfl c))
          refine qm_go 3 (fun P hP => h)
        · skip
          refine qm_go 4 (fun P hP => Exists.intro (p) (And.intro (And.intro (rfl) (hp6)) (hP ?_)))
          rw [kp]
          refine qm_go 3 (fun P hP => And.intro (fun c => absurd c (by decide)) (fun _ => hP ?_))
          refine qm_go 3 (fun P hP => And.intro (fun c => absurd c (by decide)) (fun _ => hP ?_))
          refine qm_go 3 (fun P hP => And.intro (fun c => absurd rfl c) (fun _ => hP ?_))
          refine qm_go 3 (fun P hP => And.intro (fun c => absurd c (by decide)) (fun _ => hP ?_))
          refine qm_go 3 (fun P hP => And.intro (fun _ => hP ?_) (fun c => absurd c (by decide)))
          refine qm_go 3 (fun P hP => And.intro (fun _ => hP ?_) (fun c => absurd c (by decide)))
          refine qm_go 2 (fun P hP => h)
        · skip
          refine qm_go 4 (fun P hP => Exists.intro (p) (And.intro (And.intro (rfl) (hp6)) (hP ?_)))
          rw [kp]
          refine qm_go 3 (fun P hP => And.intro (fun c => absurd c (by decide)) (fun _ => hP ?_))
          refine qm_go 3 (fun P hP => And.intro (fun c => absurd c (by decide)) (fun _ => hP ?_))
          refine qm_go 3 (fun P hP => And.intro (fun _ => hP ?_) (fun c => absurd c (by decide)))
          refine qm_go 3 (fun P hP => And.intro (fun c => absurd rfl c) (fun _ => hP ?_))
          refine qm_go 3 (fun P hP => And.intro (fun _ => hP ?_) (fun c => absurd rfl c))
          refine qm_go 3 (fun P hP => h)
        · skip
          refine qm_go 4 (fun P hP => Exists.intro (p) (And.intro (And.intro (rfl) (hp6)) (hP ?_)))
          rw [kp]
          refine qm_go 3 (fun P hP => And.intro (fun c => absurd c (by decide)) (fun _ => hP ?_))
          refine qm_go 3 (fun P hP => And.intro (fun c => absurd c (by decide)) (fun _ => hP ?_))
          refine qm_go 3 (fun P hP => And.intro (fun _ => hP ?_) (fun c => absurd c (by decide)))
          refine qm_go 3 (fun P hP => And.intro (fun _ => hP ?_) (fun c => absurd c (by decide)))
          refine qm_go 3 (fun P hP => And.intro (fun c => absurd rfl c) (fun _ => hP ?_))
          refine qm_go 3 (fun P hP => And.intro (fun _ => hP ?_) (fun c => absurd c (by decide)))
          refine qm_go 2 (fun P hP => h)
        · skip
          refine qm_go 4 (fun P hP => Exists.intro (p) (And.intro (And.intro (rfl) (hp6)) (hP ?_)))
          rw [kp]
          refine qm_go 3 (fun P hP => And.intro (fun c => absurd c (by decide)) (fun _ => hP ?_))
          refine qm_go 3 (fun P hP => And.intro (fun c => absurd c (by decide)) (fun _ => hP ?_))
          refine qm_go 3 (fun P hP => And.intro (fun _ => hP ?_) (fun c => absurd c (by decide)))
          refine qm_go 3 (fun P hP => And.intro (fun _ => hP ?_) (fun c => absurd c (by decide)))
          refine qm_go 3 (fun P hP => And.intro (fun _ => hP ?_) (fun c => absurd c (by decide)))
          refine qm_go 2 (fun P hP => h)
        · skip
          refine qm_go 4 (fun P hP => Exists.intro (p) (And.intro (And.intro (rfl) (hp6)) (hP ?_)))
          rw [kp]
          refine qm_go 3 (fun P hP => And.intro (fun c => absurd c (by decide)) (fun _ => hP ?_))
          refine qm_go 3 (fun P hP => And.intro (fun _ => hP ?_) (fun c => absurd rfl c))
          refine qm_go 3 (fun P hP => h)
        · skip
          refine qm_go 4 (fun P hP => Exists.intro (p) (And.intro (And.intro (rfl) (hp6)) (hP ?_)))
          rw [kp]
          refine qm_go 3 (fun P hP => And.intro (fun c => absurd c (by decide)) (fun _ => hP ?_))
          refine qm_go 3 (fun P hP => And.intro (fun c => absurd c (by decide)) (fun _ => hP ?_))
          refine qm_go 3 (fun P hP => And.intro (fun _ => hP ?_) (fun c => absurd c (by decide)))
          refine qm_go 3 (fun P hP => And.intro (fun _ => hP ?_) (fun c => absurd c (by decide)))
          refine qm_go 3 (fun P hP => And.intro (fun _ => hP ?_) (fun c => absurd c (by decide)))
          refine qm_go 2 (fun P hP => h)
      · rcases (show k = 0 ∨ k = 1 ∨ k = 2 ∨ k = 3 ∨ k = 4 ∨ k = 5 ∨ k = 6 by omega) with rfl | rfl | rfl | rfl | rfl | rfl | rfl
        · skip
          refine qm_go 4 (fun P hP => Exists.intro (p) (And.intro (And.intro (rfl) (hp6)) (hP ?_)))
          rw [kp]
          refine qm_go 3 (fun P hP => And.intro (fun _ => hP ?_) (fun c => absurd rfl c))
          refine qm_go 3 (fun P hP => h)
        · skip
          refine qm_go 4 (fun P hP => Exists.intro (p) (And.intro (And.intro (rfl) (hp6)) (hP ?_)))
          rw [kp]
          refine qm_go 3 (fun P hP => And.intro (fun c => absurd c (by decide)) (fun _ => hP ?_))
          refine qm_go 3 (fun P hP => And.intro (fun c => absurd c (by decide)) (fun _ => hP ?_))
          refine qm_go 3 (fun P hP => And.intro (fun c => absurd rfl c) (fun _ => hP ?_))
          refine qm_go 3 (fun P hP => And.intro (fun c => absurd c (by decide)) (fun _ => hP ?_))
          refine qm_go 3 (fun P hP => And.intro (fun _ => hP ?_) (fun c => absurd c (by decide)))
          refine qm_go 3 (fun P hP => And.intro (fun _ => hP ?_) (fun c => absurd c (by decide)))
          refine qm_go 2 (fun P hP => h)
        · skip
          refine qm_go 4 (fun P hP => Exists.intro (p) (And.intro (And.intro (rfl) (hp6)) (hP ?_)))
          rw [kp]
          refine qm_go 3 (fun P hP => And.intro (fun c => absurd c (by decide)) (fun _ => hP ?_))
          refine qm_go 3 (fun P hP => And.intro (fun c => absurd c (by decide)) (fun _ => hP ?_))
          refine qm_go 3 (fun P hP => And.intro (fun _ => hP ?_) (fun c => absurd c (by decide)))
          refine qm_go 3 (fun P hP => And.intro (fun c => absurd rfl c) (fun _ => hP ?_))
          refine qm_go 3 (fun P hP => And.intro (fun c => absurd c (by decide)) (fun _ => hP ?_))
          refine qm_go 3 (fun P hP => And.intro (fun _ => hP ?_) (fun c => absurd c (by decide)))
          refine qm_go 2 (fun P hP => h)
        · skip
          refine qm_go 4 (fun P hP => Exists.intro (p) (And.intro (And.intro (rfl) (hp6)) (hP ?_)))
          rw [kp]
          refine qm_go 3 (fun P hP => And.intro (fun c => absurd c (by decide)) (fun _ => hP ?_))
          refine qm_go 3 (fun P hP => And.intro (fun c => absurd c (by decide)) (fun _ => hP ?_))
          refine qm_go 3 (fun P hP => And.intro (fun _ => hP ?_) (fun c => absurd c (by decide)))
          refine qm_go 3 (fun P hP => And.intro (fun _ => hP ?_) (fun c => absurd c (by decide)))
          refine qm_go 3 (fun P hP => And.intro (fun c => absurd rfl c) (fun _ => hP ?_))
          refine qm_go 3 (fun P hP => And.intro (fun c => absurd rfl c) (fun _ => hP ?_))
          refine qm_go 3 (fun P hP => h)
        · skip
          refine qm_go 4 (fun P hP => Exists.intro (p) (And.intro (And.intro (rfl) (hp6)) (hP ?_)))
          rw [kp]
          refine qm_go 3 (fun P hP => And.intro (fun c => absurd c (by decide)) (fun _ => hP ?_))
          refine qm_go 3 (fun P hP => And.intro (fun c => absurd c (by decide)) (fun _ => hP ?_))
          refine qm_go 3 (fun P hP => And.intro (fun _ => hP ?_) (fun c => absurd c (by decide)))
          refine qm_go 3 (fun P hP => And.intro (fun _ => hP ?_) (fun c => absurd c (by decide)))
          refine qm_go 3 (fun P hP => And.intro (fun _ => hP ?_) (fun c => absurd c (by decide)))
          refine qm_go 2 (fun P hP => h)
        · skip
          refine qm_go 4 (fun P hP => Exists.intro (p) (And.intro (And.intro (rfl) (hp6)) (hP ?_)))
          rw [kp]
          refine qm_go 3 (fun P hP => And.intro (fun c => absurd c (by decide)) (fun _ => hP ?_))
          refine qm_go 3 (fun P hP => And.intro (fun c => absurd c (by decide)) (fun _ => hP ?_))
          refine qm_go 3 (fun P hP => And.intro (fun _ => hP ?_) (fun c => absurd c (by decide)))
          refine qm_go 3 (fun P hP => And.intro (fun _ => hP ?_) (fun c => absurd c (by decide)))
          refine qm_go 3 (fun P hP => And.intro (fun _ => hP ?_) (fun c => absurd c (by decide)))
          refine qm_go 2 (fun P hP => h)
        · skip
          refine qm_go 4 (fun P hP => Exists.intro (p) (And.intro (And.intro (rfl) (hp6)) (hP ?_)))
          rw [kp]
          refine qm_go 3 (fun P hP => And.intro (fun c => absurd c (by decide)) (fun _ => hP ?_))
          refine qm_go 3 (fun P hP => And.intro (fun _ => hP ?_) (fun c => absurd rfl c))
          refine qm_go 3 (fun P hP => h)
    · refine qm_go 1 (fun P hP => And.intro (fun c => absurd (by decide) c) (fun _ => hP ?_))
      refine qm_go 2 (fun P hP => ?_)
      rw [taken_2 ck ch] at h
      exact h
  · refine qm_go 1 (fun P hP => And.intro (fun c => absurd (by decide) c) (fun _ => hP ?_))
    refine qm_go 2 (fun P hP => ?_)
    rw [taken_1 ck] at h
    exact h
