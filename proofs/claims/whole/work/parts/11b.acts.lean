theorem c_a42_0 {d : Nat} (hd : 2 ≤ d) {σ : qm_Sg} {Q : qm_Po} {l : List Nat} {p : Nat} {v x : Int32} (hp : p < 6) (hv : σ.1 12 0 p = v) (ht : cTr σ l) (hl : l.length + 20 < 440) (h : ∀ σ', Fr tA σ σ' → cTr σ' (l ++ [10]) → Q σ' (some (vI (x + nI p)))) : qm_M d 42 [vR 34 0, vR 10 0, vI (nI p), vI x] σ Q := by
  obtain ⟨d, rfl, hd⟩ := qm_dn hd
  show qm_Wp (qm_M d) qk_42 Q 0 [some (vR 34 0), some (vR 10 0), some (vI (nI p)), some (vI x)] [] σ
  refine qm_go 4 (fun P hP => c_began (by omega) ht (by omega) (fun σ1 f1 t1 => hP ?_))
  refine qm_go 4 (fun P hP => h σ1 f1 (by exact t1))
theorem c_a43_0 {d : Nat} (hd : 4 ≤ d) {σ : qm_Sg} {Q : qm_Po} {l : List Nat} {p : Nat} {v x : Int32} (hp : p < 6) (hv : σ.1 12 0 p = v) (ht : cTr σ l) (hl : l.length + 20 < 380) (h : ∀ σ', Fr tA σ σ' → cTr σ' (l ++ (oyF 0 p v x).2) → Q σ' (some (vI (oyF 0 p v x).1))) : qm_M d 43 [vR 34 0, vR 10 0, vI (nI p), vI x] σ Q := by
  obtain ⟨d, rfl, hd⟩ := qm_dn hd
  show qm_Wp (qm_M d) qk_43 Q 0 [some (vR 34 0), some (vR 10 0), some (vI (nI p)), some (vI x)] [] σ
  refine qm_go 4 (fun P hP => c_began (by omega) ht (by omega) (fun σ1 f1 t1 => hP ?_))
  refine qm_go 5 (fun P hP => c_a42_0 (v := v) (x := x) (by omega) hp (((f1).1 12 0 p (by unfold tA; omega)).trans hv) t1 (by  simp only [List.length_append, List.length_cons, List.length_nil]; omega) (fun σ2 f2 t2 => hP ?_))
  refine qm_go 4 (fun P hP => Exists.intro (p) (And.intro (And.intro (rfl) (hp)) (hP ?_)))
  rw [((f1.tr f2)).1 12 0 p (by unfold tA; omega), hv]
  refine qm_go 2 (fun P hP => h σ2 (f1.tr f2) (by rw [List.append_assoc] at t2; exact t2))
theorem c_a44_0 {d : Nat} (hd : 7 ≤ d) {σ : qm_Sg} {Q : qm_Po} {l : List Nat} {p : Nat} {v x : Int32} (hp : p < 6) (hv : σ.1 12 0 p = v) (ht : cTr σ l) (hl : l.length + 20 < 290) (h : ∀ σ', Fr tA σ σ' → cTr σ' (l ++ (otF 0 p v x).2) → Q σ' (some (vI (otF 0 p v x).1))) : qm_M d 44 [vR 34 0, vR 10 0, vI (nI p), vI x] σ Q := by
  obtain ⟨d, rfl, hd⟩ := qm_dn hd
  show qm_Wp (qm_M d) qk_44 Q 0 [some (vR 34 0), some (vR 10 0), some (vI (nI p)), some (vI x)] [] σ
  refine qm_go 4 (fun P hP => c_began (by omega) ht (by omega) (fun σ1 f1 t1 => hP ?_))
  refine qm_go 5 (fun P hP => c_a43_0 (v := v) (x := x) (by omega) hp (((f1).1 12 0 p (by unfold tA; omega)).trans hv) t1 (by  simp only [List.length_append, List.length_cons, List.length_nil]; omega) (fun σ2 f2 t2 => hP ?_))
  refine qm_go 3 (fun P hP => h σ2 (f1.tr f2) (by rw [List.append_assoc] at t2; exact t2))
theorem c_a42_1 {d : Nat} (hd : 2 ≤ d) {σ : qm_Sg} {Q : qm_Po} {l : List Nat} {p : Nat} {v x : Int32} (hp : p < 6) (hv : σ.1 12 0 p = v) (ht : cTr σ l) (hl : l.length + 20 < 440) (h : ∀ σ', Fr tA σ σ' → cTr σ' (l ++ [10]) → Q σ' (some (vI (x + nI p)))) : qm_M d 42 [vR 35 0, vR 10 0, vI (nI p), vI x] σ Q := by
  obtain ⟨d, rfl, hd⟩ := qm_dn hd
  show qm_Wp (qm_M d) qk_42 Q 0 [some (vR 35 0), some (vR 10 0), some (vI (nI p)), some (vI x)] [] σ
  refine qm_go 4 (fun P hP => c_began (by omega) ht (by omega) (fun σ1 f1 t1 => hP ?_))
  refine qm_go 4 (fun P hP => h σ1 f1 (by exact t1))
theorem c_a43_1 {d : Nat} (hd : 4 ≤ d) {σ : qm_Sg} {Q : qm_Po} {l : List Nat} {p : Nat} {v x : Int32} (hp : p < 6) (hv : σ.1 12 0 p = v) (ht : cTr σ l) (hl : l.length + 20 < 380) (h : ∀ σ', Fr tA σ σ' → cTr σ' (l ++ (oyF 1 p v x).2) → Q σ' (some (vI (oyF 1 p v x).1))) : qm_M d 43 [vR 35 0, vR 10 0, vI (nI p), vI x] σ Q := by
  obtain ⟨d, rfl, hd⟩ := qm_dn hd
  show qm_Wp (qm_M d) qk_43 Q 0 [some (vR 35 0), some (vR 10 0), some (vI (nI p)), some (vI x)] [] σ
  refine qm_go 4 (fun P hP => c_began (by omega) ht (by omega) (fun σ1 f1 t1 => hP ?_))
  refine qm_go 5 (fun P hP => c_a42_1 (v := v) (x := x) (by omega) hp (((f1).1 12 0 p (by unfold tA; omega)).trans hv) t1 (by  simp only [List.length_append, List.length_cons, List.length_nil]; omega) (fun σ2 f2 t2 => hP ?_))
  refine qm_go 4 (fun P hP => Exists.intro (p) (And.intro (And.intro (rfl) (hp)) (hP ?_)))
  rw [((f1.tr f2)).1 12 0 p (by unfold tA; omega), hv]
  refine qm_go 2 (fun P hP => h σ2 (f1.tr f2) (by rw [List.append_assoc] at t2; exact t2))
theorem c_a35_1 {d : Nat} (hd : 5 ≤ d) {σ : qm_Sg} {Q : qm_Po} {l : List Nat} {p : Nat} {v x : Int32} (hp : p < 6) (hv : σ.1 12 0 p = v) (ht : cTr σ l) (hl : l.length + 20 < 350) (h : ∀ σ', Fr tA σ σ' → cTr σ' (l ++ (lyF 1 p v x).2) → Q σ' (some (vI (lyF 1 p v x).1))) : qm_M d 35 [vR 35 0, vR 10 0, vI (nI p), vI x] σ Q := by
  obtain ⟨d, rfl, hd⟩ := qm_dn hd
  show qm_Wp (qm_M d) qk_35 Q 0 [some (vR 35 0), some (vR 10 0), some (vI (nI p)), some (vI x)] [] σ
  refine qm_go 4 (fun P hP => c_began (by omega) ht (by omega) (fun σ1 f1 t1 => hP ?_))
  refine qm_go 5 (fun P hP => c_a43_1 (v := v) (x := x) (by omega) hp (((f1).1 12 0 p (by unfold tA; omega)).trans hv) t1 (by  simp only [List.length_append, List.length_cons, List.length_nil]; omega) (fun σ2 f2 t2 => hP ?_))
  refine qm_go 3 (fun P hP => h σ2 (f1.tr f2) (by rw [List.append_assoc] at t2; exact t2))
theorem c_a44_1 {d : Nat} (hd : 7 ≤ d) {σ : qm_Sg} {Q : qm_Po} {l : List Nat} {p : Nat} {v x : Int32} (hp : p < 6) (hv : σ.1 12 0 p = v) (ht : cTr σ l) (hl : l.length + 20 < 290) (h : ∀ σ', Fr tA σ σ' → cTr σ' (l ++ (otF 1 p v x).2) → Q σ' (some (vI (otF 1 p v x).1))) : qm_M d 44 [vR 35 0, vR 10 0, vI (nI p), vI x] σ Q := by
  obtain ⟨d, rfl, hd⟩ := qm_dn hd
  show qm_Wp (qm_M d) qk_44 Q 0 [some (vR 35 0), some (vR 10 0), some (vI (nI p)), some (vI x)] [] σ
  refine qm_go 4 (fun P hP => c_began (by omega) ht (by omega) (fun σ1 f1 t1 => hP ?_))
  refine qm_go 5 (fun P hP => c_a35_1 (v := v) (x := x) (by omega) hp (((f1).1 12 0 p (by unfold tA; omega)).trans hv) t1 (by  simp only [List.length_append, List.length_cons, List.length_nil]; omega) (fun σ2 f2 t2 => hP ?_))
  refine qm_go 3 (fun P hP => h σ2 (f1.tr f2) (by rw [List.append_assoc] at t2; exact t2))
theorem c_a42_2 {d : Nat} (hd : 2 ≤ d) {σ : qm_Sg} {Q : qm_Po} {l : List Nat} {p : Nat} {v x : Int32} (hp : p < 6) (hv : σ.1 12 0 p = v) (ht : cTr σ l) (hl : l.length + 20 < 440) (h : ∀ σ', Fr tA σ σ' → cTr σ' (l ++ [10]) → Q σ' (some (vI (x + nI p)))) : qm_M d 42 [vR 36 0, vR 10 0, vI (nI p), vI x] σ Q := by
  obtain ⟨d, rfl, hd⟩ := qm_dn hd
  show qm_Wp (qm_M d) qk_42 Q 0 [some (vR 36 0), some (vR 10 0), some (vI (nI p)), some (vI x)] [] σ
  refine qm_go 4 (fun P hP => c_began (by omega) ht (by omega) (fun σ1 f1 t1 => hP ?_))
  refine qm_go 4 (fun P hP => h σ1 f1 (by exact t1))
theorem c_a20_2 {d : Nat} (hd : 3 ≤ d) {σ : qm_Sg} {Q : qm_Po} {l : List Nat} {p : Nat} {v x : Int32} (hp : p < 6) (hv : σ.1 12 0 p = v) (ht : cTr σ l) (hl : l.length + 20 < 410) (h : ∀ σ', Fr tA σ σ' → cTr σ' (l ++ (rolF 2 p v x).2) → Q σ' (some (vI (rolF 2 p v x).1))) : qm_M d 20 [vR 36 0, vR 10 0, vI (nI p), vI x] σ Q := by
  obtain ⟨d, rfl, hd⟩ := qm_dn hd
  show qm_Wp (qm_M d) qk_20 Q 0 [some (vR 36 0), some (vR 10 0), some (vI (nI p)), some (vI x)] [] σ
  refine qm_go 4 (fun P hP => c_began (by omega) ht (by omega) (fun σ1 f1 t1 => hP ?_))
  refine qm_go 7 (fun P hP => c_a42_2 (v := v) (x := (x * 3)) (by omega) hp (((f1).1 12 0 p (by unfold tA; omega)).trans hv) t1 (by  simp only [List.length_append, List.length_cons, List.length_nil]; omega) (fun σ2 f2 t2 => hP ?_))
  refine qm_go 1 (fun P hP => h σ2 (f1.tr f2) (by rw [List.append_assoc] at t2; exact t2))
theorem c_a43_2 {d : Nat} (hd : 4 ≤ d) {σ : qm_Sg} {Q : qm_Po} {l : List Nat} {p : Nat} {v x : Int32} (hp : p < 6) (hv : σ.1 12 0 p = v) (ht : cTr σ l) (hl : l.length + 20 < 380) (h : ∀ σ', Fr tA σ σ' → cTr σ' (l ++ (oyF 2 p v x).2) → Q σ' (some (vI (oyF 2 p v x).1))) : qm_M d 43 [vR 36 0, vR 10 0, vI (nI p), vI x] σ Q := by
  obtain ⟨d, rfl, hd⟩ := qm_dn hd
  show qm_Wp (qm_M d) qk_43 Q 0 [some (vR 36 0), some (vR 10 0), some (vI (nI p)), some (vI x)] [] σ
  refine qm_go 4 (fun P hP => c_began (by omega) ht (by omega) (fun σ1 f1 t1 => hP ?_))
  refine qm_go 5 (fun P hP => c_a20_2 (v := v) (x := x) (by omega) hp (((f1).1 12 0 p (by unfold tA; omega)).trans hv) t1 (by  simp only [List.length_append, List.length_cons, List.length_nil]; omega) (fun σ2 f2 t2 => hP ?_))
  refine qm_go 4 (fun P hP => Exists.intro (p) (And.intro (And.intro (rfl) (hp)) (hP ?_)))
  rw [((f1.tr f2)).1 12 0 p (by unfold tA; omega), hv]
  refine qm_go 2 (fun P hP => h σ2 (f1.tr f2) (by rw [List.append_assoc] at t2; exact t2))
theorem c_a44_2 {d : Nat} (hd : 7 ≤ d) {σ : qm_Sg} {Q : qm_Po} {l : List Nat} {p : Nat} {v x : Int32} (hp : p < 6) (hv : σ.1 12 0 p = v) (ht : cTr σ l) (hl : l.length + 20 < 290) (h : ∀ σ', Fr tA σ σ' → cTr σ' (l ++ (otF 2 p v x).2) → Q σ' (some (vI (otF 2 p v x).1))) : qm_M d 44 [vR 36 0, vR 10 0, vI (nI p), vI x] σ Q := by
  obtain ⟨d, rfl, hd⟩ := qm_dn hd
  show qm_Wp (qm_M d) qk_44 Q 0 [some (vR 36 0), some (vR 10 0), some (vI (nI p)), some (vI x)] [] σ
  refine qm_go 4 (fun P hP => c_began (by omega) ht (by omega) (fun σ1 f1 t1 => hP ?_))
  refine qm_go 5 (fun P hP => c_a43_2 (v := v) (x := x) (by omega) hp (((f1).1 12 0 p (by unfold tA; omega)).trans hv) t1 (by  simp only [List.length_append, List.length_cons, List.length_nil]; omega) (fun σ2 f2 t2 => hP ?_))
  refine qm_go 3 (fun P hP => h σ2 (f1.tr f2) (by rw [List.append_assoc] at t2; exact t2))
theorem c_a42_3 {d : Nat} (hd : 2 ≤ d) {σ : qm_Sg} {Q : qm_Po} {l : List Nat} {p : Nat} {v x : Int32} (hp : p < 6) (hv : σ.1 12 0 p = v) (ht : cTr σ l) (hl : l.length + 20 < 440) (h : ∀ σ', Fr tA σ σ' → cTr σ' (l ++ [10]) → Q σ' (some (vI (x + nI p)))) : qm_M d 42 [vR 37 0, vR 10 0, vI (nI p), vI x] σ Q := by
  obtain ⟨d, rfl, hd⟩ := qm_dn hd
  show qm_Wp (qm_M d) qk_42 Q 0 [some (vR 37 0), some (vR 10 0), some (vI (nI p)), some (vI x)] [] σ
  refine qm_go 4 (fun P hP => c_began (by omega) ht (by omega) (fun σ1 f1 t1 => hP ?_))
  refine qm_go 4 (fun P hP => h σ1 f1 (by exact t1))
theorem c_a43_3 {d : Nat} (hd : 4 ≤ d) {σ : qm_Sg} {Q : qm_Po} {l : List Nat} {p : Nat} {v x : Int32} (hp : p < 6) (hv : σ.1 12 0 p = v) (ht : cTr σ l) (hl : l.length + 20 < 380) (h : ∀ σ', Fr tA σ σ' → cTr σ' (l ++ (oyF 3 p v x).2) → Q σ' (some (vI (oyF 3 p v x).1))) : qm_M d 43 [vR 37 0, vR 10 0, vI (nI p), vI x] σ Q := by
  obtain ⟨d, rfl, hd⟩ := qm_dn hd
  show qm_Wp (qm_M d) qk_43 Q 0 [some (vR 37 0), some (vR 10 0), some (vI (nI p)), some (vI x)] [] σ
  refine qm_go 4 (fun P hP => c_began (by omega) ht (by omega) (fun σ1 f1 t1 => hP ?_))
  refine qm_go 5 (fun P hP => c_a42_3 (v := v) (x := x) (by omega) hp (((f1).1 12 0 p (by unfold tA; omega)).trans hv) t1 (by  simp only [List.length_append, List.length_cons, List.length_nil]; omega) (fun σ2 f2 t2 => hP ?_))
  refine qm_go 4 (fun P hP => Exists.intro (p) (And.intro (And.intro (rfl) (hp)) (hP ?_)))
  rw [((f1.tr f2)).1 12 0 p (by unfold tA; omega), hv]
  refine qm_go 2 (fun P hP => h σ2 (f1.tr f2) (by rw [List.append_assoc] at t2; exact t2))
theorem c_a44_3 {d : Nat} (hd : 7 ≤ d) {σ : qm_Sg} {Q : qm_Po} {l : List Nat} {p : Nat} {v x : Int32} (hp : p < 6) (hv : σ.1 12 0 p = v) (ht : cTr σ l) (hl : l.length + 20 < 290) (h : ∀ σ', Fr tA σ σ' → cTr σ' (l ++ (otF 3 p v x).2) → Q σ' (some (vI (otF 3 p v x).1))) : qm_M d 44 [vR 37 0, vR 10 0, vI (nI p), vI x] σ Q := by
  obtain ⟨d, rfl, hd⟩ := qm_dn hd
  show qm_Wp (qm_M d) qk_44 Q 0 [some (vR 37 0), some (vR 10 0), some (vI (nI p)), some (vI x)] [] σ
  refine qm_go 4 (fun P hP => c_began (by omega) ht (by omega) (fun σ1 f1 t1 => hP ?_))
  refine qm_go 5 (fun P hP => c_a43_3 (v := v) (x := x) (by omega) hp (((f1).1 12 0 p (by unfold tA; omega)).trans hv) t1 (by  simp only [List.length_append, List.length_cons, List.length_nil]; omega) (fun σ2 f2 t2 => hP ?_))
  refine qm_go 3 (fun P hP => h σ2 (f1.tr f2) (by rw [List.append_assoc] at t2; exact t2))
theorem c_a18_3 {d : Nat} (hd : 8 ≤ d) {σ : qm_Sg} {Q : qm_Po} {l : List Nat} {p : Nat} {v x : Int32} (hp : p < 6) (hv : σ.1 12 0 p = v) (ht : cTr σ l) (hl : l.length + 20 < 260) (h : ∀ σ', Fr tA σ σ' → cTr σ' (l ++ (telF 3 p v x).2) → Q σ' (some (vI (telF 3 p v x).1))) : qm_M d 18 [vR 37 0, vR 10 0, vI (nI p), vI x] σ Q := by
  obtain ⟨d, rfl, hd⟩ := qm_dn hd
  show qm_Wp (qm_M d) qk_18 Q 0 [some (vR 37 0), some (vR 10 0), some (vI (nI p)), some (vI x)] [] σ
  refine qm_go 4 (fun P hP => c_began (by omega) ht (by omega) (fun σ1 f1 t1 => hP ?_))
  refine qm_go 5 (fun P hP => c_a44_3 (v := v) (x := x) (by omega) hp (((f1).1 12 0 p (by unfold tA; omega)).trans hv) t1 (by  simp only [List.length_append, List.length_cons, List.length_nil]; omega) (fun σ2 f2 t2 => hP ?_))
  refine qm_go 5 (fun P hP => c_a43_3 (v := v) (x := 1) (by omega) hp ((((f1.tr f2)).1 12 0 p (by unfold tA; omega)).trans hv) t2 (by have z0 : ((otF 3 p v x).2).length = 3 := rfl; simp only [List.length_append, List.length_cons, List.length_nil, z0]; omega) (fun σ3 f3 t3 => hP ?_))
  refine qm_go 2 (fun P hP => h σ3 ((f1.tr f2).tr f3) (by rw [List.append_assoc, List.append_assoc] at t3; exact t3))
theorem c_a42_4 {d : Nat} (hd : 2 ≤ d) {σ : qm_Sg} {Q : qm_Po} {l : List Nat} {p : Nat} {v x : Int32} (hp : p < 6) (hv : σ.1 12 0 p = v) (ht : cTr σ l) (hl : l.length + 20 < 440) (h : ∀ σ', Fr tA σ σ' → cTr σ' (l ++ [10]) → Q σ' (some (vI (x + nI p)))) : qm_M d 42 [vR 38 0, vR 10 0, vI (nI p), vI x] σ Q := by
  obtain ⟨d, rfl, hd⟩ := qm_dn hd
  show qm_Wp (qm_M d) qk_42 Q 0 [some (vR 38 0), some (vR 10 0), some (vI (nI p)), some (vI x)] [] σ
  refine qm_go 4 (fun P hP => c_began (by omega) ht (by omega) (fun σ1 f1 t1 => hP ?_))
  refine qm_go 4 (fun P hP => h σ1 f1 (by exact t1))
theorem c_a37_4 {d : Nat} (hd : 3 ≤ d) {σ : qm_Sg} {Q : qm_Po} {l : List Nat} {p : Nat} {v x : Int32} (hp : p < 6) (hv : σ.1 12 0 p = v) (ht : cTr σ l) (hl : l.length + 20 < 410) (h : ∀ σ', Fr tA σ σ' → cTr σ' (l ++ (rolF 4 p v x).2) → Q σ' (some (vI (rolF 4 p v x).1))) : qm_M d 37 [vR 38 0, vR 10 0, vI (nI p), vI x] σ Q := by
  obtain ⟨d, rfl, hd⟩ := qm_dn hd
  show qm_Wp (qm_M d) qk_37 Q 0 [some (vR 38 0), some (vR 10 0), some (vI (nI p)), some (vI x)] [] σ
  refine qm_go 4 (fun P hP => c_began (by omega) ht (by omega) (fun σ1 f1 t1 => hP ?_))
  refine qm_go 5 (fun P hP => c_a42_4 (v := v) (x := x) (by omega) hp (((f1).1 12 0 p (by unfold tA; omega)).trans hv) t1 (by  simp only [List.length_append, List.length_cons, List.length_nil]; omega) (fun σ2 f2 t2 => hP ?_))
  refine qm_go 2 (fun P hP => h σ2 (f1.tr f2) (by rw [List.append_assoc] at t2; exact t2))
theorem c_a43_4 {d : Nat} (hd : 4 ≤ d) {σ : qm_Sg} {Q : qm_Po} {l : List Nat} {p : Nat} {v x : Int32} (hp : p < 6) (hv : σ.1 12 0 p = v) (ht : cTr σ l) (hl : l.length + 20 < 380) (h : ∀ σ', Fr tA σ σ' → cTr σ' (l ++ (oyF 4 p v x).2) → Q σ' (some (vI (oyF 4 p v x).1))) : qm_M d 43 [vR 38 0, vR 10 0, vI (nI p), vI x] σ Q := by
  obtain ⟨d, rfl, hd⟩ := qm_dn hd
  show qm_Wp (qm_M d) qk_43 Q 0 [some (vR 38 0), some (vR 10 0), some (vI (nI p)), some (vI x)] [] σ
  refine qm_go 4 (fun P hP => c_began (by omega) ht (by omega) (fun σ1 f1 t1 => hP ?_))
  refine qm_go 5 (fun P hP => c_a37_4 (v := v) (x := x) (by omega) hp (((f1).1 12 0 p (by unfold tA; omega)).trans hv) t1 (by  simp only [List.length_append, List.length_cons, List.length_nil]; omega) (fun σ2 f2 t2 => hP ?_))
  refine qm_go 4 (fun P hP => Exists.intro (p) (And.intro (And.intro (rfl) (hp)) (hP ?_)))
  rw [((f1.tr f2)).1 12 0 p (by unfold tA; omega), hv]
  refine qm_go 2 (fun P hP => h σ2 (f1.tr f2) (by rw [List.append_assoc] at t2; exact t2))
theorem c_a35_4 {d : Nat} (hd : 5 ≤ d) {σ : qm_Sg} {Q : qm_Po} {l : List Nat} {p : Nat} {v x : Int32} (hp : p < 6) (hv : σ.1 12 0 p = v) (ht : cTr σ l) (hl : l.length + 20 < 350) (h : ∀ σ', Fr tA σ σ' → cTr σ' (l ++ (lyF 4 p v x).2) → Q σ' (some (vI (lyF 4 p v x).1))) : qm_M d 35 [vR 38 0, vR 10 0, vI (nI p), vI x] σ Q := by
  obtain ⟨d, rfl, hd⟩ := qm_dn hd
  show qm_Wp (qm_M d) qk_35 Q 0 [some (vR 38 0), some (vR 10 0), some (vI (nI p)), some (vI x)] [] σ
  refine qm_go 4 (fun P hP => c_began (by omega) ht (by omega) (fun σ1 f1 t1 => hP ?_))
  refine qm_go 5 (fun P hP => c_a43_4 (v := v) (x := x) (by omega) hp (((f1).1 12 0 p (by unfold tA; omega)).trans hv) t1 (by  simp only [List.length_append, List.length_cons, List.length_nil]; omega) (fun σ2 f2 t2 => hP ?_))
  refine qm_go 3 (fun P hP => h σ2 (f1.tr f2) (by rw [List.append_assoc] at t2; exact t2))
theorem c_a38_4 {d : Nat} (hd : 6 ≤ d) {σ : qm_Sg} {Q : qm_Po} {l : List Nat} {p : Nat} {v x : Int32} (hp : p < 6) (hv : σ.1 12 0 p = v) (ht : cTr σ l) (hl : l.length + 20 < 320) (h : ∀ σ', Fr tA σ σ' → cTr σ' (l ++ (yawF 4 p v x).2) → Q σ' (some (vI (yawF 4 p v x).1))) : qm_M d 38 [vR 38 0, vR 10 0, vI (nI p), vI x] σ Q := by
  obtain ⟨d, rfl, hd⟩ := qm_dn hd
  show qm_Wp (qm_M d) qk_38 Q 0 [some (vR 38 0), some (vR 10 0), some (vI (nI p)), some (vI x)] [] σ
  refine qm_go 4 (fun P hP => c_began (by omega) ht (by omega) (fun σ1 f1 t1 => hP ?_))
  refine qm_go 7 (fun P hP => c_a35_4 (v := v) (x := (x + 1)) (by omega) hp (((f1).1 12 0 p (by unfold tA; omega)).trans hv) t1 (by  simp only [List.length_append, List.length_cons, List.length_nil]; omega) (fun σ2 f2 t2 => hP ?_))
  refine qm_go 1 (fun P hP => h σ2 (f1.tr f2) (by rw [List.append_assoc] at t2; exact t2))
theorem c_a44_4 {d : Nat} (hd : 7 ≤ d) {σ : qm_Sg} {Q : qm_Po} {l : List Nat} {p : Nat} {v x : Int32} (hp : p < 6) (hv : σ.1 12 0 p = v) (ht : cTr σ l) (hl : l.length + 20 < 290) (h : ∀ σ', Fr tA σ σ' → cTr σ' (l ++ (otF 4 p v x).2) → Q σ' (some (vI (otF 4 p v x).1))) : qm_M d 44 [vR 38 0, vR 10 0, vI (nI p), vI x] σ Q := by
  obtain ⟨d, rfl, hd⟩ := qm_dn hd
  show qm_Wp (qm_M d) qk_44 Q 0 [some (vR 38 0), some (vR 10 0), some (vI (nI p)), some (vI x)] [] σ
  refine qm_go 4 (fun P hP => c_began (by omega) ht (by omega) (fun σ1 f1 t1 => hP ?_))
  refine qm_go 5 (fun P hP => c_a38_4 (v := v) (x := x) (by omega) hp (((f1).1 12 0 p (by unfold tA; omega)).trans hv) t1 (by  simp only [List.length_append, List.length_cons, List.length_nil]; omega) (fun σ2 f2 t2 => hP ?_))
  refine qm_go 3 (fun P hP => h σ2 (f1.tr f2) (by rw [List.append_assoc] at t2; exact t2))
theorem c_a42_5 {d : Nat} (hd : 2 ≤ d) {σ : qm_Sg} {Q : qm_Po} {l : List Nat} {p : Nat} {v x : Int32} (hp : p < 6) (hv : σ.1 12 0 p = v) (ht : cTr σ l) (hl : l.length + 20 < 440) (h : ∀ σ', Fr tA σ σ' → cTr σ' (l ++ [10]) → Q σ' (some (vI (x + nI p)))) : qm_M d 42 [vR 39 0, vR 10 0, vI (nI p), vI x] σ Q := by
  obtain ⟨d, rfl, hd⟩ := qm_dn hd
  show qm_Wp (qm_M d) qk_42 Q 0 [some (vR 39 0), some (vR 10 0), some (vI (nI p)), some (vI x)] [] σ
  refine qm_go 4 (fun P hP => c_began (by omega) ht (by omega) (fun σ1 f1 t1 => hP ?_))
  refine qm_go 4 (fun P hP => h σ1 f1 (by exact t1))
theorem c_a20_5 {d : Nat} (hd : 3 ≤ d) {σ : qm_Sg} {Q : qm_Po} {l : List Nat} {p : Nat} {v x : Int32} (hp : p < 6) (hv : σ.1 12 0 p = v) (ht : cTr σ l) (hl : l.length + 20 < 410) (h : ∀ σ', Fr tA σ σ' → cTr σ' (l ++ (rolF 5 p v x).2) → Q σ' (some (vI (rolF 5 p v x).1))) : qm_M d 20 [vR 39 0, vR 10 0, vI (nI p), vI x] σ Q := by
  obtain ⟨d, rfl, hd⟩ := qm_dn hd
  show qm_Wp (qm_M d) qk_20 Q 0 [some (vR 39 0), some (vR 10 0), some (vI (nI p)), some (vI x)] [] σ
  refine qm_go 4 (fun P hP => c_began (by omega) ht (by omega) (fun σ1 f1 t1 => hP ?_))
  refine qm_go 7 (fun P hP => c_a42_5 (v := v) (x := (x * 3)) (by omega) hp (((f1).1 12 0 p (by unfold tA; omega)).trans hv) t1 (by  simp only [List.length_append, List.length_cons, List.length_nil]; omega) (fun σ2 f2 t2 => hP ?_))
  refine qm_go 1 (fun P hP => h σ2 (f1.tr f2) (by rw [List.append_assoc] at t2; exact t2))
theorem c_a43_5 {d : Nat} (hd : 4 ≤ d) {σ : qm_Sg} {Q : qm_Po} {l : List Nat} {p : Nat} {v x : Int32} (hp : p < 6) (hv : σ.1 12 0 p = v) (ht : cTr σ l) (hl : l.length + 20 < 380) (h : ∀ σ', Fr tA σ σ' → cTr σ' (l ++ (oyF 5 p v x).2) → Q σ' (some (vI (oyF 5 p v x).1))) : qm_M d 43 [vR 39 0, vR 10 0, vI (nI p), vI x] σ Q := by
  obtain ⟨d, rfl, hd⟩ := qm_dn hd
  show qm_Wp (qm_M d) qk_43 Q 0 [some (vR 39 0), some (vR 10 0), some (vI (nI p)), some (vI x)] [] σ
  refine qm_go 4 (fun P hP => c_began (by omega) ht (by omega) (fun σ1 f1 t1 => hP ?_))
  refine qm_go 5 (fun P hP => c_a20_5 (v := v) (x := x) (by omega) hp (((f1).1 12 0 p (by unfold tA; omega)).trans hv) t1 (by  simp only [List.length_append, List.length_cons, List.length_nil]; omega) (fun σ2 f2 t2 => hP ?_))
  refine qm_go 4 (fun P hP => Exists.intro (p) (And.intro (And.intro (rfl) (hp)) (hP ?_)))
  rw [((f1.tr f2)).1 12 0 p (by unfold tA; omega), hv]
  refine qm_go 2 (fun P hP => h σ2 (f1.tr f2) (by rw [List.append_assoc] at t2; exact t2))
theorem c_a44_5 {d : Nat} (hd : 7 ≤ d) {σ : qm_Sg} {Q : qm_Po} {l : List Nat} {p : Nat} {v x : Int32} (hp : p < 6) (hv : σ.1 12 0 p = v) (ht : cTr σ l) (hl : l.length + 20 < 290) (h : ∀ σ', Fr tA σ σ' → cTr σ' (l ++ (otF 5 p v x).2) → Q σ' (some (vI (otF 5 p v x).1))) : qm_M d 44 [vR 39 0, vR 10 0, vI (nI p), vI x] σ Q := by
  obtain ⟨d, rfl, hd⟩ := qm_dn hd
  show qm_Wp (qm_M d) qk_44 Q 0 [some (vR 39 0), some (vR 10 0), some (vI (nI p)), some (vI x)] [] σ
  refine qm_go 4 (fun P hP => c_began (by omega) ht (by omega) (fun σ1 f1 t1 => hP ?_))
  refine qm_go 5 (fun P hP => c_a43_5 (v := v) (x := x) (by omega) hp (((f1).1 12 0 p (by unfold tA; omega)).trans hv) t1 (by  simp only [List.length_append, List.length_cons, List.length_nil]; omega) (fun σ2 f2 t2 => hP ?_))
  refine qm_go 3 (fun P hP => h σ2 (f1.tr f2) (by rw [List.append_assoc] at t2; exact t2))
theorem c_a40_5 {d : Nat} (hd : 8 ≤ d) {σ : qm_Sg} {Q : qm_Po} {l : List Nat} {p : Nat} {v x : Int32} (hp : p < 6) (hv : σ.1 12 0 p = v) (ht : cTr σ l) (hl : l.length + 20 < 260) (h : ∀ σ', Fr tA σ σ' → cTr σ' (l ++ (telF 5 p v x).2) → Q σ' (some (vI (telF 5 p v x).1))) : qm_M d 40 [vR 39 0, vR 10 0, vI (nI p), vI x] σ Q := by
  obtain ⟨d, rfl, hd⟩ := qm_dn hd
  show qm_Wp (qm_M d) qk_40 Q 0 [some (vR 39 0), some (vR 10 0), some (vI (nI p)), some (vI x)] [] σ
  refine qm_go 4 (fun P hP => c_began (by omega) ht (by omega) (fun σ1 f1 t1 => hP ?_))
  refine qm_go 7 (fun P hP => c_a44_5 (v := v) (x := (x - nI p)) (by omega) hp (((f1).1 12 0 p (by unfold tA; omega)).trans hv) t1 (by  simp only [List.length_append, List.length_cons, List.length_nil]; omega) (fun σ2 f2 t2 => hP ?_))
  refine qm_go 1 (fun P hP => h σ2 (f1.tr f2) (by rw [List.append_assoc] at t2; exact t2))
theorem c_a42_6 {d : Nat} (hd : 2 ≤ d) {σ : qm_Sg} {Q : qm_Po} {l : List Nat} {p : Nat} {v x : Int32} (hp : p < 6) (hv : σ.1 12 0 p = v) (ht : cTr σ l) (hl : l.length + 20 < 440) (h : ∀ σ', Fr tA σ σ' → cTr σ' (l ++ [10]) → Q σ' (some (vI (x + nI p)))) : qm_M d 42 [vR 40 0, vR 10 0, vI (nI p), vI x] σ Q := by
  obtain ⟨d, rfl, hd⟩ := qm_dn hd
  show qm_Wp (qm_M d) qk_42 Q 0 [some (vR 40 0), some (vR 10 0), some (vI (nI p)), some (vI x)] [] σ
  refine qm_go 4 (fun P hP => c_began (by omega) ht (by omega) (fun σ1 f1 t1 => hP ?_))
  refine qm_go 4 (fun P hP => h σ1 f1 (by exact t1))
theorem c_a61_6 {d : Nat} (hd : 3 ≤ d) {σ : qm_Sg} {Q : qm_Po} {l : List Nat} {p : Nat} {v x : Int32} (hp : p < 6) (hv : σ.1 12 0 p = v) (ht : cTr σ l) (hl : l.length + 20 < 410) (h : ∀ σ', Fr tA σ σ' → cTr σ' (l ++ (rolF 6 p v x).2) → Q σ' (some (vI (rolF 6 p v x).1))) : qm_M d 61 [vR 40 0, vR 10 0, vI (nI p), vI x] σ Q := by
  obtain ⟨d, rfl, hd⟩ := qm_dn hd
  show qm_Wp (qm_M d) qk_61 Q 0 [some (vR 40 0), some (vR 10 0), some (vI (nI p)), some (vI x)] [] σ
  refine qm_go 4 (fun P hP => c_began (by omega) ht (by omega) (fun σ1 f1 t1 => hP ?_))
  refine qm_go 5 (fun P hP => c_a42_6 (v := v) (x := x) (by omega) hp (((f1).1 12 0 p (by unfold tA; omega)).trans hv) t1 (by  simp only [List.length_append, List.length_cons, List.length_nil]; omega) (fun σ2 f2 t2 => hP ?_))
  refine qm_go 4 (fun P hP => Exists.intro (p) (And.intro (And.intro (rfl) (hp)) (hP ?_)))
  rw [((f1.tr f2)).1 12 0 p (by unfold tA; omega), hv]
  refine qm_go 2 (fun P hP => h σ2 (f1.tr f2) (by rw [List.append_assoc] at t2; exact t2))
theorem c_a43_6 {d : Nat} (hd : 4 ≤ d) {σ : qm_Sg} {Q : qm_Po} {l : List Nat} {p : Nat} {v x : Int32} (hp : p < 6) (hv : σ.1 12 0 p = v) (ht : cTr σ l) (hl : l.length + 20 < 380) (h : ∀ σ', Fr tA σ σ' → cTr σ' (l ++ (oyF 6 p v x).2) → Q σ' (some (vI (oyF 6 p v x).1))) : qm_M d 43 [vR 40 0, vR 10 0, vI (nI p), vI x] σ Q := by
  obtain ⟨d, rfl, hd⟩ := qm_dn hd
  show qm_Wp (qm_M d) qk_43 Q 0 [some (vR 40 0), some (vR 10 0), some (vI (nI p)), some (vI x)] [] σ
  refine qm_go 4 (fun P hP => c_began (by omega) ht (by omega) (fun σ1 f1 t1 => hP ?_))
  refine qm_go 5 (fun P hP => c_a61_6 (v := v) (x := x) (by omega) hp (((f1).1 12 0 p (by unfold tA; omega)).trans hv) t1 (by  simp only [List.length_append, List.length_cons, List.length_nil]; omega) (fun σ2 f2 t2 => hP ?_))
  refine qm_go 4 (fun P hP => Exists.intro (p) (And.intro (And.intro (rfl) (hp)) (hP ?_)))
  rw [((f1.tr f2)).1 12 0 p (by unfold tA; omega), hv]
  refine qm_go 2 (fun P hP => h σ2 (f1.tr f2) (by rw [List.append_assoc] at t2; exact t2))
theorem c_a60_6 {d : Nat} (hd : 5 ≤ d) {σ : qm_Sg} {Q : qm_Po} {l : List Nat} {p : Nat} {v x : Int32} (hp : p < 6) (hv : σ.1 12 0 p = v) (ht : cTr σ l) (hl : l.length + 20 < 350) (h : ∀ σ', Fr tA σ σ' → cTr σ' (l ++ (yawF 6 p v x).2) → Q σ' (some (vI (yawF 6 p v x).1))) : qm_M d 60 [vR 40 0, vR 10 0, vI (nI p), vI x] σ Q := by
  obtain ⟨d, rfl, hd⟩ := qm_dn hd
  show qm_Wp (qm_M d) qk_60 Q 0 [some (vR 40 0), some (vR 10 0), some (vI (nI p)), some (vI x)] [] σ
  refine qm_go 4 (fun P hP => c_began (by omega) ht (by omega) (fun σ1 f1 t1 => hP ?_))
  refine qm_go 5 (fun P hP => c_a43_6 (v := v) (x := x) (by omega) hp (((f1).1 12 0 p (by unfold tA; omega)).trans hv) t1 (by  simp only [List.length_append, List.length_cons, List.length_nil]; omega) (fun σ2 f2 t2 => hP ?_))
  refine qm_go 5 (fun P hP => c_a42_6 (v := v) (x := 2) (by omega) hp ((((f1.tr f2)).1 12 0 p (by unfold tA; omega)).trans hv) t2 (by have z0 : ((oyF 6 p v x).2).length = 3 := rfl; simp only [List.length_append, List.length_cons, List.length_nil, z0]; omega) (fun σ3 f3 t3 => hP ?_))
  refine qm_go 2 (fun P hP => h σ3 ((f1.tr f2).tr f3) (by rw [List.append_assoc, List.append_assoc] at t3; exact t3))
theorem c_a44_6 {d : Nat} (hd : 7 ≤ d) {σ : qm_Sg} {Q : qm_Po} {l : List Nat} {p : Nat} {v x : Int32} (hp : p < 6) (hv : σ.1 12 0 p = v) (ht : cTr σ l) (hl : l.length + 20 < 290) (h : ∀ σ', Fr tA σ σ' → cTr σ' (l ++ (otF 6 p v x).2) → Q σ' (some (vI (otF 6 p v x).1))) : qm_M d 44 [vR 40 0, vR 10 0, vI (nI p), vI x] σ Q := by
  obtain ⟨d, rfl, hd⟩ := qm_dn hd
  show qm_Wp (qm_M d) qk_44 Q 0 [some (vR 40 0), some (vR 10 0), some (vI (nI p)), some (vI x)] [] σ
  refine qm_go 4 (fun P hP => c_began (by omega) ht (by omega) (fun σ1 f1 t1 => hP ?_))
  refine qm_go 5 (fun P hP => c_a60_6 (v := v) (x := x) (by omega) hp (((f1).1 12 0 p (by unfold tA; omega)).trans hv) t1 (by  simp only [List.length_append, List.length_cons, List.length_nil]; omega) (fun σ2 f2 t2 => hP ?_))
  refine qm_go 3 (fun P hP => h σ2 (f1.tr f2) (by rw [List.append_assoc] at t2; exact t2))
theorem c_a18_6 {d : Nat} (hd : 8 ≤ d) {σ : qm_Sg} {Q : qm_Po} {l : List Nat} {p : Nat} {v x : Int32} (hp : p < 6) (hv : σ.1 12 0 p = v) (ht : cTr σ l) (hl : l.length + 20 < 260) (h : ∀ σ', Fr tA σ σ' → cTr σ' (l ++ (telF 6 p v x).2) → Q σ' (some (vI (telF 6 p v x).1))) : qm_M d 18 [vR 40 0, vR 10 0, vI (nI p), vI x] σ Q := by
  obtain ⟨d, rfl, hd⟩ := qm_dn hd
  show qm_Wp (qm_M d) qk_18 Q 0 [some (vR 40 0), some (vR 10 0), some (vI (nI p)), some (vI x)] [] σ
  refine qm_go 4 (fun P hP => c_began (by omega) ht (by omega) (fun σ1 f1 t1 => hP ?_))
  refine qm_go 5 (fun P hP => c_a44_6 (v := v) (x := x) (by omega) hp (((f1).1 12 0 p (by unfold tA; omega)).trans hv) t1 (by  simp only [List.length_append, List.length_cons, List.length_nil]; omega) (fun σ2 f2 t2 => hP ?_))
  refine qm_go 5 (fun P hP => c_a60_6 (v := v) (x := 1) (by omega) hp ((((f1.tr f2)).1 12 0 p (by unfold tA; omega)).trans hv) t2 (by have z0 : ((otF 6 p v x).2).length = 6 := rfl; simp only [List.length_append, List.length_cons, List.length_nil, z0]; omega) (fun σ3 f3 t3 => hP ?_))
  refine qm_go 2 (fun P hP => h σ3 ((f1.tr f2).tr f3) (by rw [List.append_assoc, List.append_assoc] at t3; exact t3))
