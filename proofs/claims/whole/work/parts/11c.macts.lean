theorem m_a180_0 {d : Nat} (hd : 2 ≤ d) {σ : qm_Sg} {Q : qm_Po} {l : List Nat} {p : Nat} {v x : Int32} (hp : p < 6) (hv : σ.1 52 0 p = v) (hk : σ.1 51 0 p = nI 0) (ht : mTr σ l) (hl : l.length + 20 < 440) (h : ∀ σ', Fr tB σ σ' → mTr σ' (l ++ [10]) → Q σ' (some (vI (x + nI p)))) : qm_M d 180 [vR 50 0, vI (nI p), vI x] σ Q := by
  obtain ⟨d, rfl, hd⟩ := qm_dn hd
  show qm_Wp (qm_M d) qk_180 Q 0 [some (vR 50 0), some (vI (nI p)), some (vI x)] [] σ
  refine qm_go 3 (fun P hP => m_body (by omega) ht (by omega) (fun σ1 f1 t1 => hP ?_))
  refine qm_go 4 (fun P hP => h σ1 f1 (by exact t1))
theorem m_a181_0 {d : Nat} (hd : 3 ≤ d) {σ : qm_Sg} {Q : qm_Po} {l : List Nat} {p : Nat} {v x : Int32} (hp : p < 6) (hv : σ.1 52 0 p = v) (hk : σ.1 51 0 p = nI 0) (ht : mTr σ l) (hl : l.length + 20 < 410) (h : ∀ σ', Fr tB σ σ' → mTr σ' (l ++ (rolF 0 p v x).2) → Q σ' (some (vI (rolF 0 p v x).1))) : qm_M d 181 [vR 50 0, vI (nI p), vI x] σ Q := by
  obtain ⟨d, rfl, hd⟩ := qm_dn hd
  show qm_Wp (qm_M d) qk_181 Q 0 [some (vR 50 0), some (vI (nI p)), some (vI x)] [] σ
  refine qm_go 4 (fun P hP => Exists.intro (p) (And.intro (And.intro (rfl) (hp)) (hP ?_)))
  rw [hk]
  refine qm_go 1 (fun P hP => And.intro (fun c => absurd c (by decide)) (fun _ => And.intro (fun c => absurd c (by decide)) (fun _ => And.intro (fun c => absurd c (by decide)) (fun _ => And.intro (fun c => absurd c (by decide)) (fun _ => And.intro (fun c => absurd c (by decide)) (fun _ => hP ?_))))))
  refine qm_go 4 (fun P hP => m_a180_0 (v := v) (x := x) (by omega) hp hv hk ht (by omega) (fun σ1 f1 t1 => hP ?_))
  refine qm_go 1 (fun P hP => h σ1 f1 (by exact t1))
theorem m_a182_0 {d : Nat} (hd : 4 ≤ d) {σ : qm_Sg} {Q : qm_Po} {l : List Nat} {p : Nat} {v x : Int32} (hp : p < 6) (hv : σ.1 52 0 p = v) (hk : σ.1 51 0 p = nI 0) (ht : mTr σ l) (hl : l.length + 20 < 380) (h : ∀ σ', Fr tB σ σ' → mTr σ' (l ++ (oyF 0 p v x).2) → Q σ' (some (vI (oyF 0 p v x).1))) : qm_M d 182 [vR 50 0, vI (nI p), vI x] σ Q := by
  obtain ⟨d, rfl, hd⟩ := qm_dn hd
  show qm_Wp (qm_M d) qk_182 Q 0 [some (vR 50 0), some (vI (nI p)), some (vI x)] [] σ
  refine qm_go 3 (fun P hP => m_body (by omega) ht (by omega) (fun σ1 f1 t1 => hP ?_))
  refine qm_go 4 (fun P hP => m_a181_0 (v := v) (x := x) (by omega) hp ((f1.1 52 0 p (by unfold tB; omega)).trans hv) ((f1.1 51 0 p (by unfold tB; omega)).trans hk) t1 (by  simp only [List.length_append, List.length_cons, List.length_nil]; omega) (fun σ2 f2 t2 => hP ?_))
  refine qm_go 4 (fun P hP => Exists.intro (p) (And.intro (And.intro (rfl) (hp)) (hP ?_)))
  rw [(f1.tr f2).1 52 0 p (by unfold tB; omega), hv]
  refine qm_go 2 (fun P hP => h σ2 (f1.tr f2) (by rw [List.append_assoc] at t2; exact t2))
theorem m_a184_0 {d : Nat} (hd : 6 ≤ d) {σ : qm_Sg} {Q : qm_Po} {l : List Nat} {p : Nat} {v x : Int32} (hp : p < 6) (hv : σ.1 52 0 p = v) (hk : σ.1 51 0 p = nI 0) (ht : mTr σ l) (hl : l.length + 20 < 320) (h : ∀ σ', Fr tB σ σ' → mTr σ' (l ++ (yawF 0 p v x).2) → Q σ' (some (vI (yawF 0 p v x).1))) : qm_M d 184 [vR 50 0, vI (nI p), vI x] σ Q := by
  obtain ⟨d, rfl, hd⟩ := qm_dn hd
  show qm_Wp (qm_M d) qk_184 Q 0 [some (vR 50 0), some (vI (nI p)), some (vI x), none] [] σ
  refine qm_go 4 (fun P hP => Exists.intro (p) (And.intro (And.intro (rfl) (hp)) (hP ?_)))
  rw [hk]
  refine qm_go 1 (fun P hP => And.intro (fun c => absurd c (by decide)) (fun _ => And.intro (fun c => absurd c (by decide)) (fun _ => And.intro (fun c => absurd c (by decide)) (fun _ => hP ?_))))
  refine qm_go 4 (fun P hP => m_a182_0 (v := v) (x := x) (by omega) hp hv hk ht (by omega) (fun σ1 f1 t1 => hP ?_))
  refine qm_go 1 (fun P hP => h σ1 f1 (by exact t1))
theorem m_a185_0 {d : Nat} (hd : 7 ≤ d) {σ : qm_Sg} {Q : qm_Po} {l : List Nat} {p : Nat} {v x : Int32} (hp : p < 6) (hv : σ.1 52 0 p = v) (hk : σ.1 51 0 p = nI 0) (ht : mTr σ l) (hl : l.length + 20 < 290) (h : ∀ σ', Fr tB σ σ' → mTr σ' (l ++ (otF 0 p v x).2) → Q σ' (some (vI (otF 0 p v x).1))) : qm_M d 185 [vR 50 0, vI (nI p), vI x] σ Q := by
  obtain ⟨d, rfl, hd⟩ := qm_dn hd
  show qm_Wp (qm_M d) qk_185 Q 0 [some (vR 50 0), some (vI (nI p)), some (vI x)] [] σ
  refine qm_go 3 (fun P hP => m_body (by omega) ht (by omega) (fun σ1 f1 t1 => hP ?_))
  refine qm_go 4 (fun P hP => m_a184_0 (v := v) (x := x) (by omega) hp ((f1.1 52 0 p (by unfold tB; omega)).trans hv) ((f1.1 51 0 p (by unfold tB; omega)).trans hk) t1 (by  simp only [List.length_append, List.length_cons, List.length_nil]; omega) (fun σ2 f2 t2 => hP ?_))
  refine qm_go 3 (fun P hP => h σ2 (f1.tr f2) (by rw [List.append_assoc] at t2; exact t2))
theorem m_a186_0 {d : Nat} (hd : 8 ≤ d) {σ : qm_Sg} {Q : qm_Po} {l : List Nat} {p : Nat} {v x : Int32} (hp : p < 6) (hv : σ.1 52 0 p = v) (hk : σ.1 51 0 p = nI 0) (ht : mTr σ l) (hl : l.length + 20 < 260) (h : ∀ σ', Fr tB σ σ' → mTr σ' (l ++ (telF 0 p v x).2) → Q σ' (some (vI (telF 0 p v x).1))) : qm_M d 186 [vR 50 0, vI (nI p), vI x] σ Q := by
  obtain ⟨d, rfl, hd⟩ := qm_dn hd
  show qm_Wp (qm_M d) qk_186 Q 0 [some (vR 50 0), some (vI (nI p)), some (vI x), none] [] σ
  refine qm_go 4 (fun P hP => Exists.intro (p) (And.intro (And.intro (rfl) (hp)) (hP ?_)))
  rw [hk]
  refine qm_go 1 (fun P hP => And.intro (fun c => absurd c (by decide)) (fun _ => And.intro (fun c => absurd c (by decide)) (fun _ => And.intro (fun c => absurd c (by decide)) (fun _ => And.intro (fun c => absurd c (by decide)) (fun _ => hP ?_)))))
  refine qm_go 4 (fun P hP => m_a185_0 (v := v) (x := x) (by omega) hp hv hk ht (by omega) (fun σ1 f1 t1 => hP ?_))
  refine qm_go 1 (fun P hP => h σ1 f1 (by exact t1))
theorem m_a180_1 {d : Nat} (hd : 2 ≤ d) {σ : qm_Sg} {Q : qm_Po} {l : List Nat} {p : Nat} {v x : Int32} (hp : p < 6) (hv : σ.1 52 0 p = v) (hk : σ.1 51 0 p = nI 1) (ht : mTr σ l) (hl : l.length + 20 < 440) (h : ∀ σ', Fr tB σ σ' → mTr σ' (l ++ [10]) → Q σ' (some (vI (x + nI p)))) : qm_M d 180 [vR 50 0, vI (nI p), vI x] σ Q := by
  obtain ⟨d, rfl, hd⟩ := qm_dn hd
  show qm_Wp (qm_M d) qk_180 Q 0 [some (vR 50 0), some (vI (nI p)), some (vI x)] [] σ
  refine qm_go 3 (fun P hP => m_body (by omega) ht (by omega) (fun σ1 f1 t1 => hP ?_))
  refine qm_go 4 (fun P hP => h σ1 f1 (by exact t1))
theorem m_a181_1 {d : Nat} (hd : 3 ≤ d) {σ : qm_Sg} {Q : qm_Po} {l : List Nat} {p : Nat} {v x : Int32} (hp : p < 6) (hv : σ.1 52 0 p = v) (hk : σ.1 51 0 p = nI 1) (ht : mTr σ l) (hl : l.length + 20 < 410) (h : ∀ σ', Fr tB σ σ' → mTr σ' (l ++ (rolF 1 p v x).2) → Q σ' (some (vI (rolF 1 p v x).1))) : qm_M d 181 [vR 50 0, vI (nI p), vI x] σ Q := by
  obtain ⟨d, rfl, hd⟩ := qm_dn hd
  show qm_Wp (qm_M d) qk_181 Q 0 [some (vR 50 0), some (vI (nI p)), some (vI x)] [] σ
  refine qm_go 4 (fun P hP => Exists.intro (p) (And.intro (And.intro (rfl) (hp)) (hP ?_)))
  rw [hk]
  refine qm_go 1 (fun P hP => And.intro (fun c => absurd c (by decide)) (fun _ => And.intro (fun c => absurd c (by decide)) (fun _ => And.intro (fun c => absurd c (by decide)) (fun _ => And.intro (fun c => absurd c (by decide)) (fun _ => And.intro (fun c => absurd c (by decide)) (fun _ => hP ?_))))))
  refine qm_go 4 (fun P hP => m_a180_1 (v := v) (x := x) (by omega) hp hv hk ht (by omega) (fun σ1 f1 t1 => hP ?_))
  refine qm_go 1 (fun P hP => h σ1 f1 (by exact t1))
theorem m_a182_1 {d : Nat} (hd : 4 ≤ d) {σ : qm_Sg} {Q : qm_Po} {l : List Nat} {p : Nat} {v x : Int32} (hp : p < 6) (hv : σ.1 52 0 p = v) (hk : σ.1 51 0 p = nI 1) (ht : mTr σ l) (hl : l.length + 20 < 380) (h : ∀ σ', Fr tB σ σ' → mTr σ' (l ++ (oyF 1 p v x).2) → Q σ' (some (vI (oyF 1 p v x).1))) : qm_M d 182 [vR 50 0, vI (nI p), vI x] σ Q := by
  obtain ⟨d, rfl, hd⟩ := qm_dn hd
  show qm_Wp (qm_M d) qk_182 Q 0 [some (vR 50 0), some (vI (nI p)), some (vI x)] [] σ
  refine qm_go 3 (fun P hP => m_body (by omega) ht (by omega) (fun σ1 f1 t1 => hP ?_))
  refine qm_go 4 (fun P hP => m_a181_1 (v := v) (x := x) (by omega) hp ((f1.1 52 0 p (by unfold tB; omega)).trans hv) ((f1.1 51 0 p (by unfold tB; omega)).trans hk) t1 (by  simp only [List.length_append, List.length_cons, List.length_nil]; omega) (fun σ2 f2 t2 => hP ?_))
  refine qm_go 4 (fun P hP => Exists.intro (p) (And.intro (And.intro (rfl) (hp)) (hP ?_)))
  rw [(f1.tr f2).1 52 0 p (by unfold tB; omega), hv]
  refine qm_go 2 (fun P hP => h σ2 (f1.tr f2) (by rw [List.append_assoc] at t2; exact t2))
theorem m_a183_1 {d : Nat} (hd : 5 ≤ d) {σ : qm_Sg} {Q : qm_Po} {l : List Nat} {p : Nat} {v x : Int32} (hp : p < 6) (hv : σ.1 52 0 p = v) (hk : σ.1 51 0 p = nI 1) (ht : mTr σ l) (hl : l.length + 20 < 350) (h : ∀ σ', Fr tB σ σ' → mTr σ' (l ++ (lyF 1 p v x).2) → Q σ' (some (vI (lyF 1 p v x).1))) : qm_M d 183 [vR 50 0, vI (nI p), vI x] σ Q := by
  obtain ⟨d, rfl, hd⟩ := qm_dn hd
  show qm_Wp (qm_M d) qk_183 Q 0 [some (vR 50 0), some (vI (nI p)), some (vI x)] [] σ
  refine qm_go 3 (fun P hP => m_body (by omega) ht (by omega) (fun σ1 f1 t1 => hP ?_))
  refine qm_go 4 (fun P hP => m_a182_1 (v := v) (x := x) (by omega) hp ((f1.1 52 0 p (by unfold tB; omega)).trans hv) ((f1.1 51 0 p (by unfold tB; omega)).trans hk) t1 (by  simp only [List.length_append, List.length_cons, List.length_nil]; omega) (fun σ2 f2 t2 => hP ?_))
  refine qm_go 3 (fun P hP => h σ2 (f1.tr f2) (by rw [List.append_assoc] at t2; exact t2))
theorem m_a184_1 {d : Nat} (hd : 6 ≤ d) {σ : qm_Sg} {Q : qm_Po} {l : List Nat} {p : Nat} {v x : Int32} (hp : p < 6) (hv : σ.1 52 0 p = v) (hk : σ.1 51 0 p = nI 1) (ht : mTr σ l) (hl : l.length + 20 < 320) (h : ∀ σ', Fr tB σ σ' → mTr σ' (l ++ (yawF 1 p v x).2) → Q σ' (some (vI (yawF 1 p v x).1))) : qm_M d 184 [vR 50 0, vI (nI p), vI x] σ Q := by
  obtain ⟨d, rfl, hd⟩ := qm_dn hd
  show qm_Wp (qm_M d) qk_184 Q 0 [some (vR 50 0), some (vI (nI p)), some (vI x), none] [] σ
  refine qm_go 4 (fun P hP => Exists.intro (p) (And.intro (And.intro (rfl) (hp)) (hP ?_)))
  rw [hk]
  refine qm_go 1 (fun P hP => And.intro (fun _ => hP ?_) (fun n => absurd (by decide) n))
  refine qm_go 4 (fun P hP => m_a183_1 (v := v) (x := x) (by omega) hp hv hk ht (by omega) (fun σ1 f1 t1 => hP ?_))
  refine qm_go 1 (fun P hP => h σ1 f1 (by exact t1))
theorem m_a185_1 {d : Nat} (hd : 7 ≤ d) {σ : qm_Sg} {Q : qm_Po} {l : List Nat} {p : Nat} {v x : Int32} (hp : p < 6) (hv : σ.1 52 0 p = v) (hk : σ.1 51 0 p = nI 1) (ht : mTr σ l) (hl : l.length + 20 < 290) (h : ∀ σ', Fr tB σ σ' → mTr σ' (l ++ (otF 1 p v x).2) → Q σ' (some (vI (otF 1 p v x).1))) : qm_M d 185 [vR 50 0, vI (nI p), vI x] σ Q := by
  obtain ⟨d, rfl, hd⟩ := qm_dn hd
  show qm_Wp (qm_M d) qk_185 Q 0 [some (vR 50 0), some (vI (nI p)), some (vI x)] [] σ
  refine qm_go 3 (fun P hP => m_body (by omega) ht (by omega) (fun σ1 f1 t1 => hP ?_))
  refine qm_go 4 (fun P hP => m_a184_1 (v := v) (x := x) (by omega) hp ((f1.1 52 0 p (by unfold tB; omega)).trans hv) ((f1.1 51 0 p (by unfold tB; omega)).trans hk) t1 (by  simp only [List.length_append, List.length_cons, List.length_nil]; omega) (fun σ2 f2 t2 => hP ?_))
  refine qm_go 3 (fun P hP => h σ2 (f1.tr f2) (by rw [List.append_assoc] at t2; exact t2))
theorem m_a186_1 {d : Nat} (hd : 8 ≤ d) {σ : qm_Sg} {Q : qm_Po} {l : List Nat} {p : Nat} {v x : Int32} (hp : p < 6) (hv : σ.1 52 0 p = v) (hk : σ.1 51 0 p = nI 1) (ht : mTr σ l) (hl : l.length + 20 < 260) (h : ∀ σ', Fr tB σ σ' → mTr σ' (l ++ (telF 1 p v x).2) → Q σ' (some (vI (telF 1 p v x).1))) : qm_M d 186 [vR 50 0, vI (nI p), vI x] σ Q := by
  obtain ⟨d, rfl, hd⟩ := qm_dn hd
  show qm_Wp (qm_M d) qk_186 Q 0 [some (vR 50 0), some (vI (nI p)), some (vI x), none] [] σ
  refine qm_go 4 (fun P hP => Exists.intro (p) (And.intro (And.intro (rfl) (hp)) (hP ?_)))
  rw [hk]
  refine qm_go 1 (fun P hP => And.intro (fun c => absurd c (by decide)) (fun _ => And.intro (fun c => absurd c (by decide)) (fun _ => And.intro (fun c => absurd c (by decide)) (fun _ => And.intro (fun c => absurd c (by decide)) (fun _ => hP ?_)))))
  refine qm_go 4 (fun P hP => m_a185_1 (v := v) (x := x) (by omega) hp hv hk ht (by omega) (fun σ1 f1 t1 => hP ?_))
  refine qm_go 1 (fun P hP => h σ1 f1 (by exact t1))
theorem m_a180_2 {d : Nat} (hd : 2 ≤ d) {σ : qm_Sg} {Q : qm_Po} {l : List Nat} {p : Nat} {v x : Int32} (hp : p < 6) (hv : σ.1 52 0 p = v) (hk : σ.1 51 0 p = nI 2) (ht : mTr σ l) (hl : l.length + 20 < 440) (h : ∀ σ', Fr tB σ σ' → mTr σ' (l ++ [10]) → Q σ' (some (vI (x + nI p)))) : qm_M d 180 [vR 50 0, vI (nI p), vI x] σ Q := by
  obtain ⟨d, rfl, hd⟩ := qm_dn hd
  show qm_Wp (qm_M d) qk_180 Q 0 [some (vR 50 0), some (vI (nI p)), some (vI x)] [] σ
  refine qm_go 3 (fun P hP => m_body (by omega) ht (by omega) (fun σ1 f1 t1 => hP ?_))
  refine qm_go 4 (fun P hP => h σ1 f1 (by exact t1))
theorem m_a181_2 {d : Nat} (hd : 3 ≤ d) {σ : qm_Sg} {Q : qm_Po} {l : List Nat} {p : Nat} {v x : Int32} (hp : p < 6) (hv : σ.1 52 0 p = v) (hk : σ.1 51 0 p = nI 2) (ht : mTr σ l) (hl : l.length + 20 < 410) (h : ∀ σ', Fr tB σ σ' → mTr σ' (l ++ (rolF 2 p v x).2) → Q σ' (some (vI (rolF 2 p v x).1))) : qm_M d 181 [vR 50 0, vI (nI p), vI x] σ Q := by
  obtain ⟨d, rfl, hd⟩ := qm_dn hd
  show qm_Wp (qm_M d) qk_181 Q 0 [some (vR 50 0), some (vI (nI p)), some (vI x)] [] σ
  refine qm_go 4 (fun P hP => Exists.intro (p) (And.intro (And.intro (rfl) (hp)) (hP ?_)))
  rw [hk]
  refine qm_go 1 (fun P hP => And.intro (fun _ => hP ?_) (fun n => absurd (by decide) n))
  refine qm_go 3 (fun P hP => m_body (by omega) ht (by omega) (fun σ1 f1 t1 => hP ?_))
  refine qm_go 6 (fun P hP => m_a180_2 (v := v) (x := (x * 3)) (by omega) hp ((f1.1 52 0 p (by unfold tB; omega)).trans hv) ((f1.1 51 0 p (by unfold tB; omega)).trans hk) t1 (by  simp only [List.length_append, List.length_cons, List.length_nil]; omega) (fun σ2 f2 t2 => hP ?_))
  refine qm_go 1 (fun P hP => h σ2 (f1.tr f2) (by rw [List.append_assoc] at t2; exact t2))
theorem m_a182_2 {d : Nat} (hd : 4 ≤ d) {σ : qm_Sg} {Q : qm_Po} {l : List Nat} {p : Nat} {v x : Int32} (hp : p < 6) (hv : σ.1 52 0 p = v) (hk : σ.1 51 0 p = nI 2) (ht : mTr σ l) (hl : l.length + 20 < 380) (h : ∀ σ', Fr tB σ σ' → mTr σ' (l ++ (oyF 2 p v x).2) → Q σ' (some (vI (oyF 2 p v x).1))) : qm_M d 182 [vR 50 0, vI (nI p), vI x] σ Q := by
  obtain ⟨d, rfl, hd⟩ := qm_dn hd
  show qm_Wp (qm_M d) qk_182 Q 0 [some (vR 50 0), some (vI (nI p)), some (vI x)] [] σ
  refine qm_go 3 (fun P hP => m_body (by omega) ht (by omega) (fun σ1 f1 t1 => hP ?_))
  refine qm_go 4 (fun P hP => m_a181_2 (v := v) (x := x) (by omega) hp ((f1.1 52 0 p (by unfold tB; omega)).trans hv) ((f1.1 51 0 p (by unfold tB; omega)).trans hk) t1 (by  simp only [List.length_append, List.length_cons, List.length_nil]; omega) (fun σ2 f2 t2 => hP ?_))
  refine qm_go 4 (fun P hP => Exists.intro (p) (And.intro (And.intro (rfl) (hp)) (hP ?_)))
  rw [(f1.tr f2).1 52 0 p (by unfold tB; omega), hv]
  refine qm_go 2 (fun P hP => h σ2 (f1.tr f2) (by rw [List.append_assoc] at t2; exact t2))
theorem m_a184_2 {d : Nat} (hd : 6 ≤ d) {σ : qm_Sg} {Q : qm_Po} {l : List Nat} {p : Nat} {v x : Int32} (hp : p < 6) (hv : σ.1 52 0 p = v) (hk : σ.1 51 0 p = nI 2) (ht : mTr σ l) (hl : l.length + 20 < 320) (h : ∀ σ', Fr tB σ σ' → mTr σ' (l ++ (yawF 2 p v x).2) → Q σ' (some (vI (yawF 2 p v x).1))) : qm_M d 184 [vR 50 0, vI (nI p), vI x] σ Q := by
  obtain ⟨d, rfl, hd⟩ := qm_dn hd
  show qm_Wp (qm_M d) qk_184 Q 0 [some (vR 50 0), some (vI (nI p)), some (vI x), none] [] σ
  refine qm_go 4 (fun P hP => Exists.intro (p) (And.intro (And.intro (rfl) (hp)) (hP ?_)))
  rw [hk]
  refine qm_go 1 (fun P hP => And.intro (fun c => absurd c (by decide)) (fun _ => And.intro (fun c => absurd c (by decide)) (fun _ => And.intro (fun c => absurd c (by decide)) (fun _ => hP ?_))))
  refine qm_go 4 (fun P hP => m_a182_2 (v := v) (x := x) (by omega) hp hv hk ht (by omega) (fun σ1 f1 t1 => hP ?_))
  refine qm_go 1 (fun P hP => h σ1 f1 (by exact t1))
theorem m_a185_2 {d : Nat} (hd : 7 ≤ d) {σ : qm_Sg} {Q : qm_Po} {l : List Nat} {p : Nat} {v x : Int32} (hp : p < 6) (hv : σ.1 52 0 p = v) (hk : σ.1 51 0 p = nI 2) (ht : mTr σ l) (hl : l.length + 20 < 290) (h : ∀ σ', Fr tB σ σ' → mTr σ' (l ++ (otF 2 p v x).2) → Q σ' (some (vI (otF 2 p v x).1))) : qm_M d 185 [vR 50 0, vI (nI p), vI x] σ Q := by
  obtain ⟨d, rfl, hd⟩ := qm_dn hd
  show qm_Wp (qm_M d) qk_185 Q 0 [some (vR 50 0), some (vI (nI p)), some (vI x)] [] σ
  refine qm_go 3 (fun P hP => m_body (by omega) ht (by omega) (fun σ1 f1 t1 => hP ?_))
  refine qm_go 4 (fun P hP => m_a184_2 (v := v) (x := x) (by omega) hp ((f1.1 52 0 p (by unfold tB; omega)).trans hv) ((f1.1 51 0 p (by unfold tB; omega)).trans hk) t1 (by  simp only [List.length_append, List.length_cons, List.length_nil]; omega) (fun σ2 f2 t2 => hP ?_))
  refine qm_go 3 (fun P hP => h σ2 (f1.tr f2) (by rw [List.append_assoc] at t2; exact t2))
theorem m_a186_2 {d : Nat} (hd : 8 ≤ d) {σ : qm_Sg} {Q : qm_Po} {l : List Nat} {p : Nat} {v x : Int32} (hp : p < 6) (hv : σ.1 52 0 p = v) (hk : σ.1 51 0 p = nI 2) (ht : mTr σ l) (hl : l.length + 20 < 260) (h : ∀ σ', Fr tB σ σ' → mTr σ' (l ++ (telF 2 p v x).2) → Q σ' (some (vI (telF 2 p v x).1))) : qm_M d 186 [vR 50 0, vI (nI p), vI x] σ Q := by
  obtain ⟨d, rfl, hd⟩ := qm_dn hd
  show qm_Wp (qm_M d) qk_186 Q 0 [some (vR 50 0), some (vI (nI p)), some (vI x), none] [] σ
  refine qm_go 4 (fun P hP => Exists.intro (p) (And.intro (And.intro (rfl) (hp)) (hP ?_)))
  rw [hk]
  refine qm_go 1 (fun P hP => And.intro (fun c => absurd c (by decide)) (fun _ => And.intro (fun c => absurd c (by decide)) (fun _ => And.intro (fun c => absurd c (by decide)) (fun _ => And.intro (fun c => absurd c (by decide)) (fun _ => hP ?_)))))
  refine qm_go 4 (fun P hP => m_a185_2 (v := v) (x := x) (by omega) hp hv hk ht (by omega) (fun σ1 f1 t1 => hP ?_))
  refine qm_go 1 (fun P hP => h σ1 f1 (by exact t1))
theorem m_a180_3 {d : Nat} (hd : 2 ≤ d) {σ : qm_Sg} {Q : qm_Po} {l : List Nat} {p : Nat} {v x : Int32} (hp : p < 6) (hv : σ.1 52 0 p = v) (hk : σ.1 51 0 p = nI 3) (ht : mTr σ l) (hl : l.length + 20 < 440) (h : ∀ σ', Fr tB σ σ' → mTr σ' (l ++ [10]) → Q σ' (some (vI (x + nI p)))) : qm_M d 180 [vR 50 0, vI (nI p), vI x] σ Q := by
  obtain ⟨d, rfl, hd⟩ := qm_dn hd
  show qm_Wp (qm_M d) qk_180 Q 0 [some (vR 50 0), some (vI (nI p)), some (vI x)] [] σ
  refine qm_go 3 (fun P hP => m_body (by omega) ht (by omega) (fun σ1 f1 t1 => hP ?_))
  refine qm_go 4 (fun P hP => h σ1 f1 (by exact t1))
theorem m_a181_3 {d : Nat} (hd : 3 ≤ d) {σ : qm_Sg} {Q : qm_Po} {l : List Nat} {p : Nat} {v x : Int32} (hp : p < 6) (hv : σ.1 52 0 p = v) (hk : σ.1 51 0 p = nI 3) (ht : mTr σ l) (hl : l.length + 20 < 410) (h : ∀ σ', Fr tB σ σ' → mTr σ' (l ++ (rolF 3 p v x).2) → Q σ' (some (vI (rolF 3 p v x).1))) : qm_M d 181 [vR 50 0, vI (nI p), vI x] σ Q := by
  obtain ⟨d, rfl, hd⟩ := qm_dn hd
  show qm_Wp (qm_M d) qk_181 Q 0 [some (vR 50 0), some (vI (nI p)), some (vI x)] [] σ
  refine qm_go 4 (fun P hP => Exists.intro (p) (And.intro (And.intro (rfl) (hp)) (hP ?_)))
  rw [hk]
  refine qm_go 1 (fun P hP => And.intro (fun c => absurd c (by decide)) (fun _ => And.intro (fun _ => hP ?_) (fun n => absurd (by decide) n)))
  refine qm_go 4 (fun P hP => m_a180_3 (v := v) (x := x) (by omega) hp hv hk ht (by omega) (fun σ1 f1 t1 => hP ?_))
  refine qm_go 1 (fun P hP => h σ1 f1 (by exact t1))
theorem m_a182_3 {d : Nat} (hd : 4 ≤ d) {σ : qm_Sg} {Q : qm_Po} {l : List Nat} {p : Nat} {v x : Int32} (hp : p < 6) (hv : σ.1 52 0 p = v) (hk : σ.1 51 0 p = nI 3) (ht : mTr σ l) (hl : l.length + 20 < 380) (h : ∀ σ', Fr tB σ σ' → mTr σ' (l ++ (oyF 3 p v x).2) → Q σ' (some (vI (oyF 3 p v x).1))) : qm_M d 182 [vR 50 0, vI (nI p), vI x] σ Q := by
  obtain ⟨d, rfl, hd⟩ := qm_dn hd
  show qm_Wp (qm_M d) qk_182 Q 0 [some (vR 50 0), some (vI (nI p)), some (vI x)] [] σ
  refine qm_go 3 (fun P hP => m_body (by omega) ht (by omega) (fun σ1 f1 t1 => hP ?_))
  refine qm_go 4 (fun P hP => m_a181_3 (v := v) (x := x) (by omega) hp ((f1.1 52 0 p (by unfold tB; omega)).trans hv) ((f1.1 51 0 p (by unfold tB; omega)).trans hk) t1 (by  simp only [List.length_append, List.length_cons, List.length_nil]; omega) (fun σ2 f2 t2 => hP ?_))
  refine qm_go 4 (fun P hP => Exists.intro (p) (And.intro (And.intro (rfl) (hp)) (hP ?_)))
  rw [(f1.tr f2).1 52 0 p (by unfold tB; omega), hv]
  refine qm_go 2 (fun P hP => h σ2 (f1.tr f2) (by rw [List.append_assoc] at t2; exact t2))
theorem m_a184_3 {d : Nat} (hd : 6 ≤ d) {σ : qm_Sg} {Q : qm_Po} {l : List Nat} {p : Nat} {v x : Int32} (hp : p < 6) (hv : σ.1 52 0 p = v) (hk : σ.1 51 0 p = nI 3) (ht : mTr σ l) (hl : l.length + 20 < 320) (h : ∀ σ', Fr tB σ σ' → mTr σ' (l ++ (yawF 3 p v x).2) → Q σ' (some (vI (yawF 3 p v x).1))) : qm_M d 184 [vR 50 0, vI (nI p), vI x] σ Q := by
  obtain ⟨d, rfl, hd⟩ := qm_dn hd
  show qm_Wp (qm_M d) qk_184 Q 0 [some (vR 50 0), some (vI (nI p)), some (vI x), none] [] σ
  refine qm_go 4 (fun P hP => Exists.intro (p) (And.intro (And.intro (rfl) (hp)) (hP ?_)))
  rw [hk]
  refine qm_go 1 (fun P hP => And.intro (fun c => absurd c (by decide)) (fun _ => And.intro (fun c => absurd c (by decide)) (fun _ => And.intro (fun c => absurd c (by decide)) (fun _ => hP ?_))))
  refine qm_go 4 (fun P hP => m_a182_3 (v := v) (x := x) (by omega) hp hv hk ht (by omega) (fun σ1 f1 t1 => hP ?_))
  refine qm_go 1 (fun P hP => h σ1 f1 (by exact t1))
theorem m_a185_3 {d : Nat} (hd : 7 ≤ d) {σ : qm_Sg} {Q : qm_Po} {l : List Nat} {p : Nat} {v x : Int32} (hp : p < 6) (hv : σ.1 52 0 p = v) (hk : σ.1 51 0 p = nI 3) (ht : mTr σ l) (hl : l.length + 20 < 290) (h : ∀ σ', Fr tB σ σ' → mTr σ' (l ++ (otF 3 p v x).2) → Q σ' (some (vI (otF 3 p v x).1))) : qm_M d 185 [vR 50 0, vI (nI p), vI x] σ Q := by
  obtain ⟨d, rfl, hd⟩ := qm_dn hd
  show qm_Wp (qm_M d) qk_185 Q 0 [some (vR 50 0), some (vI (nI p)), some (vI x)] [] σ
  refine qm_go 3 (fun P hP => m_body (by omega) ht (by omega) (fun σ1 f1 t1 => hP ?_))
  refine qm_go 4 (fun P hP => m_a184_3 (v := v) (x := x) (by omega) hp ((f1.1 52 0 p (by unfold tB; omega)).trans hv) ((f1.1 51 0 p (by unfold tB; omega)).trans hk) t1 (by  simp only [List.length_append, List.length_cons, List.length_nil]; omega) (fun σ2 f2 t2 => hP ?_))
  refine qm_go 3 (fun P hP => h σ2 (f1.tr f2) (by rw [List.append_assoc] at t2; exact t2))
theorem m_a186_3 {d : Nat} (hd : 8 ≤ d) {σ : qm_Sg} {Q : qm_Po} {l : List Nat} {p : Nat} {v x : Int32} (hp : p < 6) (hv : σ.1 52 0 p = v) (hk : σ.1 51 0 p = nI 3) (ht : mTr σ l) (hl : l.length + 20 < 260) (h : ∀ σ', Fr tB σ σ' → mTr σ' (l ++ (telF 3 p v x).2) → Q σ' (some (vI (telF 3 p v x).1))) : qm_M d 186 [vR 50 0, vI (nI p), vI x] σ Q := by
  obtain ⟨d, rfl, hd⟩ := qm_dn hd
  show qm_Wp (qm_M d) qk_186 Q 0 [some (vR 50 0), some (vI (nI p)), some (vI x), none] [] σ
  refine qm_go 4 (fun P hP => Exists.intro (p) (And.intro (And.intro (rfl) (hp)) (hP ?_)))
  rw [hk]
  refine qm_go 1 (fun P hP => And.intro (fun _ => hP ?_) (fun n => absurd (by decide) n))
  refine qm_go 3 (fun P hP => m_body (by omega) ht (by omega) (fun σ1 f1 t1 => hP ?_))
  refine qm_go 4 (fun P hP => m_a185_3 (v := v) (x := x) (by omega) hp ((f1.1 52 0 p (by unfold tB; omega)).trans hv) ((f1.1 51 0 p (by unfold tB; omega)).trans hk) t1 (by  simp only [List.length_append, List.length_cons, List.length_nil]; omega) (fun σ2 f2 t2 => hP ?_))
  refine qm_go 6 (fun P hP => m_a184_3 (v := v) (x := 1) (by omega) hp (((f1.tr f2).1 52 0 p (by unfold tB; omega)).trans hv) (((f1.tr f2).1 51 0 p (by unfold tB; omega)).trans hk) t2 (by have z1 : ((otF 3 p v x).2).length = 3 := rfl; simp only [List.length_append, List.length_cons, List.length_nil, z1]; omega) (fun σ3 f3 t3 => hP ?_))
  refine qm_go 2 (fun P hP => h σ3 ((f1.tr f2).tr f3) (by rw [List.append_assoc, List.append_assoc] at t3; exact t3))
theorem m_a180_4 {d : Nat} (hd : 2 ≤ d) {σ : qm_Sg} {Q : qm_Po} {l : List Nat} {p : Nat} {v x : Int32} (hp : p < 6) (hv : σ.1 52 0 p = v) (hk : σ.1 51 0 p = nI 4) (ht : mTr σ l) (hl : l.length + 20 < 440) (h : ∀ σ', Fr tB σ σ' → mTr σ' (l ++ [10]) → Q σ' (some (vI (x + nI p)))) : qm_M d 180 [vR 50 0, vI (nI p), vI x] σ Q := by
  obtain ⟨d, rfl, hd⟩ := qm_dn hd
  show qm_Wp (qm_M d) qk_180 Q 0 [some (vR 50 0), some (vI (nI p)), some (vI x)] [] σ
  refine qm_go 3 (fun P hP => m_body (by omega) ht (by omega) (fun σ1 f1 t1 => hP ?_))
  refine qm_go 4 (fun P hP => h σ1 f1 (by exact t1))
theorem m_a181_4 {d : Nat} (hd : 3 ≤ d) {σ : qm_Sg} {Q : qm_Po} {l : List Nat} {p : Nat} {v x : Int32} (hp : p < 6) (hv : σ.1 52 0 p = v) (hk : σ.1 51 0 p = nI 4) (ht : mTr σ l) (hl : l.length + 20 < 410) (h : ∀ σ', Fr tB σ σ' → mTr σ' (l ++ (rolF 4 p v x).2) → Q σ' (some (vI (rolF 4 p v x).1))) : qm_M d 181 [vR 50 0, vI (nI p), vI x] σ Q := by
  obtain ⟨d, rfl, hd⟩ := qm_dn hd
  show qm_Wp (qm_M d) qk_181 Q 0 [some (vR 50 0), some (vI (nI p)), some (vI x)] [] σ
  refine qm_go 4 (fun P hP => Exists.intro (p) (And.intro (And.intro (rfl) (hp)) (hP ?_)))
  rw [hk]
  refine qm_go 1 (fun P hP => And.intro (fun c => absurd c (by decide)) (fun _ => And.intro (fun c => absurd c (by decide)) (fun _ => And.intro (fun _ => hP ?_) (fun n => absurd (by decide) n))))
  refine qm_go 3 (fun P hP => m_body (by omega) ht (by omega) (fun σ1 f1 t1 => hP ?_))
  refine qm_go 4 (fun P hP => m_a180_4 (v := v) (x := x) (by omega) hp ((f1.1 52 0 p (by unfold tB; omega)).trans hv) ((f1.1 51 0 p (by unfold tB; omega)).trans hk) t1 (by  simp only [List.length_append, List.length_cons, List.length_nil]; omega) (fun σ2 f2 t2 => hP ?_))
  refine qm_go 2 (fun P hP => h σ2 (f1.tr f2) (by rw [List.append_assoc] at t2; exact t2))
theorem m_a182_4 {d : Nat} (hd : 4 ≤ d) {σ : qm_Sg} {Q : qm_Po} {l : List Nat} {p : Nat} {v x : Int32} (hp : p < 6) (hv : σ.1 52 0 p = v) (hk : σ.1 51 0 p = nI 4) (ht : mTr σ l) (hl : l.length + 20 < 380) (h : ∀ σ', Fr tB σ σ' → mTr σ' (l ++ (oyF 4 p v x).2) → Q σ' (some (vI (oyF 4 p v x).1))) : qm_M d 182 [vR 50 0, vI (nI p), vI x] σ Q := by
  obtain ⟨d, rfl, hd⟩ := qm_dn hd
  show qm_Wp (qm_M d) qk_182 Q 0 [some (vR 50 0), some (vI (nI p)), some (vI x)] [] σ
  refine qm_go 3 (fun P hP => m_body (by omega) ht (by omega) (fun σ1 f1 t1 => hP ?_))
  refine qm_go 4 (fun P hP => m_a181_4 (v := v) (x := x) (by omega) hp ((f1.1 52 0 p (by unfold tB; omega)).trans hv) ((f1.1 51 0 p (by unfold tB; omega)).trans hk) t1 (by  simp only [List.length_append, List.length_cons, List.length_nil]; omega) (fun σ2 f2 t2 => hP ?_))
  refine qm_go 4 (fun P hP => Exists.intro (p) (And.intro (And.intro (rfl) (hp)) (hP ?_)))
  rw [(f1.tr f2).1 52 0 p (by unfold tB; omega), hv]
  refine qm_go 2 (fun P hP => h σ2 (f1.tr f2) (by rw [List.append_assoc] at t2; exact t2))
theorem m_a183_4 {d : Nat} (hd : 5 ≤ d) {σ : qm_Sg} {Q : qm_Po} {l : List Nat} {p : Nat} {v x : Int32} (hp : p < 6) (hv : σ.1 52 0 p = v) (hk : σ.1 51 0 p = nI 4) (ht : mTr σ l) (hl : l.length + 20 < 350) (h : ∀ σ', Fr tB σ σ' → mTr σ' (l ++ (lyF 4 p v x).2) → Q σ' (some (vI (lyF 4 p v x).1))) : qm_M d 183 [vR 50 0, vI (nI p), vI x] σ Q := by
  obtain ⟨d, rfl, hd⟩ := qm_dn hd
  show qm_Wp (qm_M d) qk_183 Q 0 [some (vR 50 0), some (vI (nI p)), some (vI x)] [] σ
  refine qm_go 3 (fun P hP => m_body (by omega) ht (by omega) (fun σ1 f1 t1 => hP ?_))
  refine qm_go 4 (fun P hP => m_a182_4 (v := v) (x := x) (by omega) hp ((f1.1 52 0 p (by unfold tB; omega)).trans hv) ((f1.1 51 0 p (by unfold tB; omega)).trans hk) t1 (by  simp only [List.length_append, List.length_cons, List.length_nil]; omega) (fun σ2 f2 t2 => hP ?_))
  refine qm_go 3 (fun P hP => h σ2 (f1.tr f2) (by rw [List.append_assoc] at t2; exact t2))
theorem m_a184_4 {d : Nat} (hd : 6 ≤ d) {σ : qm_Sg} {Q : qm_Po} {l : List Nat} {p : Nat} {v x : Int32} (hp : p < 6) (hv : σ.1 52 0 p = v) (hk : σ.1 51 0 p = nI 4) (ht : mTr σ l) (hl : l.length + 20 < 320) (h : ∀ σ', Fr tB σ σ' → mTr σ' (l ++ (yawF 4 p v x).2) → Q σ' (some (vI (yawF 4 p v x).1))) : qm_M d 184 [vR 50 0, vI (nI p), vI x] σ Q := by
  obtain ⟨d, rfl, hd⟩ := qm_dn hd
  show qm_Wp (qm_M d) qk_184 Q 0 [some (vR 50 0), some (vI (nI p)), some (vI x), none] [] σ
  refine qm_go 4 (fun P hP => Exists.intro (p) (And.intro (And.intro (rfl) (hp)) (hP ?_)))
  rw [hk]
  refine qm_go 1 (fun P hP => And.intro (fun c => absurd c (by decide)) (fun _ => And.intro (fun _ => hP ?_) (fun n => absurd (by decide) n)))
  refine qm_go 3 (fun P hP => m_body (by omega) ht (by omega) (fun σ1 f1 t1 => hP ?_))
  refine qm_go 6 (fun P hP => m_a183_4 (v := v) (x := (x + 1)) (by omega) hp ((f1.1 52 0 p (by unfold tB; omega)).trans hv) ((f1.1 51 0 p (by unfold tB; omega)).trans hk) t1 (by  simp only [List.length_append, List.length_cons, List.length_nil]; omega) (fun σ2 f2 t2 => hP ?_))
  refine qm_go 1 (fun P hP => h σ2 (f1.tr f2) (by rw [List.append_assoc] at t2; exact t2))
theorem m_a185_4 {d : Nat} (hd : 7 ≤ d) {σ : qm_Sg} {Q : qm_Po} {l : List Nat} {p : Nat} {v x : Int32} (hp : p < 6) (hv : σ.1 52 0 p = v) (hk : σ.1 51 0 p = nI 4) (ht : mTr σ l) (hl : l.length + 20 < 290) (h : ∀ σ', Fr tB σ σ' → mTr σ' (l ++ (otF 4 p v x).2) → Q σ' (some (vI (otF 4 p v x).1))) : qm_M d 185 [vR 50 0, vI (nI p), vI x] σ Q := by
  obtain ⟨d, rfl, hd⟩ := qm_dn hd
  show qm_Wp (qm_M d) qk_185 Q 0 [some (vR 50 0), some (vI (nI p)), some (vI x)] [] σ
  refine qm_go 3 (fun P hP => m_body (by omega) ht (by omega) (fun σ1 f1 t1 => hP ?_))
  refine qm_go 4 (fun P hP => m_a184_4 (v := v) (x := x) (by omega) hp ((f1.1 52 0 p (by unfold tB; omega)).trans hv) ((f1.1 51 0 p (by unfold tB; omega)).trans hk) t1 (by  simp only [List.length_append, List.length_cons, List.length_nil]; omega) (fun σ2 f2 t2 => hP ?_))
  refine qm_go 3 (fun P hP => h σ2 (f1.tr f2) (by rw [List.append_assoc] at t2; exact t2))
theorem m_a186_4 {d : Nat} (hd : 8 ≤ d) {σ : qm_Sg} {Q : qm_Po} {l : List Nat} {p : Nat} {v x : Int32} (hp : p < 6) (hv : σ.1 52 0 p = v) (hk : σ.1 51 0 p = nI 4) (ht : mTr σ l) (hl : l.length + 20 < 260) (h : ∀ σ', Fr tB σ σ' → mTr σ' (l ++ (telF 4 p v x).2) → Q σ' (some (vI (telF 4 p v x).1))) : qm_M d 186 [vR 50 0, vI (nI p), vI x] σ Q := by
  obtain ⟨d, rfl, hd⟩ := qm_dn hd
  show qm_Wp (qm_M d) qk_186 Q 0 [some (vR 50 0), some (vI (nI p)), some (vI x), none] [] σ
  refine qm_go 4 (fun P hP => Exists.intro (p) (And.intro (And.intro (rfl) (hp)) (hP ?_)))
  rw [hk]
  refine qm_go 1 (fun P hP => And.intro (fun c => absurd c (by decide)) (fun _ => And.intro (fun _ => hP ?_) (fun n => absurd (by decide) n)))
  refine qm_go 4 (fun P hP => m_a185_4 (v := v) (x := x) (by omega) hp hv hk ht (by omega) (fun σ1 f1 t1 => hP ?_))
  refine qm_go 1 (fun P hP => h σ1 f1 (by exact t1))
theorem m_a180_5 {d : Nat} (hd : 2 ≤ d) {σ : qm_Sg} {Q : qm_Po} {l : List Nat} {p : Nat} {v x : Int32} (hp : p < 6) (hv : σ.1 52 0 p = v) (hk : σ.1 51 0 p = nI 5) (ht : mTr σ l) (hl : l.length + 20 < 440) (h : ∀ σ', Fr tB σ σ' → mTr σ' (l ++ [10]) → Q σ' (some (vI (x + nI p)))) : qm_M d 180 [vR 50 0, vI (nI p), vI x] σ Q := by
  obtain ⟨d, rfl, hd⟩ := qm_dn hd
  show qm_Wp (qm_M d) qk_180 Q 0 [some (vR 50 0), some (vI (nI p)), some (vI x)] [] σ
  refine qm_go 3 (fun P hP => m_body (by omega) ht (by omega) (fun σ1 f1 t1 => hP ?_))
  refine qm_go 4 (fun P hP => h σ1 f1 (by exact t1))
theorem m_a181_5 {d : Nat} (hd : 3 ≤ d) {σ : qm_Sg} {Q : qm_Po} {l : List Nat} {p : Nat} {v x : Int32} (hp : p < 6) (hv : σ.1 52 0 p = v) (hk : σ.1 51 0 p = nI 5) (ht : mTr σ l) (hl : l.length + 20 < 410) (h : ∀ σ', Fr tB σ σ' → mTr σ' (l ++ (rolF 5 p v x).2) → Q σ' (some (vI (rolF 5 p v x).1))) : qm_M d 181 [vR 50 0, vI (nI p), vI x] σ Q := by
  obtain ⟨d, rfl, hd⟩ := qm_dn hd
  show qm_Wp (qm_M d) qk_181 Q 0 [some (vR 50 0), some (vI (nI p)), some (vI x)] [] σ
  refine qm_go 4 (fun P hP => Exists.intro (p) (And.intro (And.intro (rfl) (hp)) (hP ?_)))
  rw [hk]
  refine qm_go 1 (fun P hP => And.intro (fun c => absurd c (by decide)) (fun _ => And.intro (fun c => absurd c (by decide)) (fun _ => And.intro (fun c => absurd c (by decide)) (fun _ => And.intro (fun _ => hP ?_) (fun n => absurd (by decide) n)))))
  refine qm_go 3 (fun P hP => m_body (by omega) ht (by omega) (fun σ1 f1 t1 => hP ?_))
  refine qm_go 6 (fun P hP => m_a180_5 (v := v) (x := (x * 3)) (by omega) hp ((f1.1 52 0 p (by unfold tB; omega)).trans hv) ((f1.1 51 0 p (by unfold tB; omega)).trans hk) t1 (by  simp only [List.length_append, List.length_cons, List.length_nil]; omega) (fun σ2 f2 t2 => hP ?_))
  refine qm_go 1 (fun P hP => h σ2 (f1.tr f2) (by rw [List.append_assoc] at t2; exact t2))
theorem m_a182_5 {d : Nat} (hd : 4 ≤ d) {σ : qm_Sg} {Q : qm_Po} {l : List Nat} {p : Nat} {v x : Int32} (hp : p < 6) (hv : σ.1 52 0 p = v) (hk : σ.1 51 0 p = nI 5) (ht : mTr σ l) (hl : l.length + 20 < 380) (h : ∀ σ', Fr tB σ σ' → mTr σ' (l ++ (oyF 5 p v x).2) → Q σ' (some (vI (oyF 5 p v x).1))) : qm_M d 182 [vR 50 0, vI (nI p), vI x] σ Q := by
  obtain ⟨d, rfl, hd⟩ := qm_dn hd
  show qm_Wp (qm_M d) qk_182 Q 0 [some (vR 50 0), some (vI (nI p)), some (vI x)] [] σ
  refine qm_go 3 (fun P hP => m_body (by omega) ht (by omega) (fun σ1 f1 t1 => hP ?_))
  refine qm_go 4 (fun P hP => m_a181_5 (v := v) (x := x) (by omega) hp ((f1.1 52 0 p (by unfold tB; omega)).trans hv) ((f1.1 51 0 p (by unfold tB; omega)).trans hk) t1 (by  simp only [List.length_append, List.length_cons, List.length_nil]; omega) (fun σ2 f2 t2 => hP ?_))
  refine qm_go 4 (fun P hP => Exists.intro (p) (And.intro (And.intro (rfl) (hp)) (hP ?_)))
  rw [(f1.tr f2).1 52 0 p (by unfold tB; omega), hv]
  refine qm_go 2 (fun P hP => h σ2 (f1.tr f2) (by rw [List.append_assoc] at t2; exact t2))
theorem m_a184_5 {d : Nat} (hd : 6 ≤ d) {σ : qm_Sg} {Q : qm_Po} {l : List Nat} {p : Nat} {v x : Int32} (hp : p < 6) (hv : σ.1 52 0 p = v) (hk : σ.1 51 0 p = nI 5) (ht : mTr σ l) (hl : l.length + 20 < 320) (h : ∀ σ', Fr tB σ σ' → mTr σ' (l ++ (yawF 5 p v x).2) → Q σ' (some (vI (yawF 5 p v x).1))) : qm_M d 184 [vR 50 0, vI (nI p), vI x] σ Q := by
  obtain ⟨d, rfl, hd⟩ := qm_dn hd
  show qm_Wp (qm_M d) qk_184 Q 0 [some (vR 50 0), some (vI (nI p)), some (vI x), none] [] σ
  refine qm_go 4 (fun P hP => Exists.intro (p) (And.intro (And.intro (rfl) (hp)) (hP ?_)))
  rw [hk]
  refine qm_go 1 (fun P hP => And.intro (fun c => absurd c (by decide)) (fun _ => And.intro (fun c => absurd c (by decide)) (fun _ => And.intro (fun c => absurd c (by decide)) (fun _ => hP ?_))))
  refine qm_go 4 (fun P hP => m_a182_5 (v := v) (x := x) (by omega) hp hv hk ht (by omega) (fun σ1 f1 t1 => hP ?_))
  refine qm_go 1 (fun P hP => h σ1 f1 (by exact t1))
theorem m_a185_5 {d : Nat} (hd : 7 ≤ d) {σ : qm_Sg} {Q : qm_Po} {l : List Nat} {p : Nat} {v x : Int32} (hp : p < 6) (hv : σ.1 52 0 p = v) (hk : σ.1 51 0 p = nI 5) (ht : mTr σ l) (hl : l.length + 20 < 290) (h : ∀ σ', Fr tB σ σ' → mTr σ' (l ++ (otF 5 p v x).2) → Q σ' (some (vI (otF 5 p v x).1))) : qm_M d 185 [vR 50 0, vI (nI p), vI x] σ Q := by
  obtain ⟨d, rfl, hd⟩ := qm_dn hd
  show qm_Wp (qm_M d) qk_185 Q 0 [some (vR 50 0), some (vI (nI p)), some (vI x)] [] σ
  refine qm_go 3 (fun P hP => m_body (by omega) ht (by omega) (fun σ1 f1 t1 => hP ?_))
  refine qm_go 4 (fun P hP => m_a184_5 (v := v) (x := x) (by omega) hp ((f1.1 52 0 p (by unfold tB; omega)).trans hv) ((f1.1 51 0 p (by unfold tB; omega)).trans hk) t1 (by  simp only [List.length_append, List.length_cons, List.length_nil]; omega) (fun σ2 f2 t2 => hP ?_))
  refine qm_go 3 (fun P hP => h σ2 (f1.tr f2) (by rw [List.append_assoc] at t2; exact t2))
theorem m_a186_5 {d : Nat} (hd : 8 ≤ d) {σ : qm_Sg} {Q : qm_Po} {l : List Nat} {p : Nat} {v x : Int32} (hp : p < 6) (hv : σ.1 52 0 p = v) (hk : σ.1 51 0 p = nI 5) (ht : mTr σ l) (hl : l.length + 20 < 260) (h : ∀ σ', Fr tB σ σ' → mTr σ' (l ++ (telF 5 p v x).2) → Q σ' (some (vI (telF 5 p v x).1))) : qm_M d 186 [vR 50 0, vI (nI p), vI x] σ Q := by
  obtain ⟨d, rfl, hd⟩ := qm_dn hd
  show qm_Wp (qm_M d) qk_186 Q 0 [some (vR 50 0), some (vI (nI p)), some (vI x), none] [] σ
  refine qm_go 4 (fun P hP => Exists.intro (p) (And.intro (And.intro (rfl) (hp)) (hP ?_)))
  rw [hk]
  refine qm_go 1 (fun P hP => And.intro (fun c => absurd c (by decide)) (fun _ => And.intro (fun c => absurd c (by decide)) (fun _ => And.intro (fun _ => hP ?_) (fun n => absurd (by decide) n))))
  refine qm_go 3 (fun P hP => m_body (by omega) ht (by omega) (fun σ1 f1 t1 => hP ?_))
  refine qm_go 6 (fun P hP => m_a185_5 (v := v) (x := (x - nI p)) (by omega) hp ((f1.1 52 0 p (by unfold tB; omega)).trans hv) ((f1.1 51 0 p (by unfold tB; omega)).trans hk) t1 (by  simp only [List.length_append, List.length_cons, List.length_nil]; omega) (fun σ2 f2 t2 => hP ?_))
  refine qm_go 1 (fun P hP => h σ2 (f1.tr f2) (by rw [List.append_assoc] at t2; exact t2))
theorem m_a180_6 {d : Nat} (hd : 2 ≤ d) {σ : qm_Sg} {Q : qm_Po} {l : List Nat} {p : Nat} {v x : Int32} (hp : p < 6) (hv : σ.1 52 0 p = v) (hk : σ.1 51 0 p = nI 6) (ht : mTr σ l) (hl : l.length + 20 < 440) (h : ∀ σ', Fr tB σ σ' → mTr σ' (l ++ [10]) → Q σ' (some (vI (x + nI p)))) : qm_M d 180 [vR 50 0, vI (nI p), vI x] σ Q := by
  obtain ⟨d, rfl, hd⟩ := qm_dn hd
  show qm_Wp (qm_M d) qk_180 Q 0 [some (vR 50 0), some (vI (nI p)), some (vI x)] [] σ
  refine qm_go 3 (fun P hP => m_body (by omega) ht (by omega) (fun σ1 f1 t1 => hP ?_))
  refine qm_go 4 (fun P hP => h σ1 f1 (by exact t1))
theorem m_a181_6 {d : Nat} (hd : 3 ≤ d) {σ : qm_Sg} {Q : qm_Po} {l : List Nat} {p : Nat} {v x : Int32} (hp : p < 6) (hv : σ.1 52 0 p = v) (hk : σ.1 51 0 p = nI 6) (ht : mTr σ l) (hl : l.length + 20 < 410) (h : ∀ σ', Fr tB σ σ' → mTr σ' (l ++ (rolF 6 p v x).2) → Q σ' (some (vI (rolF 6 p v x).1))) : qm_M d 181 [vR 50 0, vI (nI p), vI x] σ Q := by
  obtain ⟨d, rfl, hd⟩ := qm_dn hd
  show qm_Wp (qm_M d) qk_181 Q 0 [some (vR 50 0), some (vI (nI p)), some (vI x)] [] σ
  refine qm_go 4 (fun P hP => Exists.intro (p) (And.intro (And.intro (rfl) (hp)) (hP ?_)))
  rw [hk]
  refine qm_go 1 (fun P hP => And.intro (fun c => absurd c (by decide)) (fun _ => And.intro (fun c => absurd c (by decide)) (fun _ => And.intro (fun c => absurd c (by decide)) (fun _ => And.intro (fun c => absurd c (by decide)) (fun _ => And.intro (fun _ => hP ?_) (fun n => absurd (by decide) n))))))
  refine qm_go 3 (fun P hP => m_body (by omega) ht (by omega) (fun σ1 f1 t1 => hP ?_))
  refine qm_go 4 (fun P hP => m_a180_6 (v := v) (x := x) (by omega) hp ((f1.1 52 0 p (by unfold tB; omega)).trans hv) ((f1.1 51 0 p (by unfold tB; omega)).trans hk) t1 (by  simp only [List.length_append, List.length_cons, List.length_nil]; omega) (fun σ2 f2 t2 => hP ?_))
  refine qm_go 4 (fun P hP => Exists.intro (p) (And.intro (And.intro (rfl) (hp)) (hP ?_)))
  rw [(f1.tr f2).1 52 0 p (by unfold tB; omega), hv]
  refine qm_go 2 (fun P hP => h σ2 (f1.tr f2) (by rw [List.append_assoc] at t2; exact t2))
theorem m_a182_6 {d : Nat} (hd : 4 ≤ d) {σ : qm_Sg} {Q : qm_Po} {l : List Nat} {p : Nat} {v x : Int32} (hp : p < 6) (hv : σ.1 52 0 p = v) (hk : σ.1 51 0 p = nI 6) (ht : mTr σ l) (hl : l.length + 20 < 380) (h : ∀ σ', Fr tB σ σ' → mTr σ' (l ++ (oyF 6 p v x).2) → Q σ' (some (vI (oyF 6 p v x).1))) : qm_M d 182 [vR 50 0, vI (nI p), vI x] σ Q := by
  obtain ⟨d, rfl, hd⟩ := qm_dn hd
  show qm_Wp (qm_M d) qk_182 Q 0 [some (vR 50 0), some (vI (nI p)), some (vI x)] [] σ
  refine qm_go 3 (fun P hP => m_body (by omega) ht (by omega) (fun σ1 f1 t1 => hP ?_))
  refine qm_go 4 (fun P hP => m_a181_6 (v := v) (x := x) (by omega) hp ((f1.1 52 0 p (by unfold tB; omega)).trans hv) ((f1.1 51 0 p (by unfold tB; omega)).trans hk) t1 (by  simp only [List.length_append, List.length_cons, List.length_nil]; omega) (fun σ2 f2 t2 => hP ?_))
  refine qm_go 4 (fun P hP => Exists.intro (p) (And.intro (And.intro (rfl) (hp)) (hP ?_)))
  rw [(f1.tr f2).1 52 0 p (by unfold tB; omega), hv]
  refine qm_go 2 (fun P hP => h σ2 (f1.tr f2) (by rw [List.append_assoc] at t2; exact t2))
theorem m_a184_6 {d : Nat} (hd : 6 ≤ d) {σ : qm_Sg} {Q : qm_Po} {l : List Nat} {p : Nat} {v x : Int32} (hp : p < 6) (hv : σ.1 52 0 p = v) (hk : σ.1 51 0 p = nI 6) (ht : mTr σ l) (hl : l.length + 20 < 320) (h : ∀ σ', Fr tB σ σ' → mTr σ' (l ++ (yawF 6 p v x).2) → Q σ' (some (vI (yawF 6 p v x).1))) : qm_M d 184 [vR 50 0, vI (nI p), vI x] σ Q := by
  obtain ⟨d, rfl, hd⟩ := qm_dn hd
  show qm_Wp (qm_M d) qk_184 Q 0 [some (vR 50 0), some (vI (nI p)), some (vI x), none] [] σ
  refine qm_go 4 (fun P hP => Exists.intro (p) (And.intro (And.intro (rfl) (hp)) (hP ?_)))
  rw [hk]
  refine qm_go 1 (fun P hP => And.intro (fun c => absurd c (by decide)) (fun _ => And.intro (fun c => absurd c (by decide)) (fun _ => And.intro (fun _ => hP ?_) (fun n => absurd (by decide) n))))
  refine qm_go 3 (fun P hP => m_body (by omega) ht (by omega) (fun σ1 f1 t1 => hP ?_))
  refine qm_go 4 (fun P hP => m_a182_6 (v := v) (x := x) (by omega) hp ((f1.1 52 0 p (by unfold tB; omega)).trans hv) ((f1.1 51 0 p (by unfold tB; omega)).trans hk) t1 (by  simp only [List.length_append, List.length_cons, List.length_nil]; omega) (fun σ2 f2 t2 => hP ?_))
  refine qm_go 6 (fun P hP => m_a180_6 (v := v) (x := 2) (by omega) hp (((f1.tr f2).1 52 0 p (by unfold tB; omega)).trans hv) (((f1.tr f2).1 51 0 p (by unfold tB; omega)).trans hk) t2 (by have z1 : ((oyF 6 p v x).2).length = 3 := rfl; simp only [List.length_append, List.length_cons, List.length_nil, z1]; omega) (fun σ3 f3 t3 => hP ?_))
  refine qm_go 2 (fun P hP => h σ3 ((f1.tr f2).tr f3) (by rw [List.append_assoc, List.append_assoc] at t3; exact t3))
theorem m_a185_6 {d : Nat} (hd : 7 ≤ d) {σ : qm_Sg} {Q : qm_Po} {l : List Nat} {p : Nat} {v x : Int32} (hp : p < 6) (hv : σ.1 52 0 p = v) (hk : σ.1 51 0 p = nI 6) (ht : mTr σ l) (hl : l.length + 20 < 290) (h : ∀ σ', Fr tB σ σ' → mTr σ' (l ++ (otF 6 p v x).2) → Q σ' (some (vI (otF 6 p v x).1))) : qm_M d 185 [vR 50 0, vI (nI p), vI x] σ Q := by
  obtain ⟨d, rfl, hd⟩ := qm_dn hd
  show qm_Wp (qm_M d) qk_185 Q 0 [some (vR 50 0), some (vI (nI p)), some (vI x)] [] σ
  refine qm_go 3 (fun P hP => m_body (by omega) ht (by omega) (fun σ1 f1 t1 => hP ?_))
  refine qm_go 4 (fun P hP => m_a184_6 (v := v) (x := x) (by omega) hp ((f1.1 52 0 p (by unfold tB; omega)).trans hv) ((f1.1 51 0 p (by unfold tB; omega)).trans hk) t1 (by  simp only [List.length_append, List.length_cons, List.length_nil]; omega) (fun σ2 f2 t2 => hP ?_))
  refine qm_go 3 (fun P hP => h σ2 (f1.tr f2) (by rw [List.append_assoc] at t2; exact t2))
theorem m_a186_6 {d : Nat} (hd : 8 ≤ d) {σ : qm_Sg} {Q : qm_Po} {l : List Nat} {p : Nat} {v x : Int32} (hp : p < 6) (hv : σ.1 52 0 p = v) (hk : σ.1 51 0 p = nI 6) (ht : mTr σ l) (hl : l.length + 20 < 260) (h : ∀ σ', Fr tB σ σ' → mTr σ' (l ++ (telF 6 p v x).2) → Q σ' (some (vI (telF 6 p v x).1))) : qm_M d 186 [vR 50 0, vI (nI p), vI x] σ Q := by
  obtain ⟨d, rfl, hd⟩ := qm_dn hd
  show qm_Wp (qm_M d) qk_186 Q 0 [some (vR 50 0), some (vI (nI p)), some (vI x), none] [] σ
  refine qm_go 4 (fun P hP => Exists.intro (p) (And.intro (And.intro (rfl) (hp)) (hP ?_)))
  rw [hk]
  refine qm_go 1 (fun P hP => And.intro (fun c => absurd c (by decide)) (fun _ => And.intro (fun c => absurd c (by decide)) (fun _ => And.intro (fun c => absurd c (by decide)) (fun _ => And.intro (fun _ => hP ?_) (fun n => absurd (by decide) n)))))
  refine qm_go 3 (fun P hP => m_body (by omega) ht (by omega) (fun σ1 f1 t1 => hP ?_))
  refine qm_go 4 (fun P hP => m_a185_6 (v := v) (x := x) (by omega) hp ((f1.1 52 0 p (by unfold tB; omega)).trans hv) ((f1.1 51 0 p (by unfold tB; omega)).trans hk) t1 (by  simp only [List.length_append, List.length_cons, List.length_nil]; omega) (fun σ2 f2 t2 => hP ?_))
  refine qm_go 6 (fun P hP => m_a184_6 (v := v) (x := 1) (by omega) hp (((f1.tr f2).1 52 0 p (by unfold tB; omega)).trans hv) (((f1.tr f2).1 51 0 p (by unfold tB; omega)).trans hk) t2 (by have z1 : ((otF 6 p v x).2).length = 6 := rfl; simp only [List.length_append, List.length_cons, List.length_nil, z1]; omega) (fun σ3 f3 t3 => hP ?_))
  refine qm_go 2 (fun P hP => h σ3 ((f1.tr f2).tr f3) (by rw [List.append_assoc, List.append_assoc] at t3; exact t3))
