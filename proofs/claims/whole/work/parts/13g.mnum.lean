def mg (c : Nat) : Int32 := if c = 999 then -1 else nI c
def mT (L : Nat) (tx : Nat → Nat) (σ : qm_Sg) (a : Nat) : Prop := σ.1 50 0 11 = nI L ∧ σ.1 50 0 12 = nI a ∧ (∀ j, j < L → σ.1 56 0 j = nI (tx j)) ∧ a ≤ L ∧ L ≤ 100 ∧ ∀ j, j < L → tx j < 128
theorem pzS_ok {L : Nat} {tx : Nat → Nat} {a : Nat} (h : ∀ j, j < L → tx j < 128) : pzS tx L a < 128 ∨ pzS tx L a = 999 := by
  unfold pzS
  by_cases e : a < L
  · rw [if_pos e]; exact Or.inl (h a e)
  · rw [if_neg e]; exact Or.inr rfl
theorem mg_eq {c k : Nat} (hc : c < 128 ∨ c = 999) (hk : k < 128) : mg c = nI k ↔ c = k := by
  unfold mg
  by_cases e : c = 999
  · rw [if_pos e]
    exact ⟨fun z => absurd z.symm (dg_4 (by omega)), fun z => by omega⟩
  · rw [if_neg e]
    exact nI_eq (by omega) (by omega)
theorem mT.fr {L : Nat} {tx : Nat → Nat} {σ σ' : qm_Sg} {a : Nat} {T : Nat → Nat → Nat → Prop} (h : mT L tx σ a) (F : Fr T σ σ') (hT : ∀ t i j, (t = 56 ∨ (t = 50 ∧ (j = 11 ∨ j = 12))) → ¬ T t i j) : mT L tx σ' a := by
  obtain ⟨h1, h2, h3, h4⟩ := h
  exact ⟨by rw [F.1 _ _ _ (hT _ _ _ (by omega))]; exact h1, by rw [F.1 _ _ _ (hT _ _ _ (by omega))]; exact h2, fun j hj => by rw [F.1 _ _ _ (hT _ _ _ (by omega))]; exact h3 j hj, h4⟩
theorem mT.at1 {L : Nat} {tx : Nat → Nat} {σ : qm_Sg} {a : Nat} (h : mT L tx σ a) (ha : a < L) : mT L tx (wF σ 50 0 (upd (σ.1 50 0) 12 (σ.1 50 0 12 + 1))) (a + 1) := by
  obtain ⟨h1, h2, h3, h4, h5, h6⟩ := h
  exact ⟨by rw [wv_ne (by omega)]; exact h1, by rw [wv_same, h2, nI_1], fun j hj => by rw [wF_ne _ _ (by omega)]; exact h3 j hj, by omega, h5, h6⟩
def tAt (t _ j : Nat) : Prop := t = 50 ∧ (j = 12 ∨ j = 13)
theorem at_F {σ : qm_Sg} : Fr tAt σ (wF σ 50 0 (upd (σ.1 50 0) 12 (σ.1 50 0 12 + 1))) := Fr.w1 (by unfold tAt; omega)
theorem m_next {d : Nat} (hd : 1 ≤ d) {σ : qm_Sg} {Q : qm_Po} {L : Nat} {tx : Nat → Nat} {a : Nat} (hp : mT L tx σ a) (h : Q σ (some (vI (mg (pzS tx L a))))) : qm_M d 123 [vR 50 0] σ Q := by
  obtain ⟨d, rfl, hd⟩ := qm_dn hd
  show qm_Wp (qm_M d) qk_123 Q 0 [some (vR 50 0)] [] σ
  obtain ⟨h1, h2, h3, h4, h5, h6⟩ := hp
  unfold pzS mg at h
  by_cases ha : a < L
  · rw [if_pos ha, if_neg (fun z => absurd (h6 a ha) (by omega))] at h
    refine qm_go 5 (fun P hP => And.intro (fun c => absurd c (by rw [h1, h2]; exact nI_ge ha (by omega))) (fun _ => hP ?_))
    refine qm_go 5 (fun P hP => Exists.intro (a) (And.intro (And.intro (h2) (Nat.lt_of_lt_of_le ha h5)) (hP ?_)))
    rw [h3 a ha]
    exact qm_go 2 (fun P hP => h)
  · rw [if_neg ha, if_pos rfl] at h
    refine qm_go 5 (fun P hP => And.intro (fun _ => hP ?_) (fun c => absurd (by rw [h1, h2]; exact nI_le (by omega) (by omega)) c))
    exact qm_go 2 (fun P hP => h)
theorem mT.ok {L : Nat} {tx : Nat → Nat} {σ : qm_Sg} {a : Nat} (h : mT L tx σ a) (b : Nat) : pzS tx L b < 128 ∨ pzS tx L b = 999 := pzS_ok h.2.2.2.2.2
theorem m_tk {d : Nat} (hd : 2 ≤ d) {σ : qm_Sg} {Q : qm_Po} {L : Nat} {tx : Nat → Nat} {a : Nat} (hp : mT L tx σ a) {c : Nat} (hc : c < 128) (h0 : ¬ pzS tx L a = c → Q σ (some (vI 0))) (h1 : pzS tx L a = c → ∀ σ', Fr tAt σ σ' → (∀ j, j ≠ 12 → σ'.1 50 0 j = σ.1 50 0 j) → mT L tx σ' (a + 1) → Q σ' (some (vI 1))) : qm_M d 124 [vR 50 0, vI (nI c)] σ Q := by
  obtain ⟨d, rfl, hd⟩ := qm_dn hd
  show qm_Wp (qm_M d) qk_124 Q 0 [some (vR 50 0), some (vI (nI c))] [] σ
  refine qm_go 2 (fun P hP => m_next (by omega) hp (hP ?_))
  by_cases e : pzS tx L a = c
  · refine qm_go 2 (fun P hP => And.intro (fun _ => hP ?_) (fun z => absurd ((mg_eq (hp.ok a) hc).mpr e) z))
    refine qm_go 6 (fun P hP => hP ?_)
    generalize hσ : wF _ 50 0 (upd _ 12 _) = σ2
    have F : Fr tAt σ σ2 := by rw [← hσ]; exact at_F
    exact qm_go 2 (fun P hP => And.intro rfl (h1 e σ2 F (fun j hj => by rw [← hσ, wv_ne hj]) (by rw [← hσ]; exact hp.at1 (pzS_lt e (by omega)))))
  · refine qm_go 2 (fun P hP => And.intro (fun z => absurd ((mg_eq (hp.ok a) hc).mp z) e) (fun _ => hP ?_))
    exact qm_go 2 (fun P hP => And.intro rfl (h0 e))
theorem mg_dig {c : Nat} (hc : c < 128 ∨ c = 999) : (¬ mg c < 48 ∧ ¬ 57 < mg c) ↔ (48 ≤ c ∧ c ≤ 57) := by
  unfold mg
  by_cases e : c = 999
  · rw [if_pos e]
    exact ⟨fun z => absurd (by decide) z.1, fun z => by omega⟩
  · rw [if_neg e]
    exact ⟨fun z => ⟨Nat.le_of_not_lt (fun q => z.1 (nI_lt (b := 48) q (by decide))), Nat.le_of_not_lt (fun q => z.2 (nI_lt (a := 57) q (by omega)))⟩, fun z => ⟨nI_nlt (b := 48) z.1 (by omega), nI_nlt (a := 57) z.2 (by decide)⟩⟩
theorem mg_cmp {c : Nat} (hc : c < 128 ∨ c = 999) : (¬ mg c < 60 ∧ ¬ 62 < mg c) ↔ (60 ≤ c ∧ c ≤ 62) := by
  unfold mg
  by_cases e : c = 999
  · rw [if_pos e]
    exact ⟨fun z => absurd (by decide) z.1, fun z => by omega⟩
  · rw [if_neg e]
    exact ⟨fun z => ⟨Nat.le_of_not_lt (fun q => z.1 (nI_lt (b := 60) q (by decide))), Nat.le_of_not_lt (fun q => z.2 (nI_lt (a := 62) q (by omega)))⟩, fun z => ⟨nI_nlt (b := 60) z.1 (by omega), nI_nlt (a := 62) z.2 (by decide)⟩⟩
theorem mg_in {c : Nat} (h : c < 999) : mg c = nI c := if_neg (by omega)
theorem m_dig {d : Nat} (hd : 2 ≤ d) {σ : qm_Sg} {Q : qm_Po} {L : Nat} {tx : Nat → Nat} {a : Nat} (hp : mT L tx σ a) (h1 : (48 ≤ pzS tx L a ∧ pzS tx L a ≤ 57) → Q σ (some (vI 1))) (h0 : ¬ (48 ≤ pzS tx L a ∧ pzS tx L a ≤ 57) → Q σ (some (vI 0))) : qm_M d 126 [vR 50 0] σ Q := by
  obtain ⟨d, rfl, hd⟩ := qm_dn hd
  show qm_Wp (qm_M d) qk_126 Q 0 [some (vR 50 0)] [] σ
  refine qm_go 3 (fun P hP => m_next (by omega) hp (hP ?_))
  refine qm_go 3 (fun P hP => m_in (by omega) (fun c1 c2 => hP ?_) (fun c => hP ?_))
  · exact qm_go 1 (fun P hP => And.intro rfl (h1 ((mg_dig (hp.ok a)).mp ⟨c1, c2⟩)))
  · exact qm_go 1 (fun P hP => And.intro rfl (h0 (fun z => c ((mg_dig (hp.ok a)).mpr z))))
theorem m_num_s {d : Nat} (hd : 2 ≤ d) {σ : qm_Sg} {Q : qm_Po} {L : Nat} {tx : Nat → Nat} {a n : Nat} {k : Int32} (hp : mT L tx σ a) (hk : ¬ 2 ≤ k) (hn : σ.1 50 0 13 = nI n) (h1 : (48 ≤ pzS tx L a ∧ pzS tx L a ≤ 57) → ∀ σ', Fr tAt σ σ' → mT L tx σ' (a + 1) → σ'.1 50 0 13 = nI (10 * n + (pzS tx L a - 48)) → qm_Wp (qm_M d) qk_127 Q 10 [some (vR 50 0), some (vI (k + 1))] [] σ') (h0 : ¬ (48 ≤ pzS tx L a ∧ pzS tx L a ≤ 57) → Q σ (some (vI 1))) : qm_Wp (qm_M d) qk_127 Q 10 [some (vR 50 0), some (vI k)] [] σ := by
  refine qm_go 3 (fun P hP => And.intro (fun c => absurd c hk) (fun _ => hP ?_))
  refine qm_go 2 (fun P hP => m_dig (by omega) hp (fun e => hP ?_) (fun e => hP ?_))
  · refine qm_go 1 (fun P hP => And.intro (fun c => absurd c (by decide)) (fun _ => hP ?_))
    have ha : a < L := pzS_lt (tx := tx) rfl (by omega)
    refine qm_go 7 (fun P hP => m_next (by omega) hp (hP ?_))
    rw [mg_in (by omega)]
    refine qm_go 4 (fun P hP => hP ?_)
    rw [hn, dg_3 e.1]
    generalize hσ : wF _ 50 0 (upd _ 13 _) = σ2
    have F2 : Fr (fun t _ j => t = 50 ∧ j = 13) σ σ2 := by rw [← hσ]; exact Fr.w1 ⟨rfl, rfl⟩
    have hp2 : mT L tx σ2 a := hp.fr F2 (fun t i j q => by omega)
    have e2 : σ2.1 50 0 13 = nI (10 * n + (pzS tx L a - 48)) := by rw [← hσ]; exact wv_same
    refine qm_go 6 (fun P hP => hP ?_)
    generalize hσ3 : wF _ 50 0 (upd _ 12 _) = σ3
    have F3 : Fr tAt σ2 σ3 := by rw [← hσ3]; exact at_F
    have hp3 : mT L tx σ3 (a + 1) := by rw [← hσ3]; exact hp2.at1 ha
    have e3 : σ3.1 50 0 13 = nI (10 * n + (pzS tx L a - 48)) := by rw [← hσ3, wv_ne (by omega)]; exact e2
    refine qm_go 2 (fun P hP => hP ?_)
    exact h1 e σ3 ((F2.mono (fun t i j q => by unfold tAt; omega)).tr F3) hp3 e3
  · refine qm_go 1 (fun P hP => And.intro (fun _ => hP ?_) (fun c => absurd rfl c))
    exact qm_go 2 (fun P hP => And.intro rfl (h0 e))
theorem m_number {d : Nat} (hd : 3 ≤ d) {σ : qm_Sg} {Q : qm_Po} {L : Nat} {tx : Nat → Nat} {a : Nat} (hp : mT L tx σ a) (h0 : pzN (pzS tx L) a = none → Q σ (some (vI 0))) (h1 : ∀ σ' n b, pzN (pzS tx L) a = some (n, b) → Fr tAt σ σ' → mT L tx σ' b → σ'.1 50 0 13 = nI n → Q σ' (some (vI 1))) : qm_M d 127 [vR 50 0] σ Q := by
  obtain ⟨d, rfl, hd⟩ := qm_dn hd
  show qm_Wp (qm_M d) qk_127 Q 0 [some (vR 50 0), none] [] σ
  unfold pzN at h0 h1
  refine qm_go 2 (fun P hP => m_dig (by omega) hp (fun e => hP ?_) (fun e => hP ?_))
  · refine qm_go 1 (fun P hP => And.intro (fun _ => hP ?_) (fun c => absurd c (by decide)))
    rw [if_pos e] at h1
    refine qm_go 3 (fun P hP => hP ?_)
    generalize hσ : wF _ 50 0 (upd _ 13 _) = σ2
    have F2 : Fr (fun t _ j => t = 50 ∧ j = 13) σ σ2 := by rw [← hσ]; exact Fr.w1 ⟨rfl, rfl⟩
    have F2' : Fr tAt σ σ2 := F2.mono (fun t i j q => by unfold tAt; omega)
    have hp2 : mT L tx σ2 a := hp.fr F2 (fun t i j q => by omega)
    have e2 : σ2.1 50 0 13 = nI 0 := by rw [← hσ]; exact wv_same
    refine qm_go 2 (fun P hP => hP ?_)
    refine m_num_s (by omega) hp2 (by decide) e2 (fun _ σ3 F3 hp3 e3 => ?_) (fun z => absurd e z)
    refine m_num_s (by omega) hp3 (by decide) e3 (fun e4 σ4 F4 hp4 e5 => ?_) (fun z => ?_)
    · rw [if_pos e4] at h1
      refine qm_go 3 (fun P hP => And.intro (fun _ => hP ?_) (fun c => absurd (by decide) c))
      refine qm_go 2 (fun P hP => And.intro rfl (h1 σ4 _ _ rfl ((F2'.tr F3).tr F4) hp4 ?_))
      rw [e5]
      congr 1
      omega
    · rw [if_neg z] at h1
      refine h1 σ3 _ _ rfl (F2'.tr F3) hp3 ?_
      rw [e3]
      congr 1
      omega
  · refine qm_go 1 (fun P hP => And.intro (fun c => absurd rfl c) (fun _ => hP ?_))
    exact qm_go 2 (fun P hP => And.intro rfl (h0 (if_neg e)))
theorem m_emits {d : Nat} (hd : 1 ≤ d) {σ : qm_Sg} {Q : qm_Po} {k : Nat} {x : Int32} (hk : σ.1 50 0 22 = nI k) (h6 : k < 600) (h : ∀ σ', Fr (fun t i j => (t = 50 ∧ j = 22) ∨ (t = 62 ∧ j = k)) σ σ' → σ'.1 62 0 k = x → σ'.1 50 0 22 = nI (k + 1) → Q σ' none) : qm_M d 128 [vR 50 0, vI x] σ Q := by
  obtain ⟨d, rfl, hd⟩ := qm_dn hd
  show qm_Wp (qm_M d) qk_128 Q 0 [some (vR 50 0), some (vI x)] [] σ
  refine qm_go 6 (fun P hP => Exists.intro (k) (And.intro (And.intro (hk) (h6)) (hP ?_)))
  refine qm_go 6 (fun P hP => hP ?_)
  generalize hσ : wF _ 50 0 (upd _ 22 _) = σ2
  have F : Fr (fun t i j => (t = 50 ∧ j = 22) ∨ (t = 62 ∧ j = k)) σ σ2 := by
    rw [← hσ]
    exact Fr.p1 (Fr.w1 (by omega)) (by omega)
  exact qm_go 1 (fun P hP => h σ2 F (by rw [← hσ, wF_ne _ _ (by omega), wv_same]) (by rw [← hσ, wv_same, wF_ne _ _ (by omega), hk, nI_1]))
theorem m_place {d : Nat} (hd : 1 ≤ d) {σ : qm_Sg} {Q : qm_Po} {c : Nat} (hc : c < 128 ∨ c = 999) (h : Q σ (some (vI (pzI (pzX c [112, 107, 118, 111, 108, 109] 0))))) : qm_M d 131 [vR 50 0, vI (mg c)] σ Q := by
  obtain ⟨d, rfl, hd⟩ := qm_dn hd
  show qm_Wp (qm_M d) qk_131 Q 0 [some (vR 50 0), some (vI (mg c))] [] σ
  refine qm_go 2 (fun P hP => And.intro (fun c0 => hP ?_) (fun n0 => And.intro (fun c1 => hP ?_) (fun n1 => And.intro (fun c2 => hP ?_) (fun n2 => And.intro (fun c3 => hP ?_) (fun n3 => And.intro (fun c4 => hP ?_) (fun n4 => And.intro (fun c5 => hP ?_) (fun n5 => And.intro (fun c6 => hP ?_) (fun n6 => And.intro (fun c7 => hP ?_) (fun n7 => And.intro (fun c8 => hP ?_) (fun n8 => And.intro (fun c9 => hP ?_) (fun n9 => And.intro (fun c10 => hP ?_) (fun n10 => And.intro (fun c11 => hP ?_) (fun n11 => hP ?_)))))))))))))
  · have e : c = 107 := (mg_eq hc (by omega)).mp c0
    subst e
    exact qm_go 2 (fun P hP => h)
  · have e : c = 108 := (mg_eq hc (by omega)).mp c1
    subst e
    exact qm_go 2 (fun P hP => h)
  · have e : c = 109 := (mg_eq hc (by omega)).mp c2
    subst e
    exact qm_go 2 (fun P hP => h)
  · have e : c = 110 := (mg_eq hc (by omega)).mp c3
    subst e
    exact qm_go 2 (fun P hP => h)
  · have e : c = 111 := (mg_eq hc (by omega)).mp c4
    subst e
    exact qm_go 2 (fun P hP => h)
  · have e : c = 112 := (mg_eq hc (by omega)).mp c5
    subst e
    exact qm_go 2 (fun P hP => h)
  · have e : c = 113 := (mg_eq hc (by omega)).mp c6
    subst e
    exact qm_go 2 (fun P hP => h)
  · have e : c = 114 := (mg_eq hc (by omega)).mp c7
    subst e
    exact qm_go 2 (fun P hP => h)
  · have e : c = 115 := (mg_eq hc (by omega)).mp c8
    subst e
    exact qm_go 2 (fun P hP => h)
  · have e : c = 116 := (mg_eq hc (by omega)).mp c9
    subst e
    exact qm_go 2 (fun P hP => h)
  · have e : c = 117 := (mg_eq hc (by omega)).mp c10
    subst e
    exact qm_go 2 (fun P hP => h)
  · have e : c = 118 := (mg_eq hc (by omega)).mp c11
    subst e
    exact qm_go 2 (fun P hP => h)
  · rw [pzX_no (c := c) [112, 107, 118, 111, 108, 109] 0 (fun x hx z => by
      subst z
      simp only [List.mem_cons, List.not_mem_nil, or_false] at hx
      rcases hx with e | e | e | e | e | e <;> subst e
      · exact n5 rfl
      · exact n0 rfl
      · exact n11 rfl
      · exact n4 rfl
      · exact n1 rfl
      · exact n2 rfl)] at h
    exact qm_go 2 (fun P hP => h)
