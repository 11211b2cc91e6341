def mLt (σ : qm_Sg) : Prop := ∀ j c : Nat, [108, 97, 116, 101, 115, 111, 111, 110, 98, 101, 97, 114][j]? = some c → σ.1 64 0 j = nI c
theorem mLt.fr {σ σ' : qm_Sg} {T : Nat → Nat → Nat → Prop} (h : mLt σ) (F : Fr T σ σ') (hT : ∀ j, ¬ T 64 0 j) : mLt σ' := fun j c q => by rw [F.1 _ _ _ (hT j)]; exact h j c q
theorem m_word_l {d : Nat} (hd : 2 ≤ d) {Q : qm_Po} {L : Nat} {tx : Nat → Nat} {fr : Nat} {σ0 : qm_Sg} (hfr : fr ≤ 8) : ∀ (l : List Nat) (k a : Nat) (σ : qm_Sg), l.length + k = 4 → (∀ i c, l[i]? = some c → σ0.1 64 0 (fr + k + i) = nI c ∧ c < 128) → mT L tx σ a → Fr tAt σ0 σ → (∀ σ' b r, pzM (pzS tx L) a (l ++ [32]) = (b, r) → Fr tAt σ0 σ' → mT L tx σ' b → Q σ' (some (vI (nI r.toNat)))) → qm_Wp (qm_M d) qk_125 Q 2 [some (vR 50 0), some (vI (nI fr)), some (vI (nI 4)), some (vI (nI k))] [] σ
  | [], k, a, σ, hk, hl, ht, F, h => by
    have : k = 4 := by simpa using hk
    subst this
    refine qm_go 3 (fun P hP => And.intro (fun _ => hP ?_) (fun c => absurd (by decide) c))
    refine qm_go 3 (fun P hP => m_tk (c := 32) (by omega) ht (by omega) (fun e => hP ?_) (fun e σ2 F2 _ ht2 => hP ?_))
    · exact qm_go 1 (fun P hP => And.intro rfl (h σ a false (by show (if pzS tx L a = 32 then _ else _) = _; rw [if_neg e]) F ht))
    · exact qm_go 1 (fun P hP => And.intro rfl (h σ2 (a + 1) true (by show (if pzS tx L a = 32 then _ else _) = _; rw [if_pos e]; rfl) (F.tr F2) ht2))
  | c :: l, k, a, σ, hk, hl, ht, F, h => by
    have hk4 : k < 4 := by simp only [List.length_cons] at hk; omega
    obtain ⟨v1, v2⟩ := hl 0 c rfl
    refine qm_go 3 (fun P hP => And.intro (fun c => absurd c (nI_ge hk4 (by decide))) (fun _ => hP ?_))
    refine qm_go 7 (fun P hP => Exists.intro (fr + k) (And.intro (And.intro (nI_add fr k) (show fr + k < 12 by omega)) (hP ?_)))
    rw [F.1 64 0 (fr + k) (by unfold tAt; omega), show σ0.1 64 0 (fr + k) = nI c from v1]
    refine qm_go 1 (fun P hP => m_tk (c := c) (by omega) ht v2 (fun e => hP ?_) (fun e σ2 F2 _ ht2 => hP ?_))
    · refine qm_go 1 (fun P hP => And.intro (fun z => absurd rfl z) (fun _ => hP ?_))
      exact qm_go 2 (fun P hP => And.intro rfl (h σ a false (by show (if pzS tx L a = c then _ else _) = _; rw [if_neg e]) F ht))
    · refine qm_go 1 (fun P hP => And.intro (fun _ => hP ?_) (fun z => absurd z (by decide)))
      refine qm_go 2 (fun P hP => hP ?_)
      rw [nI_1]
      exact m_word_l hd hfr l (k + 1) (a + 1) σ2 (by simp only [List.length_cons] at hk; omega) (fun i x hx => by have := hl (i + 1) x hx; rw [show fr + (k + 1) + i = fr + k + (i + 1) by omega]; exact this) ht2 (F.tr F2) (fun σ3 b r z => h σ3 b r (by show (if pzS tx L a = c then _ else _) = _; rw [if_pos e]; exact z))
theorem m_word {d : Nat} (hd : 3 ≤ d) {σ : qm_Sg} {Q : qm_Po} {L : Nat} {tx : Nat → Nat} {a fr : Nat} {l : List Nat} (ht : mT L tx σ a) (hfr : fr ≤ 8) (hl : l.length = 4) (hv : ∀ i c, l[i]? = some c → σ.1 64 0 (fr + i) = nI c ∧ c < 128) (h : ∀ σ' b r, pzM (pzS tx L) a (l ++ [32]) = (b, r) → Fr tAt σ σ' → mT L tx σ' b → Q σ' (some (vI (nI r.toNat)))) : qm_M d 125 [vR 50 0, vI (nI fr), vI (nI 4)] σ Q := by
  obtain ⟨d, rfl, hd⟩ := qm_dn hd
  show qm_Wp (qm_M d) qk_125 Q 0 [some (vR 50 0), some (vI (nI fr)), some (vI (nI 4)), none] [] σ
  refine qm_go 2 (fun P hP => hP ?_)
  exact m_word_l (by omega) hfr l 0 a σ (by omega) hv ht Fr.rf h
def tCl (c b t _ j : Nat) : Prop := (t = 50 ∧ (j = 12 ∨ j = 13 ∨ j = 22 ∨ j = 23 ∨ j = 24)) ∨ t = 63 ∨ (t = 62 ∧ b ≤ j) ∨ (58 ≤ t ∧ t ≤ 61 ∧ j = c)
theorem Fr.cl {c b : Nat} {σ σ' : qm_Sg} (h : Fr tAt σ σ') : Fr (tCl c b) σ σ' := h.mono (fun t i j q => by unfold tAt at q; unfold tCl; omega)
theorem Fr.ce {c b : Nat} {σ σ' : qm_Sg} (h : Fr (tE0 c b) σ σ') : Fr (tCl c b) σ σ' := h.mono (fun t i j q => by unfold tE0 at q; unfold tCl; omega)
def tHd (c t _ j : Nat) : Prop := (t = 50 ∧ (j = 12 ∨ j = 13)) ∨ (t = 58 ∧ j = c)
theorem pzM_le {g : Nat → Nat} : ∀ (l : List Nat) (a b : Nat) (z : Bool), pzM g a l = (b, z) → a ≤ b
  | [], a, b, z, h => by cases h; exact Nat.le_refl _
  | c :: l, a, b, z, h => by
    unfold pzM at h
    split at h
    · exact Nat.le_of_succ_le (pzM_le l (a + 1) b z h)
    · cases h; exact Nat.le_refl _
theorem hd_1 {g : Nat → Nat} {a b wd : Nat} (hx : pzX (g a) [108, 115, 98] 0 = some wd) (hm : pzM g a (hdS wd) = (b, false)) : ∀ r, pzC g a r → r = (b, none) := by
  intro r h
  unfold pzC at h
  rw [hx] at h
  have h : pzC1 g wd a r := h
  unfold pzC1 at h
  rw [hm] at h
  exact h
theorem hd_2 {g : Nat → Nat} {a b wd : Nat} (hx : pzX (g a) [108, 115, 98] 0 = some wd) (hm : pzM g a (hdS wd) = (b, true)) : ∀ r, pzC g a r → pzC2 g wd b r := by
  intro r h
  unfold pzC at h
  rw [hx] at h
  have h : pzC1 g wd a r := h
  unfold pzC1 at h
  rw [hm] at h
  exact h
set_option maxHeartbeats 1000000 in
theorem m_head {d : Nat} (hd : 4 ≤ d) {σ : qm_Sg} {Q : qm_Po} {L : Nat} {tx : Nat → Nat} {a c9 : Nat} (ht : mT L tx σ a) (hlt : mLt σ) (hc9 : c9 < 60) (h0 : ∀ σ' b, Fr (tHd c9) σ σ' → mT L tx σ' b → (∀ r, pzC (pzS tx L) a r → r = (b, none)) → Q σ' (some (vI 0))) (h1 : ∀ σ' b wd, wd < 3 → a ≤ b → Fr (tHd c9) σ σ' → mT L tx σ' b → σ'.1 58 0 c9 = nI wd → (∀ r, pzC (pzS tx L) a r → pzC2 (pzS tx L) wd b r) → Q σ' (some (vI 1))) : qm_M d 134 [vR 50 0, vI (nI c9)] σ Q := by
  obtain ⟨d, rfl, hd⟩ := qm_dn hd
  show qm_Wp (qm_M d) qk_134 Q 0 [some (vR 50 0), some (vI (nI c9))] [] σ
  refine qm_go 2 (fun P hP => m_next (by omega) ht (hP ?_))
  have hok := ht.ok a
  refine qm_go 1 (fun P hP => And.intro (fun c1 => hP ?_) (fun n1 => And.intro (fun c2 => hP ?_) (fun n2 => hP ?_)))
  · have e := (mg_eq (k := 108) hok (by omega)).mp c1
    have hx : pzX (pzS tx L a) [108, 115, 98] 0 = some 0 := by rw [e]; rfl
    refine qm_go 5 (fun P hP => Exists.intro (c9) (And.intro (And.intro (rfl) (hc9)) (hP ?_)))
    generalize hσ : wF _ 58 0 (upd _ c9 _) = σ1
    have F1 : Fr (fun t _ j => t = 58 ∧ j = c9) σ σ1 := by rw [← hσ]; exact Fr.w1 ⟨rfl, rfl⟩
    have ht1 : mT L tx σ1 a := ht.fr F1 (fun t i j q => by omega)
    have e58 : σ1.1 58 0 c9 = nI 0 := by rw [← hσ]; exact wv_same
    refine qm_go 4 (fun P hP => m_word (fr := 0) (l := [108, 97, 116, 101]) (by omega) ht1 (by omega) rfl (fun i c q => ?_) (fun σ2 b r hm F2 ht2 => hP ?_))
    · rw [F1.1 _ _ _ (by omega)]
      match i, q with
      | 0, q => cases q; exact ⟨hlt 0 _ rfl, by omega⟩
      | 1, q => cases q; exact ⟨hlt 1 _ rfl, by omega⟩
      | 2, q => cases q; exact ⟨hlt 2 _ rfl, by omega⟩
      | 3, q => cases q; exact ⟨hlt 3 _ rfl, by omega⟩
      | j + 4, q => cases q
    · have hm : pzM (pzS tx L) a (hdS 0) = (b, r) := hm
      have FF : Fr (tHd c9) σ σ2 := (F1.mono (fun t i j q => by unfold tHd; omega)).tr (F2.mono (fun t i j q => by unfold tAt at q; unfold tHd; omega))
      cases r with
      | false => exact qm_go 1 (fun P hP => And.intro rfl (h0 σ2 b FF ht2 (hd_1 hx hm)))
      | true => exact qm_go 1 (fun P hP => And.intro rfl (h1 σ2 b 0 (by omega) (pzM_le _ _ _ _ hm) FF ht2 (by rw [F2.1 _ _ _ (by unfold tAt; omega)]; exact e58) (hd_2 hx hm)))
  · have e := (mg_eq (k := 115) hok (by omega)).mp c2
    have hx : pzX (pzS tx L a) [108, 115, 98] 0 = some 1 := by rw [e]; rfl
    refine qm_go 5 (fun P hP => Exists.intro (c9) (And.intro (And.intro (rfl) (hc9)) (hP ?_)))
    generalize hσ : wF _ 58 0 (upd _ c9 _) = σ1
    have F1 : Fr (fun t _ j => t = 58 ∧ j = c9) σ σ1 := by rw [← hσ]; exact Fr.w1 ⟨rfl, rfl⟩
    have ht1 : mT L tx σ1 a := ht.fr F1 (fun t i j q => by omega)
    have e58 : σ1.1 58 0 c9 = nI 1 := by rw [← hσ]; exact wv_same
    refine qm_go 4 (fun P hP => m_word (fr := 4) (l := [115, 111, 111, 110]) (by omega) ht1 (by omega) rfl (fun i c q => ?_) (fun σ2 b r hm F2 ht2 => hP ?_))
    · rw [F1.1 _ _ _ (by omega)]
      match i, q with
      | 0, q => cases q; exact ⟨hlt 4 _ rfl, by omega⟩
      | 1, q => cases q; exact ⟨hlt 5 _ rfl, by omega⟩
      | 2, q => cases q; exact ⟨hlt 6 _ rfl, by omega⟩
      | 3, q => cases q; exact ⟨hlt 7 _ rfl, by omega⟩
      | j + 4, q => cases q
    · have hm : pzM (pzS tx L) a (hdS 1) = (b, r) := hm
      have FF : Fr (tHd c9) σ σ2 := (F1.mono (fun t i j q => by unfold tHd; omega)).tr (F2.mono (fun t i j q => by unfold tAt at q; unfold tHd; omega))
      cases r with
      | false => exact qm_go 1 (fun P hP => And.intro rfl (h0 σ2 b FF ht2 (hd_1 hx hm)))
      | true => exact qm_go 1 (fun P hP => And.intro rfl (h1 σ2 b 1 (by omega) (pzM_le _ _ _ _ hm) FF ht2 (by rw [F2.1 _ _ _ (by unfold tAt; omega)]; exact e58) (hd_2 hx hm)))
  · have k1 : ¬ pzS tx L a = 108 := fun z => n1 ((mg_eq (k := 108) hok (by omega)).mpr z)
    have k2 : ¬ pzS tx L a = 115 := fun z => n2 ((mg_eq (k := 115) hok (by omega)).mpr z)
    refine qm_go 5 (fun P hP => Exists.intro (c9) (And.intro (And.intro (rfl) (hc9)) (hP ?_)))
    generalize hσ : wF _ 58 0 (upd _ c9 _) = σ1
    have F1 : Fr (fun t _ j => t = 58 ∧ j = c9) σ σ1 := by rw [← hσ]; exact Fr.w1 ⟨rfl, rfl⟩
    have ht1 : mT L tx σ1 a := ht.fr F1 (fun t i j q => by omega)
    have e58 : σ1.1 58 0 c9 = nI 2 := by rw [← hσ]; exact wv_same
    refine qm_go 4 (fun P hP => m_word (fr := 8) (l := [98, 101, 97, 114]) (by omega) ht1 (by omega) rfl (fun i c q => ?_) (fun σ2 b r hm F2 ht2 => hP ?_))
    · rw [F1.1 _ _ _ (by omega)]
      match i, q with
      | 0, q => cases q; exact ⟨hlt 8 _ rfl, by omega⟩
      | 1, q => cases q; exact ⟨hlt 9 _ rfl, by omega⟩
      | 2, q => cases q; exact ⟨hlt 10 _ rfl, by omega⟩
      | 3, q => cases q; exact ⟨hlt 11 _ rfl, by omega⟩
      | j + 4, q => cases q
    · have hm : pzM (pzS tx L) a (hdS 2) = (b, r) := hm
      have FF : Fr (tHd c9) σ σ2 := (F1.mono (fun t i j q => by unfold tHd; omega)).tr (F2.mono (fun t i j q => by unfold tAt at q; unfold tHd; omega))
      by_cases e : pzS tx L a = 98
      · have hx : pzX (pzS tx L a) [108, 115, 98] 0 = some 2 := by rw [e]; rfl
        cases r with
        | false => exact qm_go 1 (fun P hP => And.intro rfl (h0 σ2 b FF ht2 (hd_1 hx hm)))
        | true => exact qm_go 1 (fun P hP => And.intro rfl (h1 σ2 b 2 (by omega) (pzM_le _ _ _ _ hm) FF ht2 (by rw [F2.1 _ _ _ (by unfold tAt; omega)]; exact e58) (hd_2 hx hm)))
      · have hx : pzX (pzS tx L a) [108, 115, 98] 0 = none := pzX_no _ 0 (fun x hx z => by
          rw [← z] at k1 k2 e
          simp only [List.mem_cons, List.not_mem_nil, or_false] at hx
          omega)
        have hm2 : (a, false) = (b, r) := by
          rw [← hm]
          show _ = (if pzS tx L a = 98 then _ else _)
          rw [if_neg e]
        cases hm2
        refine qm_go 1 (fun P hP => And.intro rfl (h0 σ2 a FF ht2 (fun r h => ?_)))
        unfold pzC at h
        rw [hx] at h
        exact h
set_option maxHeartbeats 1000000 in
theorem m_clause {d : Nat} (hd : 6 ≤ d) {σ : qm_Sg} {Q : qm_Po} {f L : Nat} {tx : Nat → Nat} {a base c9 : Nat} {r : CR9} (ht : mT L tx σ a) (hlt : mLt σ) (h22 : σ.1 50 0 22 = nI base) (hb : 100 * f ≤ base) (hb2 : base ≤ 100 * f + a) (hf : f < 6) (hc9 : c9 < 60) (hr : pzC (pzS tx L) a r) (h0 : ∀ σ' b, r = (b, none) → Fr (tCl c9 base) σ σ' → mT L tx σ' b → Q σ' (some (vI 0))) (h1 : ∀ σ' b q, r = (b, some q) → Fr (tCl c9 base) σ σ' → mT L tx σ' b → σ'.1 58 0 c9 = nI q.1 → σ'.1 59 0 c9 = nI q.2.1 → (q.1 ≠ 2 → σ'.1 60 0 c9 = nI base ∧ σ'.1 61 0 c9 = nI (base + q.2.2.length) ∧ ∀ k t, q.2.2[k]? = some t → σ'.1 62 0 (base + k) = mEn t) → σ'.1 50 0 22 = nI (base + q.2.2.length) → base + q.2.2.length ≤ 100 * f + b → Q σ' (some (vI 1))) : qm_M d 135 [vR 50 0, vI (nI c9)] σ Q := by
  obtain ⟨d, rfl, hd⟩ := qm_dn hd
  show qm_Wp (qm_M d) qk_135 Q 0 [some (vR 50 0), some (vI (nI c9))] [] σ
  refine qm_go 3 (fun P hP => m_head (by omega) ht hlt hc9 (fun σ1 b F1 ht1 hk => hP ?_) (fun σ1 b wd hwd hab F1 ht1 e58 hk => hP ?_))
  · refine qm_go 1 (fun P hP => And.intro (fun _ => hP ?_) (fun z => absurd rfl z))
    exact qm_go 2 (fun P hP => And.intro rfl (h0 σ1 b (hk r hr) (F1.mono (fun t i j q => by unfold tHd at q; unfold tCl; omega)) ht1))
  · refine qm_go 1 (fun P hP => And.intro (fun z => absurd z (by decide)) (fun _ => hP ?_))
    have hr2 := hk r hr
    have F1c : Fr (tCl c9 base) σ σ1 := F1.mono (fun t i j q => by unfold tHd at q; unfold tCl; omega)
    unfold pzC2 at hr2
    refine qm_go 2 (fun P hP => m_number (by omega) ht1 (fun hn => hP ?_) (fun σ2 n c hn F2 ht2 e13 => hP ?_))
    · refine qm_go 1 (fun P hP => And.intro (fun z => absurd rfl z) (fun _ => hP ?_))
      rw [hn] at hr2
      exact qm_go 2 (fun P hP => And.intro rfl (h0 σ1 b hr2 F1c ht1))
    · refine qm_go 1 (fun P hP => And.intro (fun _ => hP ?_) (fun z => absurd z (by decide)))
      rw [hn] at hr2
      have hr2 : pzC3 (pzS tx L) wd n c r := hr2
      unfold pzC3 at hr2
      refine qm_go 6 (fun P hP => Exists.intro (c9) (And.intro (And.intro (rfl) (hc9)) (hP ?_)))
      generalize hσ : wF _ 59 0 (upd _ c9 _) = σ3
      have F3 : Fr (fun t _ j => t = 59 ∧ j = c9) σ2 σ3 := by rw [← hσ]; exact Fr.w1 ⟨rfl, rfl⟩
      have e59 : σ3.1 59 0 c9 = nI n := by rw [← hσ, wv_same, e13]
      have ht3 : mT L tx σ3 c := ht2.fr F3 (fun t i j q => by omega)
      have k58 : σ3.1 58 0 c9 = nI wd := by rw [F3.1 _ _ _ (by omega), F2.1 _ _ _ (by unfold tAt; omega)]; exact e58
      have k22 : σ3.1 50 0 22 = nI base := by rw [F3.1 _ _ _ (by omega), F2.1 _ _ _ (by unfold tAt; omega), F1.1 _ _ _ (by unfold tHd; omega)]; exact h22
      have F3c : Fr (tCl c9 base) σ σ3 := (F1c.tr F2.cl).tr (F3.mono (fun t i j q => by unfold tCl; omega))
      have hac : a ≤ c := by
        have h9 := (pzN_lt hn).2
        omega
      refine qm_go 4 (fun P hP => Exists.intro (c9) (And.intro (And.intro (rfl) (hc9)) (hP ?_)))
      rw [k58]
      by_cases e : wd = 2
      · rw [if_pos e] at hr2
        refine qm_go 2 (fun P hP => And.intro (fun _ => hP ?_) (fun z => absurd (by rw [e]; rfl) z))
        subst e
        exact qm_go 3 (fun P hP => And.intro rfl (h1 σ3 c _ hr2 F3c ht3 k58 e59 (fun z => absurd rfl z) k22 (by show base + 0 ≤ _; omega)))
      · rw [if_neg e] at hr2
        refine qm_go 2 (fun P hP => And.intro (fun z => absurd ((nI_eq (b := 2) (by omega) (by omega)).mp z) e) (fun _ => hP ?_))
        refine qm_go 3 (fun P hP => m_tk (c := 32) (by omega) ht3 (by omega) (fun e2 => hP ?_) (fun e2 σ4 F4 e4 ht4 => hP ?_))
        · refine qm_go 1 (fun P hP => And.intro (fun _ => hP ?_) (fun z => absurd rfl z))
          rw [if_neg e2] at hr2
          exact qm_go 2 (fun P hP => And.intro rfl (h0 σ3 c hr2 F3c ht3))
        · refine qm_go 1 (fun P hP => And.intro (fun z => absurd z (by decide)) (fun _ => hP ?_))
          rw [if_pos e2] at hr2
          obtain ⟨q, hq, rfl⟩ := hr2
          have F4c := F3c.tr (F4.cl (c := c9) (b := base))
          refine qm_go 3 (fun P hP => m_E (f := f) (by omega) ht4 (by rw [e4 _ (by omega)]; exact k22) hb (by omega) hf hc9 hq (fun σ5 b5 z5 F5 ht5 => hP ?_) (fun σ5 b5 ts z5 F5 ht5 y1 y2 y3 y4 y5 y6 => hP ?_))
          · refine qm_go 1 (fun P hP => And.intro (fun _ => hP ?_) (fun z => absurd rfl z))
            subst z5
            exact qm_go 2 (fun P hP => And.intro rfl (h0 σ5 b5 rfl (F4c.tr F5.ce) ht5))
          · refine qm_go 1 (fun P hP => And.intro (fun z => absurd z (by decide)) (fun _ => hP ?_))
            subst z5
            exact qm_go 3 (fun P hP => And.intro rfl (h1 σ5 b5 (wd, n, ts) rfl (F4c.tr F5.ce) ht5 (by rw [F5.1 _ _ _ (by unfold tE0; omega), F4.1 _ _ _ (by unfold tAt; omega)]; exact k58) (by rw [F5.1 _ _ _ (by unfold tE0; omega), F4.1 _ _ _ (by unfold tAt; omega)]; exact e59) (fun _ => ⟨y4, y5, y3⟩) y1 y2))
