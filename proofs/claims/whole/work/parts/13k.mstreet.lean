def mW (σ : qm_Sg) (f base : Nat) (acc : CT9) : Prop := ∀ (i : Nat) (q : Nat × Nat × List Nat), acc[i]? = some q → σ.1 58 0 (10 * f + i) = nI q.1 ∧ σ.1 59 0 (10 * f + i) = nI q.2.1 ∧ (q.1 ≠ 2 → ∃ b, σ.1 60 0 (10 * f + i) = nI b ∧ σ.1 61 0 (10 * f + i) = nI (b + q.2.2.length) ∧ b + q.2.2.length ≤ base ∧ ∀ (k t : Nat), q.2.2[k]? = some t → σ.1 62 0 (b + k) = mEn t)
def mRp (σ : qm_Sg) (s : Nat) (c : CT9) : Prop := σ.1 57 0 s = nI c.length ∧ c.length ≤ 10 ∧ mW σ s (100 * (s + 1)) c
theorem mRp.rep {σ : qm_Sg} {s : Nat} {c : CT9} (hs : s < 6) (h : mRp σ s c) : mRep σ s c := by
  obtain ⟨h1, h2, h3⟩ := h
  refine ⟨h1, h2, fun i q hq => ?_⟩
  obtain ⟨a1, a2, a3⟩ := h3 i q hq
  refine ⟨a1, a2, fun z => ?_⟩
  obtain ⟨b, b1, b2, b3, b4⟩ := a3 z
  exact ⟨b, b1, b2, by omega, b4⟩
theorem mW.fr {σ σ' : qm_Sg} {f base : Nat} {acc : CT9} {T : Nat → Nat → Nat → Prop} (h : mW σ f base acc) (F : Fr T σ σ') (hT : ∀ t i j, ((58 ≤ t ∧ t ≤ 61 ∧ 10 * f ≤ j ∧ j < 10 * f + acc.length) ∨ (t = 62 ∧ j < base)) → ¬ T t i j) : mW σ' f base acc := by
  intro i q hq
  have hi := (List.getElem?_eq_some_iff.mp hq).1
  obtain ⟨a1, a2, a3⟩ := h i q hq
  refine ⟨by rw [F.1 _ _ _ (hT _ _ _ (by omega))]; exact a1, by rw [F.1 _ _ _ (hT _ _ _ (by omega))]; exact a2, fun z => ?_⟩
  obtain ⟨b, b1, b2, b3, b4⟩ := a3 z
  refine ⟨b, by rw [F.1 _ _ _ (hT _ _ _ (by omega))]; exact b1, by rw [F.1 _ _ _ (hT _ _ _ (by omega))]; exact b2, b3, fun k t ht => ?_⟩
  have hk := (List.getElem?_eq_some_iff.mp ht).1
  rw [F.1 _ _ _ (hT _ _ _ (by omega))]
  exact b4 k t ht
theorem mW.le {σ : qm_Sg} {f base base' : Nat} {acc : CT9} (h : mW σ f base acc) (hb : base ≤ base') : mW σ f base' acc := by
  intro i q hq
  obtain ⟨a1, a2, a3⟩ := h i q hq
  refine ⟨a1, a2, fun z => ?_⟩
  obtain ⟨b, b1, b2, b3, b4⟩ := a3 z
  exact ⟨b, b1, b2, by omega, b4⟩
theorem mRp.fr {σ σ' : qm_Sg} {s : Nat} {c : CT9} {T : Nat → Nat → Nat → Prop} (h : mRp σ s c) (F : Fr T σ σ') (hT : ∀ t i j, ((t = 57 ∧ j = s) ∨ (58 ≤ t ∧ t ≤ 61 ∧ j < 10 * (s + 1)) ∨ (t = 62 ∧ j < 100 * (s + 1))) → ¬ T t i j) : mRp σ' s c := by
  obtain ⟨h1, h2, h3⟩ := h
  exact ⟨by rw [F.1 _ _ _ (hT _ _ _ (by omega))]; exact h1, h2, h3.fr F (fun t i j q => hT _ _ _ (by omega))⟩
theorem mW.app {σ : qm_Sg} {f base : Nat} {acc : CT9} {q : Nat × Nat × List Nat} (h : mW σ f base acc) (e58 : σ.1 58 0 (10 * f + acc.length) = nI q.1) (e59 : σ.1 59 0 (10 * f + acc.length) = nI q.2.1) (h3 : q.1 ≠ 2 → σ.1 60 0 (10 * f + acc.length) = nI base ∧ σ.1 61 0 (10 * f + acc.length) = nI (base + q.2.2.length) ∧ ∀ k t, q.2.2[k]? = some t → σ.1 62 0 (base + k) = mEn t) : mW σ f (base + q.2.2.length) (acc ++ [q]) := by
  intro i x hx
  by_cases e : i < acc.length
  · rw [List.getElem?_append_left e] at hx
    exact h.le (by omega) i x hx
  · rw [List.getElem?_append_right (by omega)] at hx
    have : i = acc.length := by
      have := (List.getElem?_eq_some_iff.mp hx).1
      simp only [List.length_cons, List.length_nil] at this
      omega
    subst this
    rw [Nat.sub_self] at hx
    cases hx
    exact ⟨e58, e59, fun z => ⟨base, (h3 z).1, (h3 z).2.1, by omega, (h3 z).2.2⟩⟩
def tTx (f t _ j : Nat) : Prop := (t = 50 ∧ (j = 12 ∨ j = 13 ∨ j = 22 ∨ j = 23 ∨ j = 24)) ∨ t = 63 ∨ (t = 57 ∧ j = f) ∨ (t = 62 ∧ 100 * f ≤ j) ∨ (58 ≤ t ∧ t ≤ 61 ∧ 10 * f ≤ j)
theorem pzL_inv {g : Nat → Nat} {L k a : Nat} {acc : CT9} {r : Nat × Option CT9} (h : pzL g L (k + 1) a acc r) : ∃ q : CR9, pzC g a q ∧ (∀ b, q = (b, none) → r = (b, none)) ∧ ∀ b c, q = (b, some c) → (b = L → r = (b, some (acc ++ [c]))) ∧ (¬ b = L → (k = 0 ∨ ¬ g b = 59) → r = (b, none)) ∧ (¬ b = L → ¬ k = 0 → g b = 59 → pzL g L k (b + 1) (acc ++ [c]) r) := by
  obtain ⟨q, h1, h2⟩ := h
  refine ⟨q, h1, fun b e => ?_, fun b c e => ?_⟩
  · subst e
    exact h2
  · subst e
    have h2 : (if b = L then r = (b, some (acc ++ [c])) else if k = 0 ∨ ¬ g b = 59 then r = (b, none) else pzL g L k (b + 1) (acc ++ [c]) r) := h2
    refine ⟨fun z => ?_, fun z y => ?_, fun z y x => ?_⟩
    · rw [if_pos z] at h2; exact h2
    · rw [if_neg z, if_pos y] at h2; exact h2
    · rw [if_neg z, if_neg (fun w => w.elim y (fun w => w x))] at h2; exact h2
set_option maxHeartbeats 1000000 in
theorem m_text_l {d : Nat} (hd : 6 ≤ d) {Q : qm_Po} {f L : Nat} {tx : Nat → Nat} {σ0 : qm_Sg} {r : Nat × Option CT9} (hf : f < 6) (h0 : ∀ σ' b, r = (b, none) → Fr (tTx f) σ0 σ' → σ'.1 50 0 12 = nI b → Q σ' (some (vI 0))) (h1 : ∀ σ' b c, r = (b, some c) → Fr (tTx f) σ0 σ' → σ'.1 50 0 12 = nI b → mRp σ' f c → Q σ' (some (vI 1))) : ∀ (k a base : Nat) (acc : CT9) (σ : qm_Sg), acc.length + k = 9 → mT L tx σ a → mLt σ → σ.1 50 0 22 = nI base → 100 * f ≤ base → base ≤ 100 * f + a → mW σ f base acc → Fr (tTx f) σ0 σ → pzL (pzS tx L) L (k + 1) a acc r → qm_Wp (qm_M d) qk_136 Q 10 [some (vR 50 0), some (vI (nI f)), some (vI (nI acc.length))] [] σ := by
  intro k
  induction k with
  | zero =>
    intro a base acc σ hk ht hlt h22 hb hb2 hw F hr
    obtain ⟨q, hq, r0, r1⟩ := pzL_inv hr
    have hl := ht.2.2.2
    refine qm_go 6 (fun P hP => hP ?_)
    rw [show (10 : Int32) * nI f + nI acc.length = nI (10 * f + acc.length) by rw [show (10 : Int32) = nI 10 from rfl, pk_mul, nI_add]]
    refine qm_go 1 (fun P hP => m_clause (f := f) (by omega) ht hlt h22 hb hb2 hf (by omega) hq (fun σ2 b z F2 ht2 => hP ?_) (fun σ2 b c z F2 ht2 e58 e59 e60 e22 hle => hP ?_))
    · refine qm_go 1 (fun P hP => And.intro (fun z => absurd rfl z) (fun _ => hP ?_))
      exact qm_go 2 (fun P hP => And.intro rfl (h0 σ2 b (r0 b z) (F.tr (F2.mono (fun t i j q => by unfold tCl at q; unfold tTx; omega))) ht2.2.1))
    · refine qm_go 1 (fun P hP => And.intro (fun _ => hP ?_) (fun z => absurd z (by decide)))
      have hl2 := ht2.2.2.2
      have F2t : Fr (tTx f) σ0 σ2 := F.tr (F2.mono (fun t i j q => by unfold tCl at q; unfold tTx; omega))
      obtain ⟨r2, r3, r4⟩ := r1 b c z
      refine qm_go 1 (fun P hP => hP ?_)
      rw [nI_1]
      refine qm_go 5 (fun P hP => Exists.intro (f) (And.intro (And.intro (rfl) (hf)) (hP ?_)))
      generalize hσ : wF _ 57 0 (upd _ f _) = σ3
      have F3 : Fr (fun t _ j => t = 57 ∧ j = f) σ2 σ3 := by rw [← hσ]; exact Fr.w1 ⟨rfl, rfl⟩
      have F3t : Fr (tTx f) σ0 σ3 := F2t.tr (F3.mono (fun t i j q => by unfold tTx; omega))
      have e57 : σ3.1 57 0 f = nI (acc.length + 1) := by rw [← hσ]; exact wv_same
      have ht3 : mT L tx σ3 b := ht2.fr F3 (fun t i j q => by omega)
      have hw3 : mW σ3 f (base + c.2.2.length) (acc ++ [c]) := mW.fr ((hw.fr F2 (fun t i j q => by unfold tCl; omega)).app e58 e59 e60) F3 (fun t i j q => by omega)
      by_cases e : b = L
      · refine qm_go 5 (fun P hP => And.intro (fun z => absurd (by rw [ht3.1, ht3.2.1, e]) z) (fun _ => hP ?_))
        exact qm_go 2 (fun P hP => And.intro rfl (h1 σ3 b _ (r2 e) F3t ht3.2.1 ⟨by rw [e57, List.length_append]; rfl, by rw [List.length_append]; simp only [List.length_cons, List.length_nil]; omega, hw3.le (by omega)⟩))
      · refine qm_go 5 (fun P hP => And.intro (fun _ => hP ?_) (fun z => absurd ((nI_eq (by omega) (by omega)).mp (by rw [← ht3.1, ← ht3.2.1]; exact z)) e))
        refine qm_go 3 (fun P hP => And.intro (fun _ => hP ?_) (fun z => absurd (by rw [show acc.length = 9 by omega]; rfl) z))
        exact qm_go 2 (fun P hP => And.intro rfl (h0 σ3 b (r3 e (Or.inl rfl)) F3t ht3.2.1))
  | succ k ih =>
    intro a base acc σ hk ht hlt h22 hb hb2 hw F hr
    obtain ⟨q, hq, r0, r1⟩ := pzL_inv hr
    have hl := ht.2.2.2
    refine qm_go 6 (fun P hP => hP ?_)
    rw [show (10 : Int32) * nI f + nI acc.length = nI (10 * f + acc.length) by rw [show (10 : Int32) = nI 10 from rfl, pk_mul, nI_add]]
    refine qm_go 1 (fun P hP => m_clause (f := f) (by omega) ht hlt h22 hb hb2 hf (by omega) hq (fun σ2 b z F2 ht2 => hP ?_) (fun σ2 b c z F2 ht2 e58 e59 e60 e22 hle => hP ?_))
    · refine qm_go 1 (fun P hP => And.intro (fun z => absurd rfl z) (fun _ => hP ?_))
      exact qm_go 2 (fun P hP => And.intro rfl (h0 σ2 b (r0 b z) (F.tr (F2.mono (fun t i j q => by unfold tCl at q; unfold tTx; omega))) ht2.2.1))
    · refine qm_go 1 (fun P hP => And.intro (fun _ => hP ?_) (fun z => absurd z (by decide)))
      have hl2 := ht2.2.2.2
      have F2t : Fr (tTx f) σ0 σ2 := F.tr (F2.mono (fun t i j q => by unfold tCl at q; unfold tTx; omega))
      obtain ⟨r2, r3, r4⟩ := r1 b c z
      refine qm_go 1 (fun P hP => hP ?_)
      rw [nI_1]
      refine qm_go 5 (fun P hP => Exists.intro (f) (And.intro (And.intro (rfl) (hf)) (hP ?_)))
      generalize hσ : wF _ 57 0 (upd _ f _) = σ3
      have F3 : Fr (fun t _ j => t = 57 ∧ j = f) σ2 σ3 := by rw [← hσ]; exact Fr.w1 ⟨rfl, rfl⟩
      have F3t : Fr (tTx f) σ0 σ3 := F2t.tr (F3.mono (fun t i j q => by unfold tTx; omega))
      have e57 : σ3.1 57 0 f = nI (acc.length + 1) := by rw [← hσ]; exact wv_same
      have ht3 : mT L tx σ3 b := ht2.fr F3 (fun t i j q => by omega)
      have hw3 : mW σ3 f (base + c.2.2.length) (acc ++ [c]) := mW.fr ((hw.fr F2 (fun t i j q => by unfold tCl; omega)).app e58 e59 e60) F3 (fun t i j q => by omega)
      have hlen : (acc ++ [c]).length = acc.length + 1 := List.length_append
      by_cases e : b = L
      · refine qm_go 5 (fun P hP => And.intro (fun z => absurd (by rw [ht3.1, ht3.2.1, e]) z) (fun _ => hP ?_))
        exact qm_go 2 (fun P hP => And.intro rfl (h1 σ3 b _ (r2 e) F3t ht3.2.1 ⟨by rw [e57, hlen], by omega, hw3.le (by omega)⟩))
      · refine qm_go 5 (fun P hP => And.intro (fun _ => hP ?_) (fun z => absurd ((nI_eq (by omega) (by omega)).mp (by rw [← ht3.1, ← ht3.2.1]; exact z)) e))
        refine qm_go 3 (fun P hP => And.intro (fun z => absurd ((nI_eq (b := 10) (by omega) (by omega)).mp z) (by omega)) (fun _ => hP ?_))
        refine qm_go 3 (fun P hP => m_tk (c := 59) (by omega) ht3 (by omega) (fun e5 => hP ?_) (fun e5 σ4 F4 e4 ht4 => hP ?_))
        · refine qm_go 1 (fun P hP => And.intro (fun z => absurd rfl z) (fun _ => hP ?_))
          exact qm_go 2 (fun P hP => And.intro rfl (h0 σ3 b (r3 e (Or.inr e5)) F3t ht3.2.1))
        · refine qm_go 1 (fun P hP => And.intro (fun _ => hP ?_) (fun z => absurd z (by decide)))
          have hi := ih (b + 1) (base + c.2.2.length) (acc ++ [c]) σ4 (by omega) ht4 (((hlt.fr F2 (fun j => by unfold tCl; omega)).fr F3 (fun j => by omega)).fr F4 (fun j => by unfold tAt; omega)) (by rw [e4 _ (by omega), F3.1 _ _ _ (by omega)]; exact e22) (by omega) (by omega) (hw3.fr F4 (fun t i j q => by unfold tAt; omega)) (F3t.tr (F4.mono (fun t i j q => by unfold tAt at q; unfold tTx; omega))) (r4 e (by omega) e5)
          rw [hlen] at hi
          exact hi
theorem m_text {d : Nat} (hd : 7 ≤ d) {σ : qm_Sg} {Q : qm_Po} {f L : Nat} {tx : Nat → Nat} {r : Nat × Option CT9} (h11 : σ.1 50 0 11 = nI L) (hx : ∀ j, j < L → σ.1 56 0 j = nI (tx j)) (hL : L ≤ 100) (h8 : ∀ j, j < L → tx j < 128) (hlt : mLt σ) (hf : f < 6) (hr : pzL (pzS tx L) L 10 0 [] r) (h0 : ∀ σ' b, r = (b, none) → Fr (tTx f) σ σ' → σ'.1 50 0 12 = nI b → Q σ' (some (vI 0))) (h1 : ∀ σ' b c, r = (b, some c) → Fr (tTx f) σ σ' → σ'.1 50 0 12 = nI b → mRp σ' f c → Q σ' (some (vI 1))) : qm_M d 136 [vR 50 0, vI (nI f)] σ Q := by
  obtain ⟨d, rfl, hd⟩ := qm_dn hd
  show qm_Wp (qm_M d) qk_136 Q 0 [some (vR 50 0), some (vI (nI f)), none] [] σ
  refine qm_go 8 (fun P hP => hP ?_)
  generalize hσ : wF _ 50 0 (upd _ 22 _) = σ1
  have F : Fr (fun t _ j => t = 50 ∧ (j = 12 ∨ j = 22)) σ σ1 := by
    rw [← hσ]
    exact Fr.p1 (Fr.w1 (by omega)) (by omega)
  have k12 : σ1.1 50 0 12 = nI 0 := by rw [← hσ, wv_ne (by omega), wv_same]; rfl
  have k22 : σ1.1 50 0 22 = nI (100 * f) := by rw [← hσ, wv_same, show (100 : Int32) = nI 100 from rfl, pk_mul]
  refine qm_go 2 (fun P hP => hP ?_)
  exact m_text_l (by omega) hf h0 h1 9 0 (100 * f) [] σ1 rfl ⟨by rw [F.1 _ _ _ (by omega)]; exact h11, k12, fun j hj => by rw [F.1 _ _ _ (by omega)]; exact hx j hj, by omega, hL, h8⟩ (hlt.fr F (fun j => by omega)) k22 (by omega) (by omega) (fun i q hq => by cases hq) (F.mono (fun t i j q => by unfold tTx; omega)) hr
def tM1 (f t _ j : Nat) : Prop := (t = 50 ∧ (j = 9 ∨ j = 10 ∨ j = 11 ∨ j = 12 ∨ j = 13 ∨ j = 22 ∨ j = 23 ∨ j = 24)) ∨ t = 63 ∨ (t = 57 ∧ j = f) ∨ (t = 62 ∧ 100 * f ≤ j) ∨ (58 ≤ t ∧ t ≤ 61 ∧ 10 * f ≤ j)
theorem Fr.m1 {f : Nat} {σ σ' : qm_Sg} (h : Fr (tTx f) σ σ') : Fr (tM1 f) σ σ' := h.mono (fun t i j q => by unfold tTx at q; unfold tM1; omega)
theorem m_street {d : Nat} (hd : 8 ≤ d) {σ : qm_Sg} {Q : qm_Po} {n L : Nat} {tx : Nat → Nat} {r : Nat × Option CT9} (h11 : σ.1 50 0 11 = nI L) (hx : ∀ j, j < L → σ.1 56 0 j = nI (tx j)) (hL : L ≤ 100) (h8 : ∀ j, j < L → tx j < 128) (hlt : mLt σ) (hn : n ≤ 6) (e9 : σ.1 50 0 9 = nI n) (hr : n < 6 → pzL (pzS tx L) L 10 0 [] r) (h6 : n = 6 → Q σ (some (vI (-4)))) (h0 : n < 6 → ∀ σ' b, r = (b, none) → Fr (tM1 n) σ σ' → σ'.1 50 0 11 = 0 → σ'.1 50 0 9 = nI n → σ'.1 50 0 10 = σ.1 50 0 10 → Q σ' (some (vI (-10 - nI b)))) (h1 : n < 6 → ∀ σ' b c, r = (b, some c) → Fr (tM1 n) σ σ' → σ'.1 50 0 11 = 0 → σ'.1 50 0 9 = nI (n + 1) → σ'.1 50 0 10 = nI n → mRp σ' n c → Q σ' (some (vI (nI n)))) : qm_M d 137 [vR 50 0] σ Q := by
  obtain ⟨d, rfl, hd⟩ := qm_dn hd
  show qm_Wp (qm_M d) qk_137 Q 0 [some (vR 50 0), none] [] σ
  by_cases e : n = 6
  · refine qm_go 4 (fun P hP => And.intro (fun c => absurd (by rw [e9, e]; rfl) c) (fun _ => hP ?_))
    exact qm_go 2 (fun P hP => h6 e)
  · refine qm_go 4 (fun P hP => And.intro (fun _ => hP ?_) (fun c => absurd ((nI_eq (b := 6) (by omega) (by omega)).mp (by rw [← e9]; exact c)) e))
    have n6 : n < 6 := by omega
    refine qm_go 3 (fun P hP => hP ?_)
    rw [e9]
    refine qm_go 1 (fun P hP => m_text (by omega) h11 hx hL h8 hlt n6 (hr n6) (fun σ2 b z F2 e12 => hP ?_) (fun σ2 b c z F2 e12 hm => hP ?_))
    · refine qm_go 4 (fun P hP => hP ?_)
      generalize hσ : wF _ 50 0 (upd _ 11 _) = σ3
      have F3 : Fr (fun t _ j => t = 50 ∧ j = 11) σ2 σ3 := by rw [← hσ]; exact Fr.w1 ⟨rfl, rfl⟩
      have k11 : σ3.1 50 0 11 = 0 := by rw [← hσ]; exact wv_same
      refine qm_go 2 (fun P hP => And.intro (fun z => absurd rfl z) (fun _ => hP ?_))
      refine qm_go 3 (fun P hP => hP ?_)
      rw [F3.1 50 0 12 (by omega), e12]
      exact qm_go 2 (fun P hP => h0 n6 σ3 b z (F2.m1.tr (F3.mono (fun t i j q => by unfold tM1; omega))) k11 (by rw [F3.1 _ _ _ (by omega), F2.1 _ _ _ (by unfold tTx; omega)]; exact e9) (by rw [F3.1 _ _ _ (by omega), F2.1 _ _ _ (by unfold tTx; omega)]))
    · refine qm_go 4 (fun P hP => hP ?_)
      generalize hσ : wF _ 50 0 (upd _ 11 _) = σ3
      have F3 : Fr (fun t _ j => t = 50 ∧ j = 11) σ2 σ3 := by rw [← hσ]; exact Fr.w1 ⟨rfl, rfl⟩
      have k11 : σ3.1 50 0 11 = 0 := by rw [← hσ]; exact wv_same
      have k9 : σ3.1 50 0 9 = nI n := by rw [F3.1 _ _ _ (by omega), F2.1 _ _ _ (by unfold tTx; omega)]; exact e9
      refine qm_go 2 (fun P hP => And.intro (fun _ => hP ?_) (fun z => absurd z (by decide)))
      refine qm_go 10 (fun P hP => hP ?_)
      generalize hσ4 : wF _ 50 0 (upd _ 9 _) = σ4
      have F4 : Fr (fun t _ j => t = 50 ∧ (j = 9 ∨ j = 10)) σ3 σ4 := by
        rw [← hσ4]
        exact Fr.p1 (Fr.w1 (by omega)) (by omega)
      have j9 : σ4.1 50 0 9 = nI (n + 1) := by rw [← hσ4, wv_same, wv_ne (by omega), k9, nI_1]
      have j10 : σ4.1 50 0 10 = nI n := by rw [← hσ4, wv_ne (by omega), wv_same, k9]
      refine qm_go 2 (fun P hP => hP ?_)
      rw [j10]
      exact qm_go 1 (fun P hP => h1 n6 σ4 b c z ((F2.m1.tr (F3.mono (fun t i j q => by unfold tM1; omega))).tr (F4.mono (fun t i j q => by unfold tM1; omega))) (by rw [F4.1 _ _ _ (by omega)]; exact k11) j9 j10 ((hm.fr F3 (fun t i j q => by omega)).fr F4 (fun t i j q => by omega)))
