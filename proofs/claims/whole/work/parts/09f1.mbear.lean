def tM (t i j : Nat) : Prop := t = 65 ∨ t = 53 ∨ t = 54 ∨ (t = 50 ∧ (j = 2 ∨ j = 3))
def vM (σ : qm_Sg) (D : DD) : Prop := σ.1 53 0 = D.1 ∧ σ.1 54 0 = D.2.1 ∧ σ.1 50 0 2 = D.2.2.1 ∧ σ.1 50 0 3 = nI D.2.2.2
/-- the reference's street s is these clauses -/
def mRep (σ : qm_Sg) (s : Nat) (c : CT9) : Prop := σ.1 57 0 s = nI c.length ∧ c.length ≤ 10 ∧
  ∀ (i : Nat) (q : Nat × Nat × List Nat), c[i]? = some q → σ.1 58 0 (10 * s + i) = nI q.1 ∧ σ.1 59 0 (10 * s + i) = nI q.2.1 ∧ (q.1 ≠ 2 → ∃ f, σ.1 60 0 (10 * s + i) = nI f ∧ σ.1 61 0 (10 * s + i) = nI (f + q.2.2.length) ∧ f + q.2.2.length ≤ 600 ∧ ∀ (k t : Nat), q.2.2[k]? = some t → σ.1 62 0 (f + k) = mEn t)
def mSt (σ : qm_Sg) (S : (Nat → Int32) → Int32) (br : Int32) : Prop := (σ.1 50 0 10 = -1 ∧ S = (fun _ => 9) ∧ br = 40) ∨ ∃ (s : Nat) (c : CT9), s < 6 ∧ σ.1 50 0 10 = nI s ∧ mRep σ s c ∧ wfC c ∧ S = (fun x => sumC x c 9) ∧ br = nI (bearC c 40)
def sM (σ : qm_Sg) (n : Nat) (kd vv rw9 : Nat → Int32) (aw : Int32) (S : (Nat → Int32) → Int32) (br : Int32) : Prop := σ.1 50 0 0 = nI n ∧ n ≤ 6 ∧ σ.1 51 0 = kd ∧ σ.1 52 0 = vv ∧ σ.1 55 0 = rw9 ∧ σ.1 50 0 1 = aw ∧ (∀ p, p < n → ∃ k, k < 7 ∧ kd p = nI k) ∧ mSt σ S br
theorem mRep.fr {T : Nat → Nat → Nat → Prop} {σ σ' : qm_Sg} {s : Nat} {c : CT9} (h : mRep σ s c) (hF : Fr T σ σ') (hT : ∀ t i j, 57 ≤ t → t ≤ 62 → ¬ T t i j) : mRep σ' s c := by
  obtain ⟨h1, h2, h4⟩ := h
  refine ⟨by rw [hF.1 _ _ _ (hT _ _ _ (by omega) (by omega))]; exact h1, h2, fun i q hq => ?_⟩
  obtain ⟨a1, a2, a3⟩ := h4 i q hq
  refine ⟨by rw [hF.1 _ _ _ (hT _ _ _ (by omega) (by omega))]; exact a1, by rw [hF.1 _ _ _ (hT _ _ _ (by omega) (by omega))]; exact a2, fun h2 => ?_⟩
  obtain ⟨f, b1, b2, b3, b4⟩ := a3 h2
  exact ⟨f, by rw [hF.1 _ _ _ (hT _ _ _ (by omega) (by omega))]; exact b1, by rw [hF.1 _ _ _ (hT _ _ _ (by omega) (by omega))]; exact b2, b3, fun k t ht => by rw [hF.1 _ _ _ (hT _ _ _ (by omega) (by omega))]; exact b4 k t ht⟩
theorem mSt.fr {T : Nat → Nat → Nat → Prop} {σ σ' : qm_Sg} {S : (Nat → Int32) → Int32} {br : Int32} (h : mSt σ S br) (hF : Fr T σ σ') (hT : ∀ t i j, 57 ≤ t → t ≤ 62 → ¬ T t i j) (h11 : ¬ T 50 0 10) : mSt σ' S br := by
  rcases h with ⟨h1, h2⟩ | ⟨s, c, h1, h2, h3, h4⟩
  · exact Or.inl ⟨by rw [hF.1 _ _ _ h11]; exact h1, h2⟩
  · exact Or.inr ⟨s, c, h1, by rw [hF.1 _ _ _ h11]; exact h2, h3.fr hF hT, h4⟩
theorem sM.fr {T : Nat → Nat → Nat → Prop} {n : Nat} {σ σ' : qm_Sg} {kd vv rw9 : Nat → Int32} {aw : Int32} {S : (Nat → Int32) → Int32} {br : Int32} (h : sM σ n kd vv rw9 aw S br) (hF : Fr T σ σ') (hT : ∀ t i j, T t i j → tM t i j) : sM σ' n kd vv rw9 aw S br := by
  have z : ∀ t i j, ¬ tM t i j → ¬ T t i j := fun t i j h q => h (hT t i j q)
  obtain ⟨h1, h2, h3, h4, h5, h6, h7, h8⟩ := h
  refine ⟨by rw [hF.1 _ _ _ (z _ _ _ (by unfold tM; omega))]; exact h1, h2, by rw [hF.row (fun j => z _ _ _ (by unfold tM; omega))]; exact h3, by rw [hF.row (fun j => z _ _ _ (by unfold tM; omega))]; exact h4, by rw [hF.row (fun j => z _ _ _ (by unfold tM; omega))]; exact h5, by rw [hF.1 _ _ _ (z _ _ _ (by unfold tM; omega))]; exact h6, h7, h8.fr hF (fun t i j a b => z _ _ _ (by unfold tM; omega)) (z _ _ _ (by unfold tM; omega))⟩
theorem vM.fr {σ σ' : qm_Sg} {D : DD} (h : vM σ D) (hF : Fr (fun t _ _ => t = 65) σ σ') : vM σ' D := by
  obtain ⟨h1, h2, h3, h4⟩ := h
  exact ⟨by rw [hF.row (fun j => by omega)]; exact h1, by rw [hF.row (fun j => by omega)]; exact h2, by rw [hF.1 _ _ _ (by omega)]; exact h3, by rw [hF.1 _ _ _ (by omega)]; exact h4⟩
theorem m_chain_l {d : Nat} (hd : 1 ≤ d) {σ : qm_Sg} {Q : qm_Po} {n : Nat} {aw : Int32} (hn : n ≤ 6) (hs : σ.1 50 0 0 = nI n) (ha : σ.1 50 0 1 = aw) {a : Int32} : ∀ (k q : Nat), q + k = n → Q σ (some (vI (nxI (nxtA aw k q)))) → qm_Wp (qm_M d) qk_146 Q 12 [some (vR 50 0), some (vI a), some (vI (nI q))] [] σ
  | 0, q, e, h => by
    refine qm_go 4 (fun P hP => And.intro (fun _ => hP ?_) (fun c => absurd (by rw [hs]; exact nI_le (by omega) (by omega)) c))
    refine qm_go 2 (fun P hP => h)
  | k + 1, q, e, h => by
    unfold nxtA at h
    refine qm_go 4 (fun P hP => And.intro (fun c => absurd c (by rw [hs]; exact nI_ge (by omega) (by omega))) (fun _ => hP ?_))
    refine qm_go 5 (fun P hP => m_has hd (fun c => hP ?_) (fun c => hP ?_))
    · refine qm_go 1 (fun P hP => And.intro (fun _ => hP ?_) (fun c => absurd c (by decide)))
      refine qm_go 2 (fun P hP => hP ?_)
      rw [ha] at c; rw [if_pos c] at h; rw [nI_1]; exact m_chain_l hd hn hs ha k (q + 1) (by omega) h
    · refine qm_go 1 (fun P hP => And.intro (fun c => absurd (by decide) c) (fun _ => hP ?_))
      refine qm_go 2 (fun P hP => ?_)
      rw [ha] at c; rw [if_neg c] at h; exact h
theorem m_chain {d : Nat} (hd : 2 ≤ d) {σ : qm_Sg} {Q : qm_Po} {n p : Nat} {aw : Int32} (hn : n ≤ 6) (hp : p < n) (hs : σ.1 50 0 0 = nI n) (ha : σ.1 50 0 1 = aw) (h : ¬ isAw aw p → Q σ (some (vI (nxI (nxtA aw (n - (p + 1)) (p + 1)))))) (h5 : isAw aw p → Q σ (some (vI (-5)))) : qm_M d 146 [vR 50 0, vI (nI p)] σ Q := by
  obtain ⟨d, rfl, hd⟩ := qm_dn hd
  show qm_Wp (qm_M d) qk_146 Q 0 [some (vR 50 0), some (vI (nI p)), none] [] σ
  refine qm_go 5 (fun P hP => m_has (by omega) (fun c => hP ?_) (fun c => hP ?_))
  · refine qm_go 1 (fun P hP => And.intro (fun c => absurd c (by decide)) (fun _ => hP ?_))
    refine qm_go 2 (fun P hP => h5 (by rw [← ha]; exact c))
  · refine qm_go 1 (fun P hP => And.intro (fun _ => hP ?_) (fun c => absurd (by decide) c))
    refine qm_go 4 (fun P hP => hP ?_)
    rw [nI_1]; exact m_chain_l (by omega) hn hs ha (n - (p + 1)) (p + 1) (by omega) (h (by rw [← ha]; exact c))
theorem m_comes {d : Nat} (hd : 3 ≤ d) {σ : qm_Sg} {Q : qm_Po} {n p : Nat} {aw x : Int32} {D : DD} (hn : n ≤ 6) (hp : p < n) (hna : ¬ isAw aw p) (hs : σ.1 50 0 0 = nI n) (ha : σ.1 50 0 1 = aw) (hv : vM σ D) (h : ∀ σ', Fr tM σ σ' → vM σ' (comeD n aw p x D) → Q σ' none) : qm_M d 149 [vR 50 0, vI (nI p), vI x] σ Q := by
  obtain ⟨d, rfl, hd⟩ := qm_dn hd
  show qm_Wp (qm_M d) qk_149 Q 0 [some (vR 50 0), some (vI (nI p)), some (vI x), none] [] σ
  refine qm_go 3 (fun P hP => m_chain (by omega) hn hp hs ha (fun _ => hP ?_) (fun q => absurd q hna))
  unfold comeD at h
  cases hz : nxtA aw (n - (p + 1)) (p + 1) with
  | none =>
    rw [hz] at h
    refine qm_go 3 (fun P hP => And.intro (fun c => absurd c (by decide)) (fun _ => hP ?_))
    refine qm_go 8 (fun P hP => m_least (by omega) (hP ?_))
    refine qm_go 3 (fun P hP => h _ (Fr.w1 (Or.inr (Or.inr (Or.inr ⟨rfl, Or.inl rfl⟩)))) ⟨by rw [wF_ne _ _ (by omega)]; exact hv.1, by rw [wF_ne _ _ (by omega)]; exact hv.2.1, by rw [wv_same, hv.2.2.1]; rfl, by rw [wv_ne (by decide)]; exact hv.2.2.2⟩)
  | some r =>
    rw [hz] at h
    have hr := nxtA_lt _ _ _ hz
    refine qm_go 3 (fun P hP => And.intro (fun _ => hP ?_) (fun c => absurd (show 0 ≤ nI r from nI_pos' (by omega)) c))
    refine qm_go 8 (fun P hP => Exists.intro (r) (And.intro (And.intro (rfl) ((show r < 6 by omega))) (hP ?_)))
    refine qm_go 4 (fun P hP => m_least (by omega) (hP ?_))
    refine qm_go 1 (fun P hP => Exists.intro (r) (And.intro (And.intro (rfl) ((show r < 6 by omega))) (hP ?_)))
    refine qm_go 1 (fun P hP => h _ (Fr.w1 (Or.inr (Or.inl rfl))) ⟨by rw [wF_same, hv.1]; rfl, by rw [wF_ne _ _ (by omega)]; exact hv.2.1, by rw [wF_ne _ _ (by omega)]; exact hv.2.2.1, by rw [wF_ne _ _ (by omega)]; exact hv.2.2.2⟩)
theorem m_begin0 {d : Nat} (hd : 1 ≤ d) {σ : qm_Sg} {Q : qm_Po} (h1 : σ.1 50 0 10 = -1) (h : Q σ (some (vI 0))) : qm_M d 138 [vR 50 0] σ Q := by
  obtain ⟨d, rfl, hd⟩ := qm_dn hd
  show qm_Wp (qm_M d) qk_138 Q 0 [some (vR 50 0)] [] σ
  refine qm_go 3 (fun P hP => And.intro (fun c => absurd c (by rw [h1]; decide)) (fun _ => hP ?_))
  refine qm_go 3 (fun P hP => h)
theorem m_behind0 {d : Nat} (hd : 1 ≤ d) {σ : qm_Sg} {Q : qm_Po} (h1 : σ.1 50 0 10 = -1) (h : Q σ (some (vI 0))) : qm_M d 139 [vR 50 0] σ Q := by
  obtain ⟨d, rfl, hd⟩ := qm_dn hd
  show qm_Wp (qm_M d) qk_139 Q 0 [some (vR 50 0)] [] σ
  refine qm_go 3 (fun P hP => And.intro (fun c => absurd c (by rw [h1]; decide)) (fun _ => hP ?_))
  refine qm_go 3 (fun P hP => h)
theorem m_begin1 {d : Nat} (hd : 1 ≤ d) {σ : qm_Sg} {Q : qm_Po} {s : Nat} (hs : s < 6) (h1 : σ.1 50 0 10 = nI s) (h : Q σ (some (vI (nI (10 * s))))) : qm_M d 138 [vR 50 0] σ Q := by
  obtain ⟨d, rfl, hd⟩ := qm_dn hd
  show qm_Wp (qm_M d) qk_138 Q 0 [some (vR 50 0)] [] σ
  refine qm_go 3 (fun P hP => And.intro (fun _ => hP ?_) (fun c => absurd (by rw [h1]; exact nI_pos' (by omega)) c))
  refine qm_go 5 (fun P hP => ?_)
  show Q σ (some (vI (nI 10 * σ.1 50 0 10)))
  rw [h1, pk_mul]
  exact h
theorem m_behind1 {d : Nat} (hd : 1 ≤ d) {σ : qm_Sg} {Q : qm_Po} {s n : Nat} (hs : s < 6) (h1 : σ.1 50 0 10 = nI s) (h2 : σ.1 57 0 s = nI n) (h : Q σ (some (vI (nI (10 * s + n))))) : qm_M d 139 [vR 50 0] σ Q := by
  obtain ⟨d, rfl, hd⟩ := qm_dn hd
  show qm_Wp (qm_M d) qk_139 Q 0 [some (vR 50 0)] [] σ
  refine qm_go 3 (fun P hP => And.intro (fun _ => hP ?_) (fun c => absurd (by rw [h1]; exact nI_pos' (by omega)) c))
  refine qm_go 9 (fun P hP => Exists.intro (s) (And.intro (And.intro (h1) (hs)) (hP ?_)))
  refine qm_go 2 (fun P hP => ?_)
  show Q σ (some (vI (nI 10 * σ.1 50 0 10 + σ.1 57 0 s)))
  rw [h1, h2, pk_mul, nI_add]
  exact h
theorem m_bear_l {d : Nat} (hd : 1 ≤ d) {σ : qm_Sg} {Q : qm_Po} {s : Nat} {c : CT9} (hs : s < 6) (h1 : σ.1 50 0 10 = nI s) (hr : mRep σ s c) (hw : wfC c) : ∀ (l : CT9) (i a : Nat), c.drop i = l → i ≤ c.length → Q σ (some (vI (nI (bearC l a)))) → qm_Wp (qm_M d) qk_140 Q 5 [some (vR 50 0), some (vI (nI a)), some (vI (nI (10 * s + i)))] [] σ
  | [], i, a, e, hi, h => by
    have hl : c.length = i := by have := List.drop_eq_nil_iff.mp e; omega
    refine qm_go 3 (fun P hP => m_behind1 hd hs h1 hr.1 (hP ?_))
    refine qm_go 1 (fun P hP => And.intro (fun _ => hP ?_) (fun c => absurd (nI_le (by omega) (by have := hr.2.1; omega)) c))
    refine qm_go 2 (fun P hP => h)
  | q :: l, i, a, e, hi, h => by
    have hq : c[i]? = some q := by rw [← List.head?_drop, e]; rfl
    have hl : i < c.length := (List.getElem?_eq_some_iff.mp hq).1
    have hc10 := hr.2.1
    obtain ⟨a1, a2, a3⟩ := hr.2.2 i q hq
    have e2 : c.drop (i + 1) = l := by rw [← List.drop_drop, e]; rfl
    have hw3 := (hw.2 q (List.mem_of_getElem? hq)).1
    obtain ⟨w, nn, ts⟩ := q
    unfold bearC at h
    simp only at a1 a2 hw3
    refine qm_go 3 (fun P hP => m_behind1 hd hs h1 hr.1 (hP ?_))
    refine qm_go 1 (fun P hP => And.intro (fun c => absurd c (nI_ge (by omega) (by have := hr.2.1; omega))) (fun _ => hP ?_))
    refine qm_go 4 (fun P hP => Exists.intro (10 * s + i) (And.intro (And.intro (rfl) ((show 10 * s + i < 60 by omega))) (hP ?_)))
    refine qm_go 2 (fun P hP => And.intro (fun c14 => hP ?_) (fun c14 => hP ?_))
    · refine qm_go 4 (fun P hP => hP ?_)
      have hn1 : nI (10 * s + i) + 1 = nI (10 * s + (i + 1)) := by rw [nI_1]; rfl
      rw [hn1]
      first
        | (rw [a1] at c14; rw [if_neg (fun z => c14 (by rw [z]; rfl))] at h; exact m_bear_l hd hs h1 hr hw l (i + 1) a e2 (by omega) h)
        | (rw [a1] at c14; rw [if_pos ((nI_eq (by omega) (by decide)).mp c14)] at h; rw [a2]; exact m_bear_l hd hs h1 hr hw l (i + 1) nn e2 (by omega) h)
    · refine qm_go 4 (fun P hP => Exists.intro (10 * s + i) (And.intro (And.intro (rfl) ((show 10 * s + i < 60 by omega))) (hP ?_)))
      refine qm_go 4 (fun P hP => hP ?_)
      have hn1 : nI (10 * s + i) + 1 = nI (10 * s + (i + 1)) := by rw [nI_1]; rfl
      rw [hn1]
      first
        | (rw [a1] at c14; rw [if_neg (fun z => c14 (by rw [z]; rfl))] at h; exact m_bear_l hd hs h1 hr hw l (i + 1) a e2 (by omega) h)
        | (rw [a1] at c14; rw [if_pos ((nI_eq (by omega) (by decide)).mp c14)] at h; rw [a2]; exact m_bear_l hd hs h1 hr hw l (i + 1) nn e2 (by omega) h)
theorem m_bear {d : Nat} (hd : 2 ≤ d) {σ : qm_Sg} {Q : qm_Po} {S : (Nat → Int32) → Int32} {br : Int32} (hc : mSt σ S br) (h : Q σ (some (vI br))) : qm_M d 140 [vR 50 0] σ Q := by
  obtain ⟨d, rfl, hd⟩ := qm_dn hd
  show qm_Wp (qm_M d) qk_140 Q 0 [some (vR 50 0), none, none] [] σ
  rcases hc with ⟨h1, h2, rfl⟩ | ⟨s, c, h1, h2, h3, h4, h5, rfl⟩
  · refine qm_go 4 (fun P hP => m_begin0 (by omega) h1 (hP ?_))
    refine qm_go 4 (fun P hP => m_behind0 (by omega) h1 (hP ?_))
    refine qm_go 1 (fun P hP => And.intro (fun _ => hP ?_) (fun c => absurd (by decide) c))
    refine qm_go 2 (fun P hP => h)
  · refine qm_go 4 (fun P hP => m_begin1 (by omega) h1 h2 (hP ?_))
    refine qm_go 1 (fun P hP => hP ?_)
    exact m_bear_l (by omega) h1 h2 h3 h4 c 0 40 rfl (by omega) h
