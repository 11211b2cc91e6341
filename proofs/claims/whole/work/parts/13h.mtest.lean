def mP (f L : Nat) (tx : Nat → Nat) (σ : qm_Sg) (a : Nat) (w : List Nat) (op : Int32) (base : Nat) (out : List Nat) : Prop := mT L tx σ a ∧ σ.1 50 0 22 = nI (base + out.length) ∧ (∀ i t, out[i]? = some t → σ.1 62 0 (base + i) = mEn t) ∧ σ.1 50 0 23 = nI w.length ∧ (∀ i c, w[i]? = some c → σ.1 63 0 (w.length - 1 - i) = nI c ∧ c < 128) ∧ σ.1 50 0 24 = op ∧ base + out.length + w.length ≤ 100 * f + a ∧ f < 6 ∧ 100 * f ≤ base
def tE (c b t _ j : Nat) : Prop := (t = 50 ∧ (j = 12 ∨ j = 13 ∨ j = 22 ∨ j = 23 ∨ j = 24)) ∨ t = 63 ∨ (t = 62 ∧ b ≤ j) ∨ (t = 61 ∧ j = c)
theorem out_app {σ : qm_Sg} {base t : Nat} {out : List Nat} (h : ∀ i q, out[i]? = some q → σ.1 62 0 (base + i) = mEn q) (ht : σ.1 62 0 (base + out.length) = mEn t) : ∀ i q, (out ++ [t])[i]? = some q → σ.1 62 0 (base + i) = mEn q := by
  intro i q hq
  by_cases e : i < out.length
  · rw [List.getElem?_append_left e] at hq
    exact h i q hq
  · rw [List.getElem?_append_right (by omega)] at hq
    have : i = out.length := by
      have := (List.getElem?_eq_some_iff.mp hq).1
      simp only [List.length_cons, List.length_nil] at this
      omega
    subst this
    rw [Nat.sub_self] at hq
    cases hq
    exact ht
theorem w_hd {σ : qm_Sg} {c : Nat} {r : List Nat} (h : ∀ i x, (c :: r)[i]? = some x → σ.1 63 0 ((c :: r).length - 1 - i) = nI x ∧ x < 128) : (σ.1 63 0 r.length = nI c ∧ c < 128) ∧ ∀ i x, r[i]? = some x → σ.1 63 0 (r.length - 1 - i) = nI x ∧ x < 128 := by
  refine ⟨h 0 c rfl, fun i x hx => ?_⟩
  have hl := (List.getElem?_eq_some_iff.mp hx).1
  have := h (i + 1) x hx
  rw [show (c :: r).length - 1 - (i + 1) = r.length - 1 - i by simp only [List.length_cons]; omega] at this
  exact this
theorem w_push {σ σ' : qm_Sg} {c : Nat} {r : List Nat} (h : ∀ i x, r[i]? = some x → σ.1 63 0 (r.length - 1 - i) = nI x ∧ x < 128) (hc : σ'.1 63 0 r.length = nI c) (c8 : c < 128) (hk : ∀ j, j ≠ r.length → σ'.1 63 0 j = σ.1 63 0 j) : ∀ i x, (c :: r)[i]? = some x → σ'.1 63 0 ((c :: r).length - 1 - i) = nI x ∧ x < 128 := by
  intro i x hx
  cases i with
  | zero => cases hx; exact ⟨hc, c8⟩
  | succ i =>
    have hl := (List.getElem?_eq_some_iff.mp (show r[i]? = some x from hx)).1
    rw [show (c :: r).length - 1 - (i + 1) = r.length - 1 - i by simp only [List.length_cons]; omega, hk _ (by omega)]
    exact h i x hx
theorem ln1 {α : Type} (c : α) (r : List α) : nI (c :: r).length - 1 = nI r.length := by rw [List.length_cons, nI_pred]
theorem m_whole_l {d : Nat} (hd : 1 ≤ d) {Q : qm_Po} {c9 f L : Nat} {tx : Nat → Nat} {a base : Nat} : ∀ (w : List Nat) (op : Int32) (out : List Nat) (σ : qm_Sg), mP f L tx σ a w op base out → (∀ σ', Fr (tE c9 base) σ σ' → mP f L tx σ' a (pzW w op out).1 (pzW w op out).2.1 base (pzW w op out).2.2 → Q σ' none) → qm_Wp (qm_M d) qk_129 Q 0 [some (vR 50 0)] [] σ
  | [], op, out, σ, hp, h => by
    have h4 := hp.2.2.2.1
    refine qm_go 3 (fun P hP => And.intro (fun _ => hP ?_) (fun c => absurd (by rw [h4]; decide) c))
    exact qm_go 1 (fun P hP => h σ Fr.rf hp)
  | c :: w, op, out, σ, hp, h => by
    obtain ⟨h1, h2, h3, h4, h5, h6, h7, h8, h9⟩ := id hp
    obtain ⟨⟨k1, k2⟩, k3⟩ := w_hd h5
    have hl := h1.2.2.2
    have hlen : (c :: w).length = w.length + 1 := rfl
    refine qm_go 3 (fun P hP => And.intro (fun c => absurd c (by rw [h4]; exact nI_nle (by omega) (by omega))) (fun _ => hP ?_))
    refine qm_go 7 (fun P hP => Exists.intro (w.length) (And.intro (And.intro (by rw [h4]; exact ln1 c w) (show w.length < 101 by omega)) (hP ?_)))
    rw [k1]
    unfold pzW at h
    by_cases e : c = 33
    · rw [if_pos e] at h
      refine qm_go 2 (fun P hP => And.intro (fun z => absurd (by rw [e]; rfl) z) (fun _ => hP ?_))
      refine qm_go 3 (fun P hP => m_emits hd h2 (by omega) (fun σ2 F2 e1 e2 => hP ?_))
      refine qm_go 12 (fun P hP => hP ?_)
      generalize hσ : wF _ 50 0 (upd _ 24 _) = σ3
      have F3 : Fr (fun t _ j => t = 50 ∧ (j = 23 ∨ j = 24)) σ2 σ3 := by
        rw [← hσ]
        exact Fr.p1 (Fr.w1 (by omega)) (by omega)
      have F9 : Fr (tE c9 base) σ σ3 := (F2.mono (fun t i j q => by unfold tE; omega)).tr (F3.mono (fun t i j q => by unfold tE; omega))
      have n23 : σ3.1 50 0 23 = nI w.length := by rw [← hσ, wv_ne (by omega), wv_same, F2.1 _ _ _ (by omega), h4]; exact ln1 c w
      have n24 : σ3.1 50 0 24 = op - 1 := by rw [← hσ, wv_same, wv_ne (by omega), F2.1 _ _ _ (by omega), h6]
      have hlo : (out ++ [0]).length = out.length + 1 := List.length_append
      refine qm_go 1 (fun P hP => hP ?_)
      refine m_whole_l hd w (op - 1) (out ++ [0]) σ3 ⟨(h1.fr F2 (fun t i j q => by omega)).fr F3 (fun t i j q => by omega), by rw [F3.1 _ _ _ (by omega), e2, hlo]; rfl, out_app (fun i q hq => ?_) (by rw [F3.1 _ _ _ (by omega), e1]; rfl), n23, fun i x hx => ?_, n24, by omega, h8, h9⟩ (fun σ4 F4 hp4 => h σ4 (F9.tr F4) hp4)
      · have := (List.getElem?_eq_some_iff.mp hq).1
        rw [F3.1 _ _ _ (by omega), F2.1 _ _ _ (by omega)]
        exact h3 i q hq
      · rw [F3.1 _ _ _ (by omega), F2.1 _ _ _ (by omega)]
        exact k3 i x hx
    · rw [if_neg e] at h
      refine qm_go 2 (fun P hP => And.intro (fun _ => hP ?_) (fun z => absurd ((nI_eq (b := 33) (by omega) (by omega)).mp z) e))
      exact qm_go 1 (fun P hP => h σ Fr.rf hp)
theorem m_whole {d : Nat} (hd : 2 ≤ d) {σ : qm_Sg} {Q : qm_Po} {c9 f L : Nat} {tx : Nat → Nat} {a base : Nat} {w out : List Nat} {op : Int32} (hp : mP f L tx σ a w op base out) (h : ∀ σ', Fr (tE c9 base) σ σ' → mP f L tx σ' a (pzW w op out).1 (pzW w op out).2.1 base (pzW w op out).2.2 → Q σ' none) : qm_M d 129 [vR 50 0] σ Q := by
  obtain ⟨d, rfl, hd⟩ := qm_dn hd
  show qm_Wp (qm_M d) qk_129 Q 0 [some (vR 50 0)] [] σ
  exact m_whole_l (by omega) w op out σ hp h
theorem m_settle_l {d : Nat} (hd : 1 ≤ d) {Q : qm_Po} {c9 f L : Nat} {tx : Nat → Nat} {a base s : Nat} {op : Int32} (hs : s < 128) : ∀ (w out : List Nat) (σ : qm_Sg), mP f L tx σ a w op base out → (∀ σ', Fr (tE c9 base) σ σ' → mP f L tx σ' a (pzE s w out).1 op base (pzE s w out).2 → Q σ' none) → qm_Wp (qm_M d) qk_130 Q 0 [some (vR 50 0), some (vI (nI s))] [] σ
  | [], out, σ, hp, h => by
    have h4 := hp.2.2.2.1
    refine qm_go 3 (fun P hP => And.intro (fun _ => hP ?_) (fun c => absurd (by rw [h4]; decide) c))
    exact qm_go 1 (fun P hP => h σ Fr.rf hp)
  | c :: w, out, σ, hp, h => by
    obtain ⟨h1, h2, h3, h4, h5, h6, h7, h8, h9⟩ := id hp
    obtain ⟨⟨k1, k2⟩, k3⟩ := w_hd h5
    have hl := h1.2.2.2
    have hlen : (c :: w).length = w.length + 1 := rfl
    refine qm_go 3 (fun P hP => And.intro (fun c => absurd c (by rw [h4]; exact nI_nle (by omega) (by omega))) (fun _ => hP ?_))
    refine qm_go 7 (fun P hP => Exists.intro (w.length) (And.intro (And.intro (by rw [h4]; exact ln1 c w) (show w.length < 101 by omega)) (hP ?_)))
    rw [k1]
    unfold pzE at h
    by_cases e : c = 38
    · rw [if_pos e] at h
      refine qm_go 2 (fun P hP => And.intro (fun _ => hP ?_) (fun z => absurd (by rw [e]; rfl) z))
      refine qm_go 6 (fun P hP => hP ?_)
      generalize hσ : wF _ 50 0 (upd _ 23 _) = σ2
      have F2 : Fr (fun t _ j => t = 50 ∧ j = 23) σ σ2 := by rw [← hσ]; exact Fr.w1 (by omega)
      have n23 : σ2.1 50 0 23 = nI w.length := by rw [← hσ, wv_same, h4]; exact ln1 c w
      refine qm_go 6 (fun P hP => Exists.intro (w.length) (And.intro (And.intro (n23) (show w.length < 101 by omega)) (hP ?_)))
      rw [F2.1 63 0 w.length (by omega), k1, e]
      refine qm_go 2 (fun P hP => m_emits hd (k := base + out.length) (by rw [F2.1 _ _ _ (by omega)]; exact h2) (by omega) (fun σ3 F3 e1 e2 => hP ?_))
      have F9 : Fr (tE c9 base) σ σ3 := (F2.mono (fun t i j q => by unfold tE; omega)).tr (F3.mono (fun t i j q => by unfold tE; omega))
      have hlo : (out ++ [1]).length = out.length + 1 := List.length_append
      refine qm_go 1 (fun P hP => hP ?_)
      refine m_settle_l hd hs w (out ++ [1]) σ3 ⟨(h1.fr F2 (fun t i j q => by omega)).fr F3 (fun t i j q => by omega), by rw [e2, hlo]; rfl, out_app (fun i q hq => ?_) (by rw [e1]; rfl), by rw [F3.1 _ _ _ (by omega)]; exact n23, fun i x hx => ?_, by rw [F3.1 _ _ _ (by omega), F2.1 _ _ _ (by omega)]; exact h6, by omega, h8, h9⟩ (fun σ4 F4 hp4 => h σ4 (F9.tr F4) hp4)
      · have := (List.getElem?_eq_some_iff.mp hq).1
        rw [F3.1 _ _ _ (by omega), F2.1 _ _ _ (by omega)]
        exact h3 i q hq
      · rw [F3.1 _ _ _ (by omega), F2.1 _ _ _ (by omega)]
        exact k3 i x hx
    · rw [if_neg e] at h
      refine qm_go 2 (fun P hP => And.intro (fun z => absurd ((nI_eq (b := 38) (by omega) (by omega)).mp z) e) (fun _ => hP ?_))
      refine qm_go 7 (fun P hP => Exists.intro (w.length) (And.intro (And.intro (by rw [h4]; exact ln1 c w) (show w.length < 101 by omega)) (hP ?_)))
      rw [k1]
      by_cases e2 : c = 124
      · refine qm_go 2 (fun P hP => And.intro (fun z => absurd (by rw [e2]; rfl) z) (fun _ => hP ?_))
        by_cases e3 : s = 38
        · rw [if_neg (fun z => z.2 e3)] at h
          refine qm_go 3 (fun P hP => And.intro (fun _ => hP ?_) (fun z => absurd (by rw [e3]; rfl) z))
          exact qm_go 1 (fun P hP => h σ Fr.rf hp)
        · rw [if_pos ⟨e2, e3⟩] at h
          refine qm_go 3 (fun P hP => And.intro (fun z => absurd ((nI_eq (b := 38) (by omega) (by omega)).mp z) e3) (fun _ => hP ?_))
          refine qm_go 6 (fun P hP => hP ?_)
          generalize hσ : wF _ 50 0 (upd _ 23 _) = σ2
          have F2 : Fr (fun t _ j => t = 50 ∧ j = 23) σ σ2 := by rw [← hσ]; exact Fr.w1 (by omega)
          have n23 : σ2.1 50 0 23 = nI w.length := by rw [← hσ, wv_same, h4]; exact ln1 c w
          refine qm_go 6 (fun P hP => Exists.intro (w.length) (And.intro (And.intro (n23) (show w.length < 101 by omega)) (hP ?_)))
          rw [F2.1 63 0 w.length (by omega), k1, e2]
          refine qm_go 2 (fun P hP => m_emits hd (k := base + out.length) (by rw [F2.1 _ _ _ (by omega)]; exact h2) (by omega) (fun σ3 F3 e1 e2 => hP ?_))
          have F9 : Fr (tE c9 base) σ σ3 := (F2.mono (fun t i j q => by unfold tE; omega)).tr (F3.mono (fun t i j q => by unfold tE; omega))
          have hlo : (out ++ [2]).length = out.length + 1 := List.length_append
          refine qm_go 1 (fun P hP => hP ?_)
          refine m_settle_l hd hs w (out ++ [2]) σ3 ⟨(h1.fr F2 (fun t i j q => by omega)).fr F3 (fun t i j q => by omega), by rw [e2, hlo]; rfl, out_app (fun i q hq => ?_) (by rw [e1]; rfl), by rw [F3.1 _ _ _ (by omega)]; exact n23, fun i x hx => ?_, by rw [F3.1 _ _ _ (by omega), F2.1 _ _ _ (by omega)]; exact h6, by omega, h8, h9⟩ (fun σ4 F4 hp4 => h σ4 (F9.tr F4) hp4)
          · have := (List.getElem?_eq_some_iff.mp hq).1
            rw [F3.1 _ _ _ (by omega), F2.1 _ _ _ (by omega)]
            exact h3 i q hq
          · rw [F3.1 _ _ _ (by omega), F2.1 _ _ _ (by omega)]
            exact k3 i x hx
      · rw [if_neg (fun z => e2 z.1)] at h
        refine qm_go 2 (fun P hP => And.intro (fun _ => hP ?_) (fun z => absurd ((nI_eq (b := 124) (by omega) (by omega)).mp z) e2))
        exact qm_go 1 (fun P hP => h σ Fr.rf hp)
theorem m_settle {d : Nat} (hd : 2 ≤ d) {σ : qm_Sg} {Q : qm_Po} {c9 f L : Nat} {tx : Nat → Nat} {a base : Nat} {w out : List Nat} {op : Int32} (hp : mP f L tx σ a w op base out) {s : Nat} (hs : s < 128) (h : ∀ σ', Fr (tE c9 base) σ σ' → mP f L tx σ' a (pzE s w out).1 op base (pzE s w out).2 → Q σ' none) : qm_M d 130 [vR 50 0, vI (nI s)] σ Q := by
  obtain ⟨d, rfl, hd⟩ := qm_dn hd
  show qm_Wp (qm_M d) qk_130 Q 0 [some (vR 50 0), some (vI (nI s))] [] σ
  exact m_settle_l (by omega) hs w out σ hp h
theorem mP.fa {f L : Nat} {tx : Nat → Nat} {σ σ' : qm_Sg} {a b base : Nat} {w out : List Nat} {op : Int32} (h : mP f L tx σ a w op base out) (F : Fr tAt σ σ') (hb : mT L tx σ' b) (hab : a ≤ b) : mP f L tx σ' b w op base out := by
  obtain ⟨h1, h2, h3, h4, h5, h6, h7, h8, h9⟩ := h
  exact ⟨hb, by rw [F.1 _ _ _ (by unfold tAt; omega)]; exact h2, fun i t q => by rw [F.1 _ _ _ (by unfold tAt; omega)]; exact h3 i t q, by rw [F.1 _ _ _ (by unfold tAt; omega)]; exact h4, fun i t q => by rw [F.1 _ _ _ (by unfold tAt; omega)]; exact h5 i t q, by rw [F.1 _ _ _ (by unfold tAt; omega)]; exact h6, by omega, h8, h9⟩
theorem Fr.ae {c9 base : Nat} {σ σ' : qm_Sg} (h : Fr tAt σ σ') : Fr (tE c9 base) σ σ' := h.mono (fun t i j q => by unfold tAt at q; unfold tE; omega)
theorem pzX_cmp {c : Nat} (h : 60 ≤ c ∧ c ≤ 62) : pzX c [60, 61, 62] 0 = some (c - 60) := by
  have : c = 60 ∨ c = 61 ∨ c = 62 := by omega
  rcases this with rfl | rfl | rfl <;> rfl
theorem tst_m {f y n : Nat} (hy : y < 3) (hn : n < 100) : 1000 * nI f + 100 * nI y + nI n = mEn (3 + ((f * 3 + y) * 100 + n)) := by
  rw [show (1000 : Int32) = nI 1000 from rfl, pk_mul, show (100 : Int32) = nI 100 from rfl, pk_mul, nI_add, nI_add, Nat.add_comm 3]
  show _ = nI (1000 * (((f * 3 + y) * 100 + n) / 300) + 100 * (((f * 3 + y) * 100 + n) / 100 % 3) + ((f * 3 + y) * 100 + n) % 100)
  congr 1
  omega
theorem pzN_lt {g : Nat → Nat} {a n b : Nat} (h : pzN g a = some (n, b)) : n < 100 ∧ a < b := by
  unfold pzN at h
  split at h
  · split at h
    · cases h; omega
    · cases h; omega
  · cases h
theorem m_test {d : Nat} (hd : 4 ≤ d) {σ : qm_Sg} {Q : qm_Po} {c9 f L : Nat} {tx : Nat → Nat} {a base : Nat} {w out : List Nat} {op : Int32} (hp : mP f L tx σ a w op base out) (h0 : ∀ σ' b, pzT (pzS tx L) a = (b, none) → Fr (tE c9 base) σ σ' → mT L tx σ' b → Q σ' (some (vI 0))) (h1 : ∀ σ' b t, pzT (pzS tx L) a = (b, some t) → Fr (tE c9 base) σ σ' → mP f L tx σ' b (pzW w op (out ++ [t])).1 (pzW w op (out ++ [t])).2.1 base (pzW w op (out ++ [t])).2.2 → Q σ' (some (vI 1))) : qm_M d 132 [vR 50 0] σ Q := by
  obtain ⟨d, rfl, hd⟩ := qm_dn hd
  show qm_Wp (qm_M d) qk_132 Q 0 [some (vR 50 0), none, none] [] σ
  unfold pzT at h0 h1
  have ht := hp.1
  refine qm_go 3 (fun P hP => m_next (by omega) ht (hP ?_))
  refine qm_go 1 (fun P hP => m_place (by omega) (ht.ok a) (hP ?_))
  refine qm_go 3 (fun P hP => And.intro (fun c => hP ?_) (fun c => hP ?_))
  · obtain ⟨fl, hf, hf6⟩ := pzX_s (i_nlt c) (by decide)
    have ha : a < L := by
      by_cases e : a < L
      · exact e
      · rw [pzX_no (c := pzS tx L a) _ 0 (fun x hx => by rw [pzS_end e]; simp only [List.mem_cons, List.not_mem_nil, or_false] at hx; omega)] at hf
        cases hf
    rw [hf] at h0 h1 ⊢
    refine qm_go 6 (fun P hP => hP ?_)
    generalize hσ2 : wF _ 50 0 (upd _ 12 _) = σ2
    have F2 : Fr tAt σ σ2 := by rw [← hσ2]; exact at_F
    have ht2 : mT L tx σ2 (a + 1) := by rw [← hσ2]; exact ht.at1 ha
    refine qm_go 2 (fun P hP => m_next (by omega) ht2 (hP ?_))
    refine qm_go 6 (fun P hP => m_in (by omega) (fun c1 c2 => hP ?_) (fun cn => hP ?_))
    · refine qm_go 1 (fun P hP => And.intro (fun _ => hP ?_) (fun z => absurd z (by decide)))
      have ey := (mg_cmp (ht2.ok (a + 1))).mp ⟨c1, c2⟩
      have ha2 : a + 1 < L := pzS_lt (tx := tx) rfl (by omega)
      rw [pzX_cmp ey] at h0 h1
      rw [mg_in (by omega)]
      refine qm_go 6 (fun P hP => hP ?_)
      generalize hσ3 : wF _ 50 0 (upd _ 12 _) = σ3
      have F3 : Fr tAt σ2 σ3 := by rw [← hσ3]; exact at_F
      have ht3 : mT L tx σ3 (a + 1 + 1) := by rw [← hσ3]; exact ht2.at1 ha2
      refine qm_go 2 (fun P hP => m_number (by omega) ht3 (fun hn => hP ?_) (fun σ4 n b hn F4 ht4 e13 => hP ?_))
      · refine qm_go 1 (fun P hP => And.intro (fun z => absurd rfl z) (fun _ => hP ?_))
        have hn : pzN (pzS tx L) (a + 2) = none := hn
        rw [hn] at h0
        exact qm_go 2 (fun P hP => And.intro rfl (h0 σ3 _ rfl (F2.tr F3).ae ht3))
      · refine qm_go 1 (fun P hP => And.intro (fun _ => hP ?_) (fun z => absurd z (by decide)))
        have hn2 := pzN_lt hn
        have hn : pzN (pzS tx L) (a + 2) = some (n, b) := hn
        rw [hn] at h1
        have F0 := (F2.tr F3).tr F4
        have hp4 : mP f L tx σ4 b w op base out := hp.fa F0 ht4 (by omega)
        obtain ⟨q1, q2, q3, q4, q5, q6, q7, q8, q9⟩ := id hp
        refine qm_go 8 (fun P hP => hP ?_)
        rw [show (60 : Int32) = nI 60 from rfl, pk_sub ey.1]
        refine qm_go 5 (fun P hP => hP ?_)
        rw [e13, show 1000 * pzI (some fl) + 100 * nI (pzS tx L (a + 1) - 60) + nI n = mEn (3 + ((fl * 3 + (pzS tx L (a + 1) - 60)) * 100 + n)) from tst_m (by omega) hn2.1]
        generalize ht9 : 3 + ((fl * 3 + (pzS tx L (a + 1) - 60)) * 100 + n) = t
        have hlL := ht4.2.2.2
        refine qm_go 1 (fun P hP => m_emits (by omega) hp4.2.1 (by omega) (fun σ5 F5 e1 e2 => hP ?_))
        have hlo : (out ++ [t]).length = out.length + 1 := List.length_append
        have hp5 : mP f L tx σ5 b w op base (out ++ [t]) := by
          obtain ⟨r1, r2, r3, r4, r5, r6, r7, r8, r9⟩ := hp4
          refine ⟨r1.fr F5 (fun t i j q => by omega), by rw [e2, hlo]; rfl, out_app (fun i q hq => ?_) e1, by rw [F5.1 _ _ _ (by omega)]; exact r4, fun i x hx => ?_, by rw [F5.1 _ _ _ (by omega)]; exact r6, by omega, r8, r9⟩
          · have := (List.getElem?_eq_some_iff.mp hq).1
            rw [F5.1 _ _ _ (by omega)]
            exact r3 i q hq
          · rw [F5.1 _ _ _ (by omega)]
            exact r5 i x hx
        refine qm_go 2 (fun P hP => m_whole (c9 := c9) (by omega) hp5 (fun σ6 F6 hp6 => hP ?_))
        exact qm_go 2 (fun P hP => And.intro rfl (h1 σ6 b t (by subst ht9; rfl) ((F0.ae.tr (F5.mono (fun t i j q => by unfold tE; omega))).tr F6) hp6))
    · refine qm_go 1 (fun P hP => And.intro (fun z => absurd rfl z) (fun _ => hP ?_))
      have ey : ¬ (60 ≤ pzS tx L (a + 1) ∧ pzS tx L (a + 1) ≤ 62) := fun z => cn ((mg_cmp (ht2.ok (a + 1))).mpr z)
      rw [pzX_no (c := pzS tx L (a + 1)) [60, 61, 62] 0 (fun x hx => by simp only [List.mem_cons, List.not_mem_nil, or_false] at hx; omega)] at h0
      exact qm_go 2 (fun P hP => And.intro rfl (h0 σ2 _ rfl F2.ae ht2))
  · have hf := pzX_i (i_lt_of c) (by decide)
    rw [hf] at h0
    exact qm_go 2 (fun P hP => And.intro rfl (h0 σ _ rfl Fr.rf ht))
