theorem m_factOf {d : Nat} (hd : 1 ≤ d) {σ : qm_Sg} {Q : qm_Po} {p j : Nat} (hp : p < 6) (hj : j < 6) {kd vv : Nat → Int32} {D : DD} (hkd : σ.1 51 0 = kd) (hvv : σ.1 52 0 = vv) (hv : vM σ D) (h : Q σ (some (vI (fxD kd vv D p j)))) : qm_M d 141 [vR 50 0, vI (nI j), vI (nI p)] σ Q := by
  obtain ⟨d, rfl, hd⟩ := qm_dn hd
  show qm_Wp (qm_M d) qk_141 Q 0 [some (vR 50 0), some (vI (nI j)), some (vI (nI p))] [] σ
  obtain ⟨v1, v2, v3, v4⟩ := hv
  have nn : ∀ a b : Nat, a < 6 → b < 6 → a ≠ b → ¬ nI a = nI b := fun a b ha hb hne q => hne ((nI_eq (by omega) (by omega)).mp q)
  rcases (show j = 0 ∨ j = 1 ∨ j = 2 ∨ j = 3 ∨ j = 4 ∨ j = 5 by omega) with rfl | rfl | rfl | rfl | rfl | rfl
  · refine qm_go 2 (fun P hP => And.intro (fun _ => hP ?_) (fun c => absurd rfl c))
    refine qm_go 2 (fun P hP => h)
  · refine qm_go 2 (fun P hP => And.intro (fun c => absurd c (nn 1 0 (by decide) (by decide) (by decide))) (fun _ => And.intro (fun _ => hP ?_) (fun c => absurd rfl c)))
    refine qm_go 4 (fun P hP => Exists.intro p (And.intro (And.intro rfl hp) (hP ?_)))
    refine qm_go 1 (fun P hP => ?_)
    show Q σ (some (vI (σ.1 51 0 p)))
    rw [hkd]; exact h
  · refine qm_go 2 (fun P hP => And.intro (fun c => absurd c (nn 2 0 (by decide) (by decide) (by decide))) (fun _ => And.intro (fun c => absurd c (nn 2 1 (by decide) (by decide) (by decide))) (fun _ => And.intro (fun _ => hP ?_) (fun c => absurd rfl c))))
    refine qm_go 4 (fun P hP => Exists.intro p (And.intro (And.intro rfl hp) (hP ?_)))
    refine qm_go 1 (fun P hP => ?_)
    show Q σ (some (vI (σ.1 52 0 p)))
    rw [hvv]; exact h
  · refine qm_go 2 (fun P hP => And.intro (fun c => absurd c (nn 3 0 (by decide) (by decide) (by decide))) (fun _ => And.intro (fun c => absurd c (nn 3 1 (by decide) (by decide) (by decide))) (fun _ => And.intro (fun c => absurd c (nn 3 2 (by decide) (by decide) (by decide))) (fun _ => And.intro (fun _ => hP ?_) (fun c => absurd rfl c)))))
    refine qm_go 4 (fun P hP => Exists.intro p (And.intro (And.intro rfl hp) (hP ?_)))
    refine qm_go 2 (fun P hP => And.intro (by decide) (hP ?_))
    refine qm_go 1 (fun P hP => ?_)
    show Q σ (some (vI (σ.1 53 0 p / 10)))
    rw [v1]; exact h
  · refine qm_go 2 (fun P hP => And.intro (fun c => absurd c (nn 4 0 (by decide) (by decide) (by decide))) (fun _ => And.intro (fun c => absurd c (nn 4 1 (by decide) (by decide) (by decide))) (fun _ => And.intro (fun c => absurd c (nn 4 2 (by decide) (by decide) (by decide))) (fun _ => And.intro (fun c => absurd c (nn 4 3 (by decide) (by decide) (by decide))) (fun _ => And.intro (fun _ => hP ?_) (fun c => absurd rfl c))))))
    refine qm_go 4 (fun P hP => Exists.intro p (And.intro (And.intro rfl hp) (hP ?_)))
    refine qm_go 2 (fun P hP => And.intro (by decide) (hP ?_))
    refine qm_go 1 (fun P hP => ?_)
    show Q σ (some (vI (σ.1 54 0 p / 10)))
    rw [v2]; exact h
  · refine qm_go 2 (fun P hP => And.intro (fun c => absurd c (nn 5 0 (by decide) (by decide) (by decide))) (fun _ => And.intro (fun c => absurd c (nn 5 1 (by decide) (by decide) (by decide))) (fun _ => And.intro (fun c => absurd c (nn 5 2 (by decide) (by decide) (by decide))) (fun _ => And.intro (fun c => absurd c (nn 5 3 (by decide) (by decide) (by decide))) (fun _ => And.intro (fun c => absurd c (nn 5 4 (by decide) (by decide) (by decide))) (fun _ => hP ?_))))))
    refine qm_go 4 (fun P hP => And.intro (by decide) (hP ?_))
    refine qm_go 1 (fun P hP => ?_)
    show Q σ (some (vI (σ.1 50 0 3 - σ.1 50 0 3 / 10 * 10)))
    rw [v4]; exact h
def pR (σ : qm_Sg) (st : List Bool) : Prop := ∀ (i : Nat) (b : Bool), st[i]? = some b → σ.1 65 0 (st.length - 1 - i) = nI b.toNat
theorem pR_top {σ : qm_Sg} {b : Bool} {s : List Bool} (h : pR σ (b :: s)) : σ.1 65 0 s.length = nI b.toNat := by
  have := h 0 b rfl
  simpa using this
theorem pR_2 {σ : qm_Sg} {b a : Bool} {s : List Bool} (h : pR σ (b :: a :: s)) : σ.1 65 0 (s.length + 1) = nI b.toNat ∧ σ.1 65 0 s.length = nI a.toNat := by
  have h1 := h 0 b rfl
  have h2 := h 1 a rfl
  constructor
  · simpa using h1
  · simpa using h2
theorem pR_set {σ : qm_Sg} {s : List Bool} (st0 : List Bool) (c : Bool) {v : Int32} (hv : v = nI c.toNat) (h : pR σ (st0 ++ s)) : pR (wF σ 65 0 (upd (σ.1 65 0) s.length v)) (c :: s) := by
  intro i b hi
  cases i with
  | zero =>
    cases hi
    show (wF σ 65 0 (upd (σ.1 65 0) s.length v)).1 65 0 (s.length + 1 - 1 - 0) = _
    rw [show s.length + 1 - 1 - 0 = s.length by omega, wv_same, hv]
  | succ i =>
    have hi2 : s[i]? = some b := hi
    have hl := (List.getElem?_eq_some_iff.mp hi2).1
    show (wF σ 65 0 (upd (σ.1 65 0) s.length v)).1 65 0 (s.length + 1 - 1 - (i + 1)) = _
    rw [wv_ne (by omega)]
    have h2 := h (st0.length + i) b (by rw [List.getElem?_append_right (by omega), show st0.length + i - st0.length = i by omega]; exact hi2)
    rw [List.length_append] at h2
    rw [show s.length + 1 - 1 - (i + 1) = st0.length + s.length - 1 - (st0.length + i) by omega]
    exact h2
theorem vpb1 : vp_nar .boolean 1 = nI true.toNat := rfl
theorem vpb0 : vp_nar .boolean 0 = nI false.toNat := rfl
theorem bt_ne {b : Bool} (h : ¬ nI b.toNat = 0) : b = true := by cases b; exact absurd rfl h; rfl
theorem bt_eq {b : Bool} (h : nI b.toNat = 0) : b = false := by cases b; rfl; exact absurd h (by decide)
theorem m_u1 {k : Nat} : (1000 * (k / 300) + 100 * (k / 100 % 3) + k % 100) / 1000 = k / 300 := by omega
theorem m_u2 {k : Nat} : (1000 * (k / 300) + 100 * (k / 100 % 3) + k % 100) / 100 % 10 = k / 100 % 3 := by omega
theorem m_u3 {k : Nat} : (1000 * (k / 300) + 100 * (k / 100 % 3) + k % 100) % 100 = k % 100 := by omega
set_option maxHeartbeats 4000000 in
theorem m_holds_l {d : Nat} (hd : 1 ≤ d) {σ0 : qm_Sg} {Q : qm_Po} {p c9 e9 : Nat} {kd vv : Nat → Int32} {D : DD} (hp : p < 6) (hc9 : c9 < 60) (he : e9 ≤ 600) (hto : σ0.1 61 0 c9 = nI e9) (hkd : σ0.1 51 0 = kd) (hvv : σ0.1 52 0 = vv) (hv : vM σ0 D) : ∀ (ts : List Nat) (st : List Bool) (c : Nat) (l5 l6 l7 : Option qm_AV) (σ : qm_Sg), Fr (fun t _ _ => t = 65) σ0 σ → pR σ st → c + ts.length = e9 → (∀ k t, ts[k]? = some t → σ0.1 62 0 (c + k) = mEn t) → wfT ts st.length 1 → st.length ≤ 25 → (∀ σ' b, Fr (fun t _ _ => t = 65) σ0 σ' → (evT (fxD kd vv D p) ts st).headD false = b → Q σ' (some (vI (nI b.toNat)))) → qm_Wp (qm_M d) qk_142 Q 7 [some (vR 50 0), some (vI (nI c9)), some (vI (nI p)), some (vI (nI st.length)), some (vI (nI c)), l5, l6, l7] [] σ
  | [], st, c, l5, l6, l7, σ, f0, hst, hc, hk, hw, hl, h => by
    rw [List.length_nil] at hc
    obtain ⟨b, rfl⟩ : ∃ b, st = [b] := by
      have hw : st.length = 1 := hw
      match st, hw with
      | [b], _ => exact ⟨b, rfl⟩
    have hb := pR_top hst
    rw [List.length_nil] at hb
    refine qm_go 5 (fun P hP => Exists.intro (c9) (And.intro (And.intro (rfl) (hc9)) (hP ?_)))
    refine qm_go 1 (fun P hP => And.intro (fun _ => hP ?_) (fun c => absurd (by rw [f0.1 _ _ _ (show ¬ (61 : Nat) = 65 by decide), hto]; exact nI_le (by omega) (by omega)) c))
    refine qm_go 4 (fun P hP => Exists.intro (0) (And.intro (And.intro (rfl) ((show 0 < 100 by decide))) (hP ?_)))
    rw [hb]
    refine qm_go 1 (fun P hP => And.intro (by cases b <;> rfl) (h σ b f0 rfl))
  | 0 :: ts, st, c, l5, l6, l7, σ, f0, hst, hc, hk, hw, hl, h => by
    have ec : σ0.1 62 0 c = -33 := hk 0 0 rfl
    rw [List.length_cons] at hc
    match st, hw, hl, h, hst with
    | [], hw, hl, h, hst => exact absurd hw.1 (by decide)
    | b :: st, hw, hl, h, hst =>
      have hb := pR_top hst
      have hn : nI (b :: st).length - 1 = nI st.length := nI_pred _
      have hl6 : st.length < 100 := by rw [List.length_cons] at hl; omega
      refine qm_go 5 (fun P hP => Exists.intro (c9) (And.intro (And.intro (rfl) (hc9)) (hP ?_)))
      refine qm_go 1 (fun P hP => And.intro (fun c => absurd c (by rw [f0.1 _ _ _ (show ¬ (61 : Nat) = 65 by decide), hto]; exact nI_ge (by omega) (by omega))) (fun _ => hP ?_))
      refine qm_go 4 (fun P hP => Exists.intro (c) (And.intro (And.intro (rfl) ((show c < 600 by omega))) (hP ?_)))
      rw [f0.1 62 0 c (show ¬ (62 : Nat) = 65 by decide), ec]
      refine qm_go 4 (fun P hP => And.intro (fun c => absurd rfl c) (fun _ => hP ?_))
      refine qm_go 11 (fun P hP => Exists.intro (st.length) (And.intro (And.intro (hn) (hl6)) (hP ?_)))
      rw [hb]
      refine qm_go 1 (fun P hP => And.intro (fun c32 => hP ?_) (fun c32 => hP ?_))
      · refine qm_go 2 (fun P hP => Exists.intro (st.length) (And.intro (And.intro (hn) (hl6)) (hP ?_)))
        refine qm_go 3 (fun P hP => hP ?_)
        rw [nI_1]
        first
          | (have eb := bt_ne c32; subst eb; exact m_holds_l hd hp hc9 he hto hkd hvv hv ts (false :: st) (c + 1) _ _ _ _ (f0.tr (Fr.wA (fun _ => rfl))) (pR_set [true] false vpb0 hst) (by omega) (fun k t ht => by rw [show c + 1 + k = c + (k + 1) by omega]; exact hk (k + 1) t ht) hw.2 (by simp only [List.length_cons] at hl ⊢; omega) h)
          | (have eb := bt_eq c32; subst eb; exact m_holds_l hd hp hc9 he hto hkd hvv hv ts (true :: st) (c + 1) _ _ _ _ (f0.tr (Fr.wA (fun _ => rfl))) (pR_set [false] true vpb1 hst) (by omega) (fun k t ht => by rw [show c + 1 + k = c + (k + 1) by omega]; exact hk (k + 1) t ht) hw.2 (by simp only [List.length_cons] at hl ⊢; omega) h)
      · refine qm_go 3 (fun P hP => Exists.intro (st.length) (And.intro (And.intro (hn) (hl6)) (hP ?_)))
        refine qm_go 3 (fun P hP => hP ?_)
        rw [nI_1]
        first
          | (have eb := bt_ne c32; subst eb; exact m_holds_l hd hp hc9 he hto hkd hvv hv ts (false :: st) (c + 1) _ _ _ _ (f0.tr (Fr.wA (fun _ => rfl))) (pR_set [true] false vpb0 hst) (by omega) (fun k t ht => by rw [show c + 1 + k = c + (k + 1) by omega]; exact hk (k + 1) t ht) hw.2 (by simp only [List.length_cons] at hl ⊢; omega) h)
          | (have eb := bt_eq c32; subst eb; exact m_holds_l hd hp hc9 he hto hkd hvv hv ts (true :: st) (c + 1) _ _ _ _ (f0.tr (Fr.wA (fun _ => rfl))) (pR_set [false] true vpb1 hst) (by omega) (fun k t ht => by rw [show c + 1 + k = c + (k + 1) by omega]; exact hk (k + 1) t ht) hw.2 (by simp only [List.length_cons] at hl ⊢; omega) h)
  | 1 :: ts, st, c, l5, l6, l7, σ, f0, hst, hc, hk, hw, hl, h => by
    have ec : σ0.1 62 0 c = -38 := hk 0 1 rfl
    rw [List.length_cons] at hc
    match st, hw, hl, h, hst with
    | [], hw, hl, h, hst => exact absurd hw.1 (by decide)
    | [_], hw, hl, h, hst => exact absurd hw.1 (by simp)
    | b :: a :: st, hw, hl, h, hst =>
      obtain ⟨hb, ha⟩ := pR_2 hst
      have hm : nI (b :: a :: st).length + (-1) = nI (st.length + 1) := pk_m1 _
      have hn : nI (st.length + 1) - 1 = nI st.length := nI_pred _
      have hl6 : st.length + 1 < 100 := by simp only [List.length_cons] at hl; omega
      refine qm_go 5 (fun P hP => Exists.intro (c9) (And.intro (And.intro (rfl) (hc9)) (hP ?_)))
      refine qm_go 1 (fun P hP => And.intro (fun c => absurd c (by rw [f0.1 _ _ _ (show ¬ (61 : Nat) = 65 by decide), hto]; exact nI_ge (by omega) (by omega))) (fun _ => hP ?_))
      refine qm_go 4 (fun P hP => Exists.intro (c) (And.intro (And.intro (rfl) ((show c < 600 by omega))) (hP ?_)))
      rw [f0.1 62 0 c (show ¬ (62 : Nat) = 65 by decide), ec]
      refine qm_go 4 (fun P hP => And.intro (fun _ => hP ?_) (fun c => absurd c (by decide)))
      refine qm_go 2 (fun P hP => And.intro (fun c => absurd c (by decide)) (fun _ => hP ?_))
      refine qm_go 1 (fun P hP => hP ?_)
      rw [hm]
      refine qm_go 8 (fun P hP => And.intro (fun c => absurd rfl c) (fun _ => hP ?_))
      refine qm_go 6 (fun P hP => Exists.intro (st.length) (And.intro (And.intro (hn) ((show st.length < 100 by omega))) (hP ?_)))
      rw [ha]
      refine qm_go 1 (fun P hP => And.intro (fun c55 => hP ?_) (fun c55 => hP ?_))
      · refine qm_go 3 (fun P hP => Exists.intro (st.length) (And.intro (And.intro (hn) ((show st.length < 100 by omega))) (hP ?_)))
        refine qm_go 3 (fun P hP => hP ?_)
        rw [nI_1]
        first
          | (have eb := bt_eq c60; have ea := bt_ne c55; subst eb; subst ea; exact m_holds_l hd hp hc9 he hto hkd hvv hv ts (false :: st) (c + 1) _ _ _ _ (f0.tr (Fr.wA (fun _ => rfl))) (pR_set [false, true] false vpb0 hst) (by omega) (fun k t ht => by rw [show c + 1 + k = c + (k + 1) by omega]; exact hk (k + 1) t ht) hw.2 (by simp only [List.length_cons] at hl ⊢; omega) h)
          | (have eb := bt_ne c60; have ea := bt_ne c55; subst eb; subst ea; exact m_holds_l hd hp hc9 he hto hkd hvv hv ts (true :: st) (c + 1) _ _ _ _ (f0.tr (Fr.wA (fun _ => rfl))) (pR_set [true, true] true vpb1 hst) (by omega) (fun k t ht => by rw [show c + 1 + k = c + (k + 1) by omega]; exact hk (k + 1) t ht) hw.2 (by simp only [List.length_cons] at hl ⊢; omega) h)
          | (have ea := bt_eq c55; subst ea; have h : ∀ σ' b', Fr (fun t _ _ => t = 65) σ0 σ' → (evT (fxD kd vv D p) ts (false :: st)).headD false = b' → Q σ' (some (vI (nI b'.toNat))) := h
             exact m_holds_l hd hp hc9 he hto hkd hvv hv ts (false :: st) (c + 1) _ _ _ _ (f0.tr (Fr.wA (fun _ => rfl))) (pR_set [b, false] false vpb0 hst) (by omega) (fun k t ht => by rw [show c + 1 + k = c + (k + 1) by omega]; exact hk (k + 1) t ht) hw.2 (by simp only [List.length_cons] at hl ⊢; omega) h)
      · refine qm_go 4 (fun P hP => Exists.intro (st.length + 1) (And.intro (And.intro (rfl) (hl6)) (hP ?_)))
        rw [hb]
        refine qm_go 1 (fun P hP => And.intro (fun c60 => hP ?_) (fun c60 => hP ?_))
        · refine qm_go 3 (fun P hP => Exists.intro (st.length) (And.intro (And.intro (hn) ((show st.length < 100 by omega))) (hP ?_)))
          refine qm_go 3 (fun P hP => hP ?_)
          rw [nI_1]
          first
            | (have eb := bt_eq c60; have ea := bt_ne c55; subst eb; subst ea; exact m_holds_l hd hp hc9 he hto hkd hvv hv ts (false :: st) (c + 1) _ _ _ _ (f0.tr (Fr.wA (fun _ => rfl))) (pR_set [false, true] false vpb0 hst) (by omega) (fun k t ht => by rw [show c + 1 + k = c + (k + 1) by omega]; exact hk (k + 1) t ht) hw.2 (by simp only [List.length_cons] at hl ⊢; omega) h)
            | (have eb := bt_ne c60; have ea := bt_ne c55; subst eb; subst ea; exact m_holds_l hd hp hc9 he hto hkd hvv hv ts (true :: st) (c + 1) _ _ _ _ (f0.tr (Fr.wA (fun _ => rfl))) (pR_set [true, true] true vpb1 hst) (by omega) (fun k t ht => by rw [show c + 1 + k = c + (k + 1) by omega]; exact hk (k + 1) t ht) hw.2 (by simp only [List.length_cons] at hl ⊢; omega) h)
            | (have ea := bt_eq c55; subst ea; have h : ∀ σ' b', Fr (fun t _ _ => t = 65) σ0 σ' → (evT (fxD kd vv D p) ts (false :: st)).headD false = b' → Q σ' (some (vI (nI b'.toNat))) := h
               exact m_holds_l hd hp hc9 he hto hkd hvv hv ts (false :: st) (c + 1) _ _ _ _ (f0.tr (Fr.wA (fun _ => rfl))) (pR_set [b, false] false vpb0 hst) (by omega) (fun k t ht => by rw [show c + 1 + k = c + (k + 1) by omega]; exact hk (k + 1) t ht) hw.2 (by simp only [List.length_cons] at hl ⊢; omega) h)
        · refine qm_go 3 (fun P hP => Exists.intro (st.length) (And.intro (And.intro (hn) ((show st.length < 100 by omega))) (hP ?_)))
          refine qm_go 3 (fun P hP => hP ?_)
          rw [nI_1]
          first
            | (have eb := bt_eq c60; have ea := bt_ne c55; subst eb; subst ea; exact m_holds_l hd hp hc9 he hto hkd hvv hv ts (false :: st) (c + 1) _ _ _ _ (f0.tr (Fr.wA (fun _ => rfl))) (pR_set [false, true] false vpb0 hst) (by omega) (fun k t ht => by rw [show c + 1 + k = c + (k + 1) by omega]; exact hk (k + 1) t ht) hw.2 (by simp only [List.length_cons] at hl ⊢; omega) h)
            | (have eb := bt_ne c60; have ea := bt_ne c55; subst eb; subst ea; exact m_holds_l hd hp hc9 he hto hkd hvv hv ts (true :: st) (c + 1) _ _ _ _ (f0.tr (Fr.wA (fun _ => rfl))) (pR_set [true, true] true vpb1 hst) (by omega) (fun k t ht => by rw [show c + 1 + k = c + (k + 1) by omega]; exact hk (k + 1) t ht) hw.2 (by simp only [List.length_cons] at hl ⊢; omega) h)
            | (have ea := bt_eq c55; subst ea; have h : ∀ σ' b', Fr (fun t _ _ => t = 65) σ0 σ' → (evT (fxD kd vv D p) ts (false :: st)).headD false = b' → Q σ' (some (vI (nI b'.toNat))) := h
               exact m_holds_l hd hp hc9 he hto hkd hvv hv ts (false :: st) (c + 1) _ _ _ _ (f0.tr (Fr.wA (fun _ => rfl))) (pR_set [b, false] false vpb0 hst) (by omega) (fun k t ht => by rw [show c + 1 + k = c + (k + 1) by omega]; exact hk (k + 1) t ht) hw.2 (by simp only [List.length_cons] at hl ⊢; omega) h)
  | 2 :: ts, st, c, l5, l6, l7, σ, f0, hst, hc, hk, hw, hl, h => by
    have ec : σ0.1 62 0 c = -124 := hk 0 2 rfl
    rw [List.length_cons] at hc
    match st, hw, hl, h, hst with
    | [], hw, hl, h, hst => exact absurd hw.1 (by decide)
    | [_], hw, hl, h, hst => exact absurd hw.1 (by simp)
    | b :: a :: st, hw, hl, h, hst =>
      obtain ⟨hb, ha⟩ := pR_2 hst
      have hm : nI (b :: a :: st).length + (-1) = nI (st.length + 1) := pk_m1 _
      have hn : nI (st.length + 1) - 1 = nI st.length := nI_pred _
      have hl6 : st.length + 1 < 100 := by simp only [List.length_cons] at hl; omega
      refine qm_go 5 (fun P hP => Exists.intro (c9) (And.intro (And.intro (rfl) (hc9)) (hP ?_)))
      refine qm_go 1 (fun P hP => And.intro (fun c => absurd c (by rw [f0.1 _ _ _ (show ¬ (61 : Nat) = 65 by decide), hto]; exact nI_ge (by omega) (by omega))) (fun _ => hP ?_))
      refine qm_go 4 (fun P hP => Exists.intro (c) (And.intro (And.intro (rfl) ((show c < 600 by omega))) (hP ?_)))
      rw [f0.1 62 0 c (show ¬ (62 : Nat) = 65 by decide), ec]
      refine qm_go 4 (fun P hP => And.intro (fun _ => hP ?_) (fun c => absurd c (by decide)))
      refine qm_go 2 (fun P hP => And.intro (fun c => absurd c (by decide)) (fun _ => hP ?_))
      refine qm_go 1 (fun P hP => hP ?_)
      rw [hm]
      refine qm_go 8 (fun P hP => And.intro (fun _ => hP ?_) (fun c => absurd c (by decide)))
      refine qm_go 6 (fun P hP => Exists.intro (st.length) (And.intro (And.intro (hn) ((show st.length < 100 by omega))) (hP ?_)))
      rw [ha]
      refine qm_go 1 (fun P hP => And.intro (fun c71 => hP ?_) (fun c71 => hP ?_))
      · refine qm_go 3 (fun P hP => Exists.intro (st.length) (And.intro (And.intro (hn) ((show st.length < 100 by omega))) (hP ?_)))
        refine qm_go 3 (fun P hP => hP ?_)
        rw [nI_1]
        first
          | (have eb := bt_eq c76; have ea := bt_eq c71; subst eb; subst ea; exact m_holds_l hd hp hc9 he hto hkd hvv hv ts (false :: st) (c + 1) _ _ _ _ (f0.tr (Fr.wA (fun _ => rfl))) (pR_set [false, false] false vpb0 hst) (by omega) (fun k t ht => by rw [show c + 1 + k = c + (k + 1) by omega]; exact hk (k + 1) t ht) hw.2 (by simp only [List.length_cons] at hl ⊢; omega) h)
          | (have eb := bt_ne c76; have ea := bt_eq c71; subst eb; subst ea; exact m_holds_l hd hp hc9 he hto hkd hvv hv ts (true :: st) (c + 1) _ _ _ _ (f0.tr (Fr.wA (fun _ => rfl))) (pR_set [true, false] true vpb1 hst) (by omega) (fun k t ht => by rw [show c + 1 + k = c + (k + 1) by omega]; exact hk (k + 1) t ht) hw.2 (by simp only [List.length_cons] at hl ⊢; omega) h)
          | (have ea := bt_ne c71; subst ea; have h : ∀ σ' b', Fr (fun t _ _ => t = 65) σ0 σ' → (evT (fxD kd vv D p) ts (true :: st)).headD false = b' → Q σ' (some (vI (nI b'.toNat))) := h
             exact m_holds_l hd hp hc9 he hto hkd hvv hv ts (true :: st) (c + 1) _ _ _ _ (f0.tr (Fr.wA (fun _ => rfl))) (pR_set [b, true] true vpb1 hst) (by omega) (fun k t ht => by rw [show c + 1 + k = c + (k + 1) by omega]; exact hk (k + 1) t ht) hw.2 (by simp only [List.length_cons] at hl ⊢; omega) h)
      · refine qm_go 4 (fun P hP => Exists.intro (st.length + 1) (And.intro (And.intro (rfl) (hl6)) (hP ?_)))
        rw [hb]
        refine qm_go 1 (fun P hP => And.intro (fun c76 => hP ?_) (fun c76 => hP ?_))
        · refine qm_go 2 (fun P hP => Exists.intro (st.length) (And.intro (And.intro (hn) ((show st.length < 100 by omega))) (hP ?_)))
          refine qm_go 3 (fun P hP => hP ?_)
          rw [nI_1]
          first
            | (have eb := bt_eq c76; have ea := bt_eq c71; subst eb; subst ea; exact m_holds_l hd hp hc9 he hto hkd hvv hv ts (false :: st) (c + 1) _ _ _ _ (f0.tr (Fr.wA (fun _ => rfl))) (pR_set [false, false] false vpb0 hst) (by omega) (fun k t ht => by rw [show c + 1 + k = c + (k + 1) by omega]; exact hk (k + 1) t ht) hw.2 (by simp only [List.length_cons] at hl ⊢; omega) h)
            | (have eb := bt_ne c76; have ea := bt_eq c71; subst eb; subst ea; exact m_holds_l hd hp hc9 he hto hkd hvv hv ts (true :: st) (c + 1) _ _ _ _ (f0.tr (Fr.wA (fun _ => rfl))) (pR_set [true, false] true vpb1 hst) (by omega) (fun k t ht => by rw [show c + 1 + k = c + (k + 1) by omega]; exact hk (k + 1) t ht) hw.2 (by simp only [List.length_cons] at hl ⊢; omega) h)
            | (have ea := bt_ne c71; subst ea; have h : ∀ σ' b', Fr (fun t _ _ => t = 65) σ0 σ' → (evT (fxD kd vv D p) ts (true :: st)).headD false = b' → Q σ' (some (vI (nI b'.toNat))) := h
               exact m_holds_l hd hp hc9 he hto hkd hvv hv ts (true :: st) (c + 1) _ _ _ _ (f0.tr (Fr.wA (fun _ => rfl))) (pR_set [b, true] true vpb1 hst) (by omega) (fun k t ht => by rw [show c + 1 + k = c + (k + 1) by omega]; exact hk (k + 1) t ht) hw.2 (by simp only [List.length_cons] at hl ⊢; omega) h)
        · refine qm_go 3 (fun P hP => Exists.intro (st.length) (And.intro (And.intro (hn) ((show st.length < 100 by omega))) (hP ?_)))
          refine qm_go 3 (fun P hP => hP ?_)
          rw [nI_1]
          first
            | (have eb := bt_eq c76; have ea := bt_eq c71; subst eb; subst ea; exact m_holds_l hd hp hc9 he hto hkd hvv hv ts (false :: st) (c + 1) _ _ _ _ (f0.tr (Fr.wA (fun _ => rfl))) (pR_set [false, false] false vpb0 hst) (by omega) (fun k t ht => by rw [show c + 1 + k = c + (k + 1) by omega]; exact hk (k + 1) t ht) hw.2 (by simp only [List.length_cons] at hl ⊢; omega) h)
            | (have eb := bt_ne c76; have ea := bt_eq c71; subst eb; subst ea; exact m_holds_l hd hp hc9 he hto hkd hvv hv ts (true :: st) (c + 1) _ _ _ _ (f0.tr (Fr.wA (fun _ => rfl))) (pR_set [true, false] true vpb1 hst) (by omega) (fun k t ht => by rw [show c + 1 + k = c + (k + 1) by omega]; exact hk (k + 1) t ht) hw.2 (by simp only [List.length_cons] at hl ⊢; omega) h)
            | (have ea := bt_ne c71; subst ea; have h : ∀ σ' b', Fr (fun t _ _ => t = 65) σ0 σ' → (evT (fxD kd vv D p) ts (true :: st)).headD false = b' → Q σ' (some (vI (nI b'.toNat))) := h
               exact m_holds_l hd hp hc9 he hto hkd hvv hv ts (true :: st) (c + 1) _ _ _ _ (f0.tr (Fr.wA (fun _ => rfl))) (pR_set [b, true] true vpb1 hst) (by omega) (fun k t ht => by rw [show c + 1 + k = c + (k + 1) by omega]; exact hk (k + 1) t ht) hw.2 (by simp only [List.length_cons] at hl ⊢; omega) h)
  | (k + 3) :: ts, st, c, l5, l6, l7, σ, f0, hst, hc, hk, hw, hl, h => by
    have ec : σ0.1 62 0 c = nI (1000 * (k / 300) + 100 * (k / 100 % 3) + k % 100) := hk 0 (k + 3) rfl
    rw [List.length_cons] at hc
    obtain ⟨w1, w2, w3⟩ := hw
    have hu : 1000 * (k / 300) + 100 * (k / 100 % 3) + k % 100 < 10000 := by omega
    have q1 : nI (1000 * (k / 300) + 100 * (k / 100 % 3) + k % 100) / 1000 = nI (k / 300) := by rw [show (1000 : Int32) = nI 1000 from rfl, pk_div (by omega) (by decide) (by decide), m_u1]
    have q2 : nI (1000 * (k / 300) + 100 * (k / 100 % 3) + k % 100) / 100 - nI (1000 * (k / 300) + 100 * (k / 100 % 3) + k % 100) / 100 / 10 * 10 = nI (k / 100 % 3) := by
      rw [show (100 : Int32) = nI 100 from rfl, pk_div (by omega) (by decide) (by decide), show (10 : Int32) = nI 10 from rfl, pk_rem (by omega) (by decide) (by decide), m_u2]
    have q3 : nI (1000 * (k / 300) + 100 * (k / 100 % 3) + k % 100) - nI (1000 * (k / 300) + 100 * (k / 100 % 3) + k % 100) / 100 * 100 = nI (k % 100) := by
      rw [show (100 : Int32) = nI 100 from rfl, pk_rem (by omega) (by decide) (by decide), m_u3]
    generalize hug : 1000 * (k / 300) + 100 * (k / 100 % 3) + k % 100 = u at ec hu q1 q2 q3
    have kd' : σ.1 51 0 = kd := (f0.row (fun j => show ¬ (51 : Nat) = 65 by decide)).trans hkd
    have vv' : σ.1 52 0 = vv := (f0.row (fun j => show ¬ (52 : Nat) = 65 by decide)).trans hvv
    have v' : vM σ D := hv.fr f0
    refine qm_go 5 (fun P hP => Exists.intro (c9) (And.intro (And.intro (rfl) (hc9)) (hP ?_)))
    refine qm_go 1 (fun P hP => And.intro (fun c => absurd c (by rw [f0.1 _ _ _ (show ¬ (61 : Nat) = 65 by decide), hto]; exact nI_ge (by omega) (by omega))) (fun _ => hP ?_))
    refine qm_go 4 (fun P hP => Exists.intro (c) (And.intro (And.intro (rfl) ((show c < 600 by omega))) (hP ?_)))
    rw [f0.1 62 0 c (show ¬ (62 : Nat) = 65 by decide), ec]
    refine qm_go 4 (fun P hP => And.intro (fun _ => hP ?_) (fun c => absurd c (by rw [i_eq, nI_toInt (by omega)]; show ¬ ((u : Int) = -33); omega)))
    refine qm_go 2 (fun P hP => And.intro (fun _ => hP ?_) (fun c => absurd (nI_pos' (by omega)) c))
    refine qm_go 4 (fun P hP => And.intro (by decide) (hP ?_))
    refine qm_go 1 (fun P hP => hP ?_)
    rw [q1]
    refine qm_go 1 (fun P hP => m_factOf (kd := kd) (vv := vv) (D := D) (by omega) hp (show k / 300 < 6 by omega) kd' vv' v' (hP ?_))
    refine qm_go 4 (fun P hP => And.intro (by decide) (hP ?_))
    refine qm_go 2 (fun P hP => And.intro (by decide) (hP ?_))
    refine qm_go 6 (fun P hP => And.intro (fun c99 => hP ?_) (fun c99 => hP ?_))
    · refine qm_go 3 (fun P hP => And.intro (fun c111 => hP ?_) (fun c111 => hP ?_))
      · refine qm_go 4 (fun P hP => And.intro (by decide) (hP ?_))
        refine qm_go 1 (fun P hP => And.intro (fun c125 => hP ?_) (fun c125 => hP ?_))
        · refine qm_go 2 (fun P hP => Exists.intro (st.length) (And.intro (And.intro (rfl) ((show st.length < 100 by omega))) (hP ?_)))
          refine qm_go 3 (fun P hP => hP ?_)
          rw [nI_1, nI_1]
          rw [q2] at c99
          first
            | (rw [q3] at c104
               have z0 : k / 100 % 3 = 0 := (nI_eq (b := 0) (by omega) (by decide)).mp c99
               first
                 | (exact m_holds_l hd hp hc9 he hto hkd hvv hv ts (false :: st) (c + 1) _ _ _ _ (f0.tr (Fr.wA (fun _ => rfl))) (pR_set [] false vpb0 hst) (by omega) (fun k t ht => by rw [show c + 1 + k = c + (k + 1) by omega]; exact hk (k + 1) t ht) w3 (by simp only [List.length_cons] at hl ⊢; omega) (fun σ' b' f' e' => h σ' b' f' (by show (evT (fxD kd vv D p) ts (tstT k (fxD kd vv D p) :: st)).headD false = b'; rw [show tstT k (fxD kd vv D p) = false from (by unfold tstT; rw [if_pos z0]; exact decide_eq_false (i_nlt c104))]; exact e')))
                 | (exact m_holds_l hd hp hc9 he hto hkd hvv hv ts (true :: st) (c + 1) _ _ _ _ (f0.tr (Fr.wA (fun _ => rfl))) (pR_set [] true vpb1 hst) (by omega) (fun k t ht => by rw [show c + 1 + k = c + (k + 1) by omega]; exact hk (k + 1) t ht) w3 (by simp only [List.length_cons] at hl ⊢; omega) (fun σ' b' f' e' => h σ' b' f' (by show (evT (fxD kd vv D p) ts (tstT k (fxD kd vv D p) :: st)).headD false = b'; rw [show tstT k (fxD kd vv D p) = true from (by unfold tstT; rw [if_pos z0]; exact decide_eq_true (i_lt_of c104))]; exact e'))))
            | (rw [q2] at c111
               have z0 : ¬ k / 100 % 3 = 0 := fun z => c99 (by rw [z]; rfl)
               first
                 | (rw [q3] at c116
                    have z1 : k / 100 % 3 = 1 := (nI_eq (b := 1) (by omega) (by decide)).mp c111
                    first
                      | (exact m_holds_l hd hp hc9 he hto hkd hvv hv ts (false :: st) (c + 1) _ _ _ _ (f0.tr (Fr.wA (fun _ => rfl))) (pR_set [] false vpb0 hst) (by omega) (fun k t ht => by rw [show c + 1 + k = c + (k + 1) by omega]; exact hk (k + 1) t ht) w3 (by simp only [List.length_cons] at hl ⊢; omega) (fun σ' b' f' e' => h σ' b' f' (by show (evT (fxD kd vv D p) ts (tstT k (fxD kd vv D p) :: st)).headD false = b'; rw [show tstT k (fxD kd vv D p) = false from (by unfold tstT; rw [if_neg z0, if_pos z1]; exact decide_eq_false c116)]; exact e')))
                      | (exact m_holds_l hd hp hc9 he hto hkd hvv hv ts (true :: st) (c + 1) _ _ _ _ (f0.tr (Fr.wA (fun _ => rfl))) (pR_set [] true vpb1 hst) (by omega) (fun k t ht => by rw [show c + 1 + k = c + (k + 1) by omega]; exact hk (k + 1) t ht) w3 (by simp only [List.length_cons] at hl ⊢; omega) (fun σ' b' f' e' => h σ' b' f' (by show (evT (fxD kd vv D p) ts (tstT k (fxD kd vv D p) :: st)).headD false = b'; rw [show tstT k (fxD kd vv D p) = true from (by unfold tstT; rw [if_neg z0, if_pos z1]; exact decide_eq_true c116)]; exact e'))))
                 | (rw [q3] at c125
                    have z1 : ¬ k / 100 % 3 = 1 := fun z => c111 (by rw [z]; rfl)
                    first
                      | (exact m_holds_l hd hp hc9 he hto hkd hvv hv ts (false :: st) (c + 1) _ _ _ _ (f0.tr (Fr.wA (fun _ => rfl))) (pR_set [] false vpb0 hst) (by omega) (fun k t ht => by rw [show c + 1 + k = c + (k + 1) by omega]; exact hk (k + 1) t ht) w3 (by simp only [List.length_cons] at hl ⊢; omega) (fun σ' b' f' e' => h σ' b' f' (by show (evT (fxD kd vv D p) ts (tstT k (fxD kd vv D p) :: st)).headD false = b'; rw [show tstT k (fxD kd vv D p) = false from (by unfold tstT; rw [if_neg z0, if_neg z1]; exact decide_eq_false (fun q => i_nle q c125))]; exact e')))
                      | (exact m_holds_l hd hp hc9 he hto hkd hvv hv ts (true :: st) (c + 1) _ _ _ _ (f0.tr (Fr.wA (fun _ => rfl))) (pR_set [] true vpb1 hst) (by omega) (fun k t ht => by rw [show c + 1 + k = c + (k + 1) by omega]; exact hk (k + 1) t ht) w3 (by simp only [List.length_cons] at hl ⊢; omega) (fun σ' b' f' e' => h σ' b' f' (by show (evT (fxD kd vv D p) ts (tstT k (fxD kd vv D p) :: st)).headD false = b'; rw [show tstT k (fxD kd vv D p) = true from (by unfold tstT; rw [if_neg z0, if_neg z1]; exact decide_eq_true (i_lt_of c125))]; exact e')))))
        · refine qm_go 3 (fun P hP => Exists.intro (st.length) (And.intro (And.intro (rfl) ((show st.length < 100 by omega))) (hP ?_)))
          refine qm_go 3 (fun P hP => hP ?_)
          rw [nI_1, nI_1]
          rw [q2] at c99
          first
            | (rw [q3] at c104
               have z0 : k / 100 % 3 = 0 := (nI_eq (b := 0) (by omega) (by decide)).mp c99
               first
                 | (exact m_holds_l hd hp hc9 he hto hkd hvv hv ts (false :: st) (c + 1) _ _ _ _ (f0.tr (Fr.wA (fun _ => rfl))) (pR_set [] false vpb0 hst) (by omega) (fun k t ht => by rw [show c + 1 + k = c + (k + 1) by omega]; exact hk (k + 1) t ht) w3 (by simp only [List.length_cons] at hl ⊢; omega) (fun σ' b' f' e' => h σ' b' f' (by show (evT (fxD kd vv D p) ts (tstT k (fxD kd vv D p) :: st)).headD false = b'; rw [show tstT k (fxD kd vv D p) = false from (by unfold tstT; rw [if_pos z0]; exact decide_eq_false (i_nlt c104))]; exact e')))
                 | (exact m_holds_l hd hp hc9 he hto hkd hvv hv ts (true :: st) (c + 1) _ _ _ _ (f0.tr (Fr.wA (fun _ => rfl))) (pR_set [] true vpb1 hst) (by omega) (fun k t ht => by rw [show c + 1 + k = c + (k + 1) by omega]; exact hk (k + 1) t ht) w3 (by simp only [List.length_cons] at hl ⊢; omega) (fun σ' b' f' e' => h σ' b' f' (by show (evT (fxD kd vv D p) ts (tstT k (fxD kd vv D p) :: st)).headD false = b'; rw [show tstT k (fxD kd vv D p) = true from (by unfold tstT; rw [if_pos z0]; exact decide_eq_true (i_lt_of c104))]; exact e'))))
            | (rw [q2] at c111
               have z0 : ¬ k / 100 % 3 = 0 := fun z => c99 (by rw [z]; rfl)
               first
                 | (rw [q3] at c116
                    have z1 : k / 100 % 3 = 1 := (nI_eq (b := 1) (by omega) (by decide)).mp c111
                    first
                      | (exact m_holds_l hd hp hc9 he hto hkd hvv hv ts (false :: st) (c + 1) _ _ _ _ (f0.tr (Fr.wA (fun _ => rfl))) (pR_set [] false vpb0 hst) (by omega) (fun k t ht => by rw [show c + 1 + k = c + (k + 1) by omega]; exact hk (k + 1) t ht) w3 (by simp only [List.length_cons] at hl ⊢; omega) (fun σ' b' f' e' => h σ' b' f' (by show (evT (fxD kd vv D p) ts (tstT k (fxD kd vv D p) :: st)).headD false = b'; rw [show tstT k (fxD kd vv D p) = false from (by unfold tstT; rw [if_neg z0, if_pos z1]; exact decide_eq_false c116)]; exact e')))
                      | (exact m_holds_l hd hp hc9 he hto hkd hvv hv ts (true :: st) (c + 1) _ _ _ _ (f0.tr (Fr.wA (fun _ => rfl))) (pR_set [] true vpb1 hst) (by omega) (fun k t ht => by rw [show c + 1 + k = c + (k + 1) by omega]; exact hk (k + 1) t ht) w3 (by simp only [List.length_cons] at hl ⊢; omega) (fun σ' b' f' e' => h σ' b' f' (by show (evT (fxD kd vv D p) ts (tstT k (fxD kd vv D p) :: st)).headD false = b'; rw [show tstT k (fxD kd vv D p) = true from (by unfold tstT; rw [if_neg z0, if_pos z1]; exact decide_eq_true c116)]; exact e'))))
                 | (rw [q3] at c125
                    have z1 : ¬ k / 100 % 3 = 1 := fun z => c111 (by rw [z]; rfl)
                    first
                      | (exact m_holds_l hd hp hc9 he hto hkd hvv hv ts (false :: st) (c + 1) _ _ _ _ (f0.tr (Fr.wA (fun _ => rfl))) (pR_set [] false vpb0 hst) (by omega) (fun k t ht => by rw [show c + 1 + k = c + (k + 1) by omega]; exact hk (k + 1) t ht) w3 (by simp only [List.length_cons] at hl ⊢; omega) (fun σ' b' f' e' => h σ' b' f' (by show (evT (fxD kd vv D p) ts (tstT k (fxD kd vv D p) :: st)).headD false = b'; rw [show tstT k (fxD kd vv D p) = false from (by unfold tstT; rw [if_neg z0, if_neg z1]; exact decide_eq_false (fun q => i_nle q c125))]; exact e')))
                      | (exact m_holds_l hd hp hc9 he hto hkd hvv hv ts (true :: st) (c + 1) _ _ _ _ (f0.tr (Fr.wA (fun _ => rfl))) (pR_set [] true vpb1 hst) (by omega) (fun k t ht => by rw [show c + 1 + k = c + (k + 1) by omega]; exact hk (k + 1) t ht) w3 (by simp only [List.length_cons] at hl ⊢; omega) (fun σ' b' f' e' => h σ' b' f' (by show (evT (fxD kd vv D p) ts (tstT k (fxD kd vv D p) :: st)).headD false = b'; rw [show tstT k (fxD kd vv D p) = true from (by unfold tstT; rw [if_neg z0, if_neg z1]; exact decide_eq_true (i_lt_of c125))]; exact e')))))
      · refine qm_go 4 (fun P hP => And.intro (by decide) (hP ?_))
        refine qm_go 1 (fun P hP => And.intro (fun c116 => hP ?_) (fun c116 => hP ?_))
        · refine qm_go 3 (fun P hP => Exists.intro (st.length) (And.intro (And.intro (rfl) ((show st.length < 100 by omega))) (hP ?_)))
          refine qm_go 3 (fun P hP => hP ?_)
          rw [nI_1, nI_1]
          rw [q2] at c99
          first
            | (rw [q3] at c104
               have z0 : k / 100 % 3 = 0 := (nI_eq (b := 0) (by omega) (by decide)).mp c99
               first
                 | (exact m_holds_l hd hp hc9 he hto hkd hvv hv ts (false :: st) (c + 1) _ _ _ _ (f0.tr (Fr.wA (fun _ => rfl))) (pR_set [] false vpb0 hst) (by omega) (fun k t ht => by rw [show c + 1 + k = c + (k + 1) by omega]; exact hk (k + 1) t ht) w3 (by simp only [List.length_cons] at hl ⊢; omega) (fun σ' b' f' e' => h σ' b' f' (by show (evT (fxD kd vv D p) ts (tstT k (fxD kd vv D p) :: st)).headD false = b'; rw [show tstT k (fxD kd vv D p) = false from (by unfold tstT; rw [if_pos z0]; exact decide_eq_false (i_nlt c104))]; exact e')))
                 | (exact m_holds_l hd hp hc9 he hto hkd hvv hv ts (true :: st) (c + 1) _ _ _ _ (f0.tr (Fr.wA (fun _ => rfl))) (pR_set [] true vpb1 hst) (by omega) (fun k t ht => by rw [show c + 1 + k = c + (k + 1) by omega]; exact hk (k + 1) t ht) w3 (by simp only [List.length_cons] at hl ⊢; omega) (fun σ' b' f' e' => h σ' b' f' (by show (evT (fxD kd vv D p) ts (tstT k (fxD kd vv D p) :: st)).headD false = b'; rw [show tstT k (fxD kd vv D p) = true from (by unfold tstT; rw [if_pos z0]; exact decide_eq_true (i_lt_of c104))]; exact e'))))
            | (rw [q2] at c111
               have z0 : ¬ k / 100 % 3 = 0 := fun z => c99 (by rw [z]; rfl)
               first
                 | (rw [q3] at c116
                    have z1 : k / 100 % 3 = 1 := (nI_eq (b := 1) (by omega) (by decide)).mp c111
                    first
                      | (exact m_holds_l hd hp hc9 he hto hkd hvv hv ts (false :: st) (c + 1) _ _ _ _ (f0.tr (Fr.wA (fun _ => rfl))) (pR_set [] false vpb0 hst) (by omega) (fun k t ht => by rw [show c + 1 + k = c + (k + 1) by omega]; exact hk (k + 1) t ht) w3 (by simp only [List.length_cons] at hl ⊢; omega) (fun σ' b' f' e' => h σ' b' f' (by show (evT (fxD kd vv D p) ts (tstT k (fxD kd vv D p) :: st)).headD false = b'; rw [show tstT k (fxD kd vv D p) = false from (by unfold tstT; rw [if_neg z0, if_pos z1]; exact decide_eq_false c116)]; exact e')))
                      | (exact m_holds_l hd hp hc9 he hto hkd hvv hv ts (true :: st) (c + 1) _ _ _ _ (f0.tr (Fr.wA (fun _ => rfl))) (pR_set [] true vpb1 hst) (by omega) (fun k t ht => by rw [show c + 1 + k = c + (k + 1) by omega]; exact hk (k + 1) t ht) w3 (by simp only [List.length_cons] at hl ⊢; omega) (fun σ' b' f' e' => h σ' b' f' (by show (evT (fxD kd vv D p) ts (tstT k (fxD kd vv D p) :: st)).headD false = b'; rw [show tstT k (fxD kd vv D p) = true from (by unfold tstT; rw [if_neg z0, if_pos z1]; exact decide_eq_true c116)]; exact e'))))
                 | (rw [q3] at c125
                    have z1 : ¬ k / 100 % 3 = 1 := fun z => c111 (by rw [z]; rfl)
                    first
                      | (exact m_holds_l hd hp hc9 he hto hkd hvv hv ts (false :: st) (c + 1) _ _ _ _ (f0.tr (Fr.wA (fun _ => rfl))) (pR_set [] false vpb0 hst) (by omega) (fun k t ht => by rw [show c + 1 + k = c + (k + 1) by omega]; exact hk (k + 1) t ht) w3 (by simp only [List.length_cons] at hl ⊢; omega) (fun σ' b' f' e' => h σ' b' f' (by show (evT (fxD kd vv D p) ts (tstT k (fxD kd vv D p) :: st)).headD false = b'; rw [show tstT k (fxD kd vv D p) = false from (by unfold tstT; rw [if_neg z0, if_neg z1]; exact decide_eq_false (fun q => i_nle q c125))]; exact e')))
                      | (exact m_holds_l hd hp hc9 he hto hkd hvv hv ts (true :: st) (c + 1) _ _ _ _ (f0.tr (Fr.wA (fun _ => rfl))) (pR_set [] true vpb1 hst) (by omega) (fun k t ht => by rw [show c + 1 + k = c + (k + 1) by omega]; exact hk (k + 1) t ht) w3 (by simp only [List.length_cons] at hl ⊢; omega) (fun σ' b' f' e' => h σ' b' f' (by show (evT (fxD kd vv D p) ts (tstT k (fxD kd vv D p) :: st)).headD false = b'; rw [show tstT k (fxD kd vv D p) = true from (by unfold tstT; rw [if_neg z0, if_neg z1]; exact decide_eq_true (i_lt_of c125))]; exact e')))))
        · refine qm_go 3 (fun P hP => Exists.intro (st.length) (And.intro (And.intro (rfl) ((show st.length < 100 by omega))) (hP ?_)))
          refine qm_go 3 (fun P hP => hP ?_)
          rw [nI_1, nI_1]
          rw [q2] at c99
          first
            | (rw [q3] at c104
               have z0 : k / 100 % 3 = 0 := (nI_eq (b := 0) (by omega) (by decide)).mp c99
               first
                 | (exact m_holds_l hd hp hc9 he hto hkd hvv hv ts (false :: st) (c + 1) _ _ _ _ (f0.tr (Fr.wA (fun _ => rfl))) (pR_set [] false vpb0 hst) (by omega) (fun k t ht => by rw [show c + 1 + k = c + (k + 1) by omega]; exact hk (k + 1) t ht) w3 (by simp only [List.length_cons] at hl ⊢; omega) (fun σ' b' f' e' => h σ' b' f' (by show (evT (fxD kd vv D p) ts (tstT k (fxD kd vv D p) :: st)).headD false = b'; rw [show tstT k (fxD kd vv D p) = false from (by unfold tstT; rw [if_pos z0]; exact decide_eq_false (i_nlt c104))]; exact e')))
                 | (exact m_holds_l hd hp hc9 he hto hkd hvv hv ts (true :: st) (c + 1) _ _ _ _ (f0.tr (Fr.wA (fun _ => rfl))) (pR_set [] true vpb1 hst) (by omega) (fun k t ht => by rw [show c + 1 + k = c + (k + 1) by omega]; exact hk (k + 1) t ht) w3 (by simp only [List.length_cons] at hl ⊢; omega) (fun σ' b' f' e' => h σ' b' f' (by show (evT (fxD kd vv D p) ts (tstT k (fxD kd vv D p) :: st)).headD false = b'; rw [show tstT k (fxD kd vv D p) = true from (by unfold tstT; rw [if_pos z0]; exact decide_eq_true (i_lt_of c104))]; exact e'))))
            | (rw [q2] at c111
               have z0 : ¬ k / 100 % 3 = 0 := fun z => c99 (by rw [z]; rfl)
               first
                 | (rw [q3] at c116
                    have z1 : k / 100 % 3 = 1 := (nI_eq (b := 1) (by omega) (by decide)).mp c111
                    first
                      | (exact m_holds_l hd hp hc9 he hto hkd hvv hv ts (false :: st) (c + 1) _ _ _ _ (f0.tr (Fr.wA (fun _ => rfl))) (pR_set [] false vpb0 hst) (by omega) (fun k t ht => by rw [show c + 1 + k = c + (k + 1) by omega]; exact hk (k + 1) t ht) w3 (by simp only [List.length_cons] at hl ⊢; omega) (fun σ' b' f' e' => h σ' b' f' (by show (evT (fxD kd vv D p) ts (tstT k (fxD kd vv D p) :: st)).headD false = b'; rw [show tstT k (fxD kd vv D p) = false from (by unfold tstT; rw [if_neg z0, if_pos z1]; exact decide_eq_false c116)]; exact e')))
                      | (exact m_holds_l hd hp hc9 he hto hkd hvv hv ts (true :: st) (c + 1) _ _ _ _ (f0.tr (Fr.wA (fun _ => rfl))) (pR_set [] true vpb1 hst) (by omega) (fun k t ht => by rw [show c + 1 + k = c + (k + 1) by omega]; exact hk (k + 1) t ht) w3 (by simp only [List.length_cons] at hl ⊢; omega) (fun σ' b' f' e' => h σ' b' f' (by show (evT (fxD kd vv D p) ts (tstT k (fxD kd vv D p) :: st)).headD false = b'; rw [show tstT k (fxD kd vv D p) = true from (by unfold tstT; rw [if_neg z0, if_pos z1]; exact decide_eq_true c116)]; exact e'))))
                 | (rw [q3] at c125
                    have z1 : ¬ k / 100 % 3 = 1 := fun z => c111 (by rw [z]; rfl)
                    first
                      | (exact m_holds_l hd hp hc9 he hto hkd hvv hv ts (false :: st) (c + 1) _ _ _ _ (f0.tr (Fr.wA (fun _ => rfl))) (pR_set [] false vpb0 hst) (by omega) (fun k t ht => by rw [show c + 1 + k = c + (k + 1) by omega]; exact hk (k + 1) t ht) w3 (by simp only [List.length_cons] at hl ⊢; omega) (fun σ' b' f' e' => h σ' b' f' (by show (evT (fxD kd vv D p) ts (tstT k (fxD kd vv D p) :: st)).headD false = b'; rw [show tstT k (fxD kd vv D p) = false from (by unfold tstT; rw [if_neg z0, if_neg z1]; exact decide_eq_false (fun q => i_nle q c125))]; exact e')))
                      | (exact m_holds_l hd hp hc9 he hto hkd hvv hv ts (true :: st) (c + 1) _ _ _ _ (f0.tr (Fr.wA (fun _ => rfl))) (pR_set [] true vpb1 hst) (by omega) (fun k t ht => by rw [show c + 1 + k = c + (k + 1) by omega]; exact hk (k + 1) t ht) w3 (by simp only [List.length_cons] at hl ⊢; omega) (fun σ' b' f' e' => h σ' b' f' (by show (evT (fxD kd vv D p) ts (tstT k (fxD kd vv D p) :: st)).headD false = b'; rw [show tstT k (fxD kd vv D p) = true from (by unfold tstT; rw [if_neg z0, if_neg z1]; exact decide_eq_true (i_lt_of c125))]; exact e')))))
    · refine qm_go 4 (fun P hP => And.intro (by decide) (hP ?_))
      refine qm_go 1 (fun P hP => And.intro (fun c104 => hP ?_) (fun c104 => hP ?_))
      · refine qm_go 3 (fun P hP => Exists.intro (st.length) (And.intro (And.intro (rfl) ((show st.length < 100 by omega))) (hP ?_)))
        refine qm_go 3 (fun P hP => hP ?_)
        rw [nI_1, nI_1]
        rw [q2] at c99
        first
          | (rw [q3] at c104
             have z0 : k / 100 % 3 = 0 := (nI_eq (b := 0) (by omega) (by decide)).mp c99
             first
               | (exact m_holds_l hd hp hc9 he hto hkd hvv hv ts (false :: st) (c + 1) _ _ _ _ (f0.tr (Fr.wA (fun _ => rfl))) (pR_set [] false vpb0 hst) (by omega) (fun k t ht => by rw [show c + 1 + k = c + (k + 1) by omega]; exact hk (k + 1) t ht) w3 (by simp only [List.length_cons] at hl ⊢; omega) (fun σ' b' f' e' => h σ' b' f' (by show (evT (fxD kd vv D p) ts (tstT k (fxD kd vv D p) :: st)).headD false = b'; rw [show tstT k (fxD kd vv D p) = false from (by unfold tstT; rw [if_pos z0]; exact decide_eq_false (i_nlt c104))]; exact e')))
               | (exact m_holds_l hd hp hc9 he hto hkd hvv hv ts (true :: st) (c + 1) _ _ _ _ (f0.tr (Fr.wA (fun _ => rfl))) (pR_set [] true vpb1 hst) (by omega) (fun k t ht => by rw [show c + 1 + k = c + (k + 1) by omega]; exact hk (k + 1) t ht) w3 (by simp only [List.length_cons] at hl ⊢; omega) (fun σ' b' f' e' => h σ' b' f' (by show (evT (fxD kd vv D p) ts (tstT k (fxD kd vv D p) :: st)).headD false = b'; rw [show tstT k (fxD kd vv D p) = true from (by unfold tstT; rw [if_pos z0]; exact decide_eq_true (i_lt_of c104))]; exact e'))))
          | (rw [q2] at c111
             have z0 : ¬ k / 100 % 3 = 0 := fun z => c99 (by rw [z]; rfl)
             first
               | (rw [q3] at c116
                  have z1 : k / 100 % 3 = 1 := (nI_eq (b := 1) (by omega) (by decide)).mp c111
                  first
                    | (exact m_holds_l hd hp hc9 he hto hkd hvv hv ts (false :: st) (c + 1) _ _ _ _ (f0.tr (Fr.wA (fun _ => rfl))) (pR_set [] false vpb0 hst) (by omega) (fun k t ht => by rw [show c + 1 + k = c + (k + 1) by omega]; exact hk (k + 1) t ht) w3 (by simp only [List.length_cons] at hl ⊢; omega) (fun σ' b' f' e' => h σ' b' f' (by show (evT (fxD kd vv D p) ts (tstT k (fxD kd vv D p) :: st)).headD false = b'; rw [show tstT k (fxD kd vv D p) = false from (by unfold tstT; rw [if_neg z0, if_pos z1]; exact decide_eq_false c116)]; exact e')))
                    | (exact m_holds_l hd hp hc9 he hto hkd hvv hv ts (true :: st) (c + 1) _ _ _ _ (f0.tr (Fr.wA (fun _ => rfl))) (pR_set [] true vpb1 hst) (by omega) (fun k t ht => by rw [show c + 1 + k = c + (k + 1) by omega]; exact hk (k + 1) t ht) w3 (by simp only [List.length_cons] at hl ⊢; omega) (fun σ' b' f' e' => h σ' b' f' (by show (evT (fxD kd vv D p) ts (tstT k (fxD kd vv D p) :: st)).headD false = b'; rw [show tstT k (fxD kd vv D p) = true from (by unfold tstT; rw [if_neg z0, if_pos z1]; exact decide_eq_true c116)]; exact e'))))
               | (rw [q3] at c125
                  have z1 : ¬ k / 100 % 3 = 1 := fun z => c111 (by rw [z]; rfl)
                  first
                    | (exact m_holds_l hd hp hc9 he hto hkd hvv hv ts (false :: st) (c + 1) _ _ _ _ (f0.tr (Fr.wA (fun _ => rfl))) (pR_set [] false vpb0 hst) (by omega) (fun k t ht => by rw [show c + 1 + k = c + (k + 1) by omega]; exact hk (k + 1) t ht) w3 (by simp only [List.length_cons] at hl ⊢; omega) (fun σ' b' f' e' => h σ' b' f' (by show (evT (fxD kd vv D p) ts (tstT k (fxD kd vv D p) :: st)).headD false = b'; rw [show tstT k (fxD kd vv D p) = false from (by unfold tstT; rw [if_neg z0, if_neg z1]; exact decide_eq_false (fun q => i_nle q c125))]; exact e')))
                    | (exact m_holds_l hd hp hc9 he hto hkd hvv hv ts (true :: st) (c + 1) _ _ _ _ (f0.tr (Fr.wA (fun _ => rfl))) (pR_set [] true vpb1 hst) (by omega) (fun k t ht => by rw [show c + 1 + k = c + (k + 1) by omega]; exact hk (k + 1) t ht) w3 (by simp only [List.length_cons] at hl ⊢; omega) (fun σ' b' f' e' => h σ' b' f' (by show (evT (fxD kd vv D p) ts (tstT k (fxD kd vv D p) :: st)).headD false = b'; rw [show tstT k (fxD kd vv D p) = true from (by unfold tstT; rw [if_neg z0, if_neg z1]; exact decide_eq_true (i_lt_of c125))]; exact e')))))
      · refine qm_go 3 (fun P hP => Exists.intro (st.length) (And.intro (And.intro (rfl) ((show st.length < 100 by omega))) (hP ?_)))
        refine qm_go 3 (fun P hP => hP ?_)
        rw [nI_1, nI_1]
        rw [q2] at c99
        first
          | (rw [q3] at c104
             have z0 : k / 100 % 3 = 0 := (nI_eq (b := 0) (by omega) (by decide)).mp c99
             first
               | (exact m_holds_l hd hp hc9 he hto hkd hvv hv ts (false :: st) (c + 1) _ _ _ _ (f0.tr (Fr.wA (fun _ => rfl))) (pR_set [] false vpb0 hst) (by omega) (fun k t ht => by rw [show c + 1 + k = c + (k + 1) by omega]; exact hk (k + 1) t ht) w3 (by simp only [List.length_cons] at hl ⊢; omega) (fun σ' b' f' e' => h σ' b' f' (by show (evT (fxD kd vv D p) ts (tstT k (fxD kd vv D p) :: st)).headD false = b'; rw [show tstT k (fxD kd vv D p) = false from (by unfold tstT; rw [if_pos z0]; exact decide_eq_false (i_nlt c104))]; exact e')))
               | (exact m_holds_l hd hp hc9 he hto hkd hvv hv ts (true :: st) (c + 1) _ _ _ _ (f0.tr (Fr.wA (fun _ => rfl))) (pR_set [] true vpb1 hst) (by omega) (fun k t ht => by rw [show c + 1 + k = c + (k + 1) by omega]; exact hk (k + 1) t ht) w3 (by simp only [List.length_cons] at hl ⊢; omega) (fun σ' b' f' e' => h σ' b' f' (by show (evT (fxD kd vv D p) ts (tstT k (fxD kd vv D p) :: st)).headD false = b'; rw [show tstT k (fxD kd vv D p) = true from (by unfold tstT; rw [if_pos z0]; exact decide_eq_true (i_lt_of c104))]; exact e'))))
          | (rw [q2] at c111
             have z0 : ¬ k / 100 % 3 = 0 := fun z => c99 (by rw [z]; rfl)
             first
               | (rw [q3] at c116
                  have z1 : k / 100 % 3 = 1 := (nI_eq (b := 1) (by omega) (by decide)).mp c111
                  first
                    | (exact m_holds_l hd hp hc9 he hto hkd hvv hv ts (false :: st) (c + 1) _ _ _ _ (f0.tr (Fr.wA (fun _ => rfl))) (pR_set [] false vpb0 hst) (by omega) (fun k t ht => by rw [show c + 1 + k = c + (k + 1) by omega]; exact hk (k + 1) t ht) w3 (by simp only [List.length_cons] at hl ⊢; omega) (fun σ' b' f' e' => h σ' b' f' (by show (evT (fxD kd vv D p) ts (tstT k (fxD kd vv D p) :: st)).headD false = b'; rw [show tstT k (fxD kd vv D p) = false from (by unfold tstT; rw [if_neg z0, if_pos z1]; exact decide_eq_false c116)]; exact e')))
                    | (exact m_holds_l hd hp hc9 he hto hkd hvv hv ts (true :: st) (c + 1) _ _ _ _ (f0.tr (Fr.wA (fun _ => rfl))) (pR_set [] true vpb1 hst) (by omega) (fun k t ht => by rw [show c + 1 + k = c + (k + 1) by omega]; exact hk (k + 1) t ht) w3 (by simp only [List.length_cons] at hl ⊢; omega) (fun σ' b' f' e' => h σ' b' f' (by show (evT (fxD kd vv D p) ts (tstT k (fxD kd vv D p) :: st)).headD false = b'; rw [show tstT k (fxD kd vv D p) = true from (by unfold tstT; rw [if_neg z0, if_pos z1]; exact decide_eq_true c116)]; exact e'))))
               | (rw [q3] at c125
                  have z1 : ¬ k / 100 % 3 = 1 := fun z => c111 (by rw [z]; rfl)
                  first
                    | (exact m_holds_l hd hp hc9 he hto hkd hvv hv ts (false :: st) (c + 1) _ _ _ _ (f0.tr (Fr.wA (fun _ => rfl))) (pR_set [] false vpb0 hst) (by omega) (fun k t ht => by rw [show c + 1 + k = c + (k + 1) by omega]; exact hk (k + 1) t ht) w3 (by simp only [List.length_cons] at hl ⊢; omega) (fun σ' b' f' e' => h σ' b' f' (by show (evT (fxD kd vv D p) ts (tstT k (fxD kd vv D p) :: st)).headD false = b'; rw [show tstT k (fxD kd vv D p) = false from (by unfold tstT; rw [if_neg z0, if_neg z1]; exact decide_eq_false (fun q => i_nle q c125))]; exact e')))
                    | (exact m_holds_l hd hp hc9 he hto hkd hvv hv ts (true :: st) (c + 1) _ _ _ _ (f0.tr (Fr.wA (fun _ => rfl))) (pR_set [] true vpb1 hst) (by omega) (fun k t ht => by rw [show c + 1 + k = c + (k + 1) by omega]; exact hk (k + 1) t ht) w3 (by simp only [List.length_cons] at hl ⊢; omega) (fun σ' b' f' e' => h σ' b' f' (by show (evT (fxD kd vv D p) ts (tstT k (fxD kd vv D p) :: st)).headD false = b'; rw [show tstT k (fxD kd vv D p) = true from (by unfold tstT; rw [if_neg z0, if_neg z1]; exact decide_eq_true (i_lt_of c125))]; exact e')))))
theorem m_holds {d : Nat} (hd : 2 ≤ d) {σ : qm_Sg} {Q : qm_Po} {p c9 f : Nat} {ts : List Nat} {kd vv : Nat → Int32} {D : DD} (hp : p < 6) (hc9 : c9 < 60) (hfr : σ.1 60 0 c9 = nI f) (hto : σ.1 61 0 c9 = nI (f + ts.length)) (he : f + ts.length ≤ 600) (hk : ∀ k t, ts[k]? = some t → σ.1 62 0 (f + k) = mEn t) (hw : wfT ts 0 1) (hkd : σ.1 51 0 = kd) (hvv : σ.1 52 0 = vv) (hv : vM σ D) (h : ∀ σ' b, Fr (fun t _ _ => t = 65) σ σ' → holdT (fxD kd vv D p) ts = b → Q σ' (some (vI (nI b.toNat)))) : qm_M d 142 [vR 50 0, vI (nI c9), vI (nI p)] σ Q := by
  obtain ⟨d, rfl, hd⟩ := qm_dn hd
  show qm_Wp (qm_M d) qk_142 Q 0 [some (vR 50 0), some (vI (nI c9)), some (vI (nI p)), none, none, none, none, none] [] σ
  refine qm_go 6 (fun P hP => Exists.intro (c9) (And.intro (And.intro (rfl) (hc9)) (hP ?_)))
  rw [hfr]
  refine qm_go 1 (fun P hP => hP ?_)
  exact m_holds_l (by omega) hp hc9 he hto hkd hvv hv ts [] f _ _ _ σ Fr.rf (fun i b hb => absurd hb (by simp)) rfl hk hw (by decide) h
theorem m_sum_l {d : Nat} (hd : 2 ≤ d) {σ0 : qm_Sg} {Q : qm_Po} {s p : Nat} {c : CT9} (hs : s < 6) (hp : p < 6) (h1 : σ0.1 50 0 10 = nI s) (hr0 : mRep σ0 s c) (hw : wfC c) {kd vv : Nat → Int32} {D : DD} (hkd : σ0.1 51 0 = kd) (hvv : σ0.1 52 0 = vv) (hv : vM σ0 D) : ∀ (l : CT9) (i : Nat) (a : Int32) (σ : qm_Sg), Fr (fun t _ _ => t = 65) σ0 σ → c.drop i = l → i ≤ c.length → (∀ σ', Fr (fun t _ _ => t = 65) σ0 σ' → Q σ' (some (vI (sumC (fxD kd vv D p) l a)))) → qm_Wp (qm_M d) qk_143 Q 5 [some (vR 50 0), some (vI (nI p)), some (vI a), some (vI (nI (10 * s + i)))] [] σ
  | [], i, a, σ, f0, e, hi, h => by
    have hl : c.length = i := by have := List.drop_eq_nil_iff.mp e; omega
    have hr := hr0.fr f0 (fun t i j a b q => by have q : t = 65 := q; omega)
    have h1' : σ.1 50 0 10 = nI s := (f0.1 _ _ _ (show ¬ (50 : Nat) = 65 by decide)).trans h1
    refine qm_go 3 (fun P hP => m_behind1 (by omega) hs h1' hr.1 (hP ?_))
    refine qm_go 1 (fun P hP => And.intro (fun _ => hP ?_) (fun c => absurd (nI_le (by omega) (by have := hr.2.1; omega)) c))
    refine qm_go 2 (fun P hP => h σ f0)
  | q :: l, i, a, σ, f0, e, hi, h => by
    have hr := hr0.fr f0 (fun t i j a b q => by have q : t = 65 := q; omega)
    have h1' : σ.1 50 0 10 = nI s := (f0.1 _ _ _ (show ¬ (50 : Nat) = 65 by decide)).trans h1
    have hq : c[i]? = some q := by rw [← List.head?_drop, e]; rfl
    have hl : i < c.length := (List.getElem?_eq_some_iff.mp hq).1
    have hc10 := hr.2.1
    obtain ⟨a1, a2, a3⟩ := hr.2.2 i q hq
    have e2 : c.drop (i + 1) = l := by rw [← List.drop_drop, e]; rfl
    obtain ⟨w1, w2, w3⟩ := hw.2 q (List.mem_of_getElem? hq)
    obtain ⟨w, nn, ts⟩ := q
    unfold sumC at h
    simp only at a1 a2 a3 w1 w2 w3
    have kd' : σ.1 51 0 = kd := (f0.row (fun j => show ¬ (51 : Nat) = 65 by decide)).trans hkd
    have vv' : σ.1 52 0 = vv := (f0.row (fun j => show ¬ (52 : Nat) = 65 by decide)).trans hvv
    have v' : vM σ D := hv.fr f0
    have hn1 : nI (10 * s + i) + 1 = nI (10 * s + (i + 1)) := by rw [nI_1]; rfl
    refine qm_go 3 (fun P hP => m_behind1 (by omega) hs h1' hr.1 (hP ?_))
    refine qm_go 1 (fun P hP => And.intro (fun c => absurd c (nI_ge (by omega) (by have := hr.2.1; omega))) (fun _ => hP ?_))
    refine qm_go 4 (fun P hP => Exists.intro (10 * s + i) (And.intro (And.intro (rfl) ((show 10 * s + i < 60 by omega))) (hP ?_)))
    rw [a1]
    refine qm_go 2 (fun P hP => And.intro (fun c14 => hP ?_) (fun c14 => hP ?_))
    · refine qm_go 2 (fun P hP => hP ?_)
      rw [hn1]
      first
        | (have z : w = 2 := by (have := i_lt.mp c14; rw [nI_toInt (by omega)] at this; have : (1 : Int) < (w : Int) := this; omega)
           rw [if_pos z] at h; exact m_sum_l hd hs hp h1 hr0 hw hkd hvv hv l (i + 1) a σ f0 e2 (by omega) h)
        | (have eb := bt_eq c19; rw [eb] at e1; rw [if_neg w2', e1] at h; exact m_sum_l hd hs hp h1 hr0 hw hkd hvv hv l (i + 1) a σ1 (f0.tr f1) e2 (by omega) h)
        | (have eb := bt_ne c19; rw [eb] at e1; rw [if_neg w2', e1, if_pos rfl] at h
           rw [f1.1 59 0 _ (show ¬ (59 : Nat) = 65 by decide), a2]
           rw [f1.1 58 0 _ (show ¬ (58 : Nat) = 65 by decide), a1] at c26
           first
             | (rw [if_neg (fun z => c26 (by rw [z]; rfl))] at h; exact m_sum_l hd hs hp h1 hr0 hw hkd hvv hv l (i + 1) (a + -nI nn) σ1 (f0.tr f1) e2 (by omega) h)
             | (rw [if_pos ((nI_eq (by omega) (by decide)).mp c26)] at h; exact m_sum_l hd hs hp h1 hr0 hw hkd hvv hv l (i + 1) (a + nI nn) σ1 (f0.tr f1) e2 (by omega) h))
    · refine qm_go 1 (fun P hP => hP ?_)
      have w2' : ¬ w = 2 := fun z => c14 (by rw [z]; decide)
      obtain ⟨f, b1, b2, b3, b4⟩ := a3 w2'
      
      refine qm_go 3 (fun P hP => m_holds (ts := ts) (kd := kd) (vv := vv) (D := D) (by omega) hp (by omega) b1 b2 b3 b4 (w3 w2') kd' vv' v' (fun σ1 b f1 e1 => hP ?_))
      refine qm_go 1 (fun P hP => And.intro (fun c19 => hP ?_) (fun c19 => hP ?_))
      · refine qm_go 5 (fun P hP => Exists.intro (10 * s + i) (And.intro (And.intro (rfl) ((show 10 * s + i < 60 by omega))) (hP ?_)))
        refine qm_go 1 (fun P hP => And.intro (fun c26 => hP ?_) (fun c26 => hP ?_))
        · refine qm_go 4 (fun P hP => Exists.intro (10 * s + i) (And.intro (And.intro (rfl) ((show 10 * s + i < 60 by omega))) (hP ?_)))
          refine qm_go 5 (fun P hP => hP ?_)
          rw [hn1]
          first
            | (have z : w = 2 := by (have := i_lt.mp c14; rw [nI_toInt (by omega)] at this; have : (1 : Int) < (w : Int) := this; omega)
               rw [if_pos z] at h; exact m_sum_l hd hs hp h1 hr0 hw hkd hvv hv l (i + 1) a σ f0 e2 (by omega) h)
            | (have eb := bt_eq c19; rw [eb] at e1; rw [if_neg w2', e1] at h; exact m_sum_l hd hs hp h1 hr0 hw hkd hvv hv l (i + 1) a σ1 (f0.tr f1) e2 (by omega) h)
            | (have eb := bt_ne c19; rw [eb] at e1; rw [if_neg w2', e1, if_pos rfl] at h
               rw [f1.1 59 0 _ (show ¬ (59 : Nat) = 65 by decide), a2]
               rw [f1.1 58 0 _ (show ¬ (58 : Nat) = 65 by decide), a1] at c26
               first
                 | (rw [if_neg (fun z => c26 (by rw [z]; rfl))] at h; exact m_sum_l hd hs hp h1 hr0 hw hkd hvv hv l (i + 1) (a + -nI nn) σ1 (f0.tr f1) e2 (by omega) h)
                 | (rw [if_pos ((nI_eq (by omega) (by decide)).mp c26)] at h; exact m_sum_l hd hs hp h1 hr0 hw hkd hvv hv l (i + 1) (a + nI nn) σ1 (f0.tr f1) e2 (by omega) h))
        · refine qm_go 4 (fun P hP => Exists.intro (10 * s + i) (And.intro (And.intro (rfl) ((show 10 * s + i < 60 by omega))) (hP ?_)))
          refine qm_go 5 (fun P hP => hP ?_)
          rw [hn1]
          first
            | (have z : w = 2 := by (have := i_lt.mp c14; rw [nI_toInt (by omega)] at this; have : (1 : Int) < (w : Int) := this; omega)
               rw [if_pos z] at h; exact m_sum_l hd hs hp h1 hr0 hw hkd hvv hv l (i + 1) a σ f0 e2 (by omega) h)
            | (have eb := bt_eq c19; rw [eb] at e1; rw [if_neg w2', e1] at h; exact m_sum_l hd hs hp h1 hr0 hw hkd hvv hv l (i + 1) a σ1 (f0.tr f1) e2 (by omega) h)
            | (have eb := bt_ne c19; rw [eb] at e1; rw [if_neg w2', e1, if_pos rfl] at h
               rw [f1.1 59 0 _ (show ¬ (59 : Nat) = 65 by decide), a2]
               rw [f1.1 58 0 _ (show ¬ (58 : Nat) = 65 by decide), a1] at c26
               first
                 | (rw [if_neg (fun z => c26 (by rw [z]; rfl))] at h; exact m_sum_l hd hs hp h1 hr0 hw hkd hvv hv l (i + 1) (a + -nI nn) σ1 (f0.tr f1) e2 (by omega) h)
                 | (rw [if_pos ((nI_eq (by omega) (by decide)).mp c26)] at h; exact m_sum_l hd hs hp h1 hr0 hw hkd hvv hv l (i + 1) (a + nI nn) σ1 (f0.tr f1) e2 (by omega) h))
      · refine qm_go 3 (fun P hP => hP ?_)
        rw [hn1]
        first
          | (have z : w = 2 := by (have := i_lt.mp c14; rw [nI_toInt (by omega)] at this; have : (1 : Int) < (w : Int) := this; omega)
             rw [if_pos z] at h; exact m_sum_l hd hs hp h1 hr0 hw hkd hvv hv l (i + 1) a σ f0 e2 (by omega) h)
          | (have eb := bt_eq c19; rw [eb] at e1; rw [if_neg w2', e1] at h; exact m_sum_l hd hs hp h1 hr0 hw hkd hvv hv l (i + 1) a σ1 (f0.tr f1) e2 (by omega) h)
          | (have eb := bt_ne c19; rw [eb] at e1; rw [if_neg w2', e1, if_pos rfl] at h
             rw [f1.1 59 0 _ (show ¬ (59 : Nat) = 65 by decide), a2]
             rw [f1.1 58 0 _ (show ¬ (58 : Nat) = 65 by decide), a1] at c26
             first
               | (rw [if_neg (fun z => c26 (by rw [z]; rfl))] at h; exact m_sum_l hd hs hp h1 hr0 hw hkd hvv hv l (i + 1) (a + -nI nn) σ1 (f0.tr f1) e2 (by omega) h)
               | (rw [if_pos ((nI_eq (by omega) (by decide)).mp c26)] at h; exact m_sum_l hd hs hp h1 hr0 hw hkd hvv hv l (i + 1) (a + nI nn) σ1 (f0.tr f1) e2 (by omega) h))
theorem m_sum {d : Nat} (hd : 5 ≤ d) {σ : qm_Sg} {Q : qm_Po} {p : Nat} (hp : p < 6) {S : (Nat → Int32) → Int32} {br : Int32} (hc : mSt σ S br) {kd vv : Nat → Int32} {D : DD} (hkd : σ.1 51 0 = kd) (hvv : σ.1 52 0 = vv) (hv : vM σ D) (h : ∀ σ', Fr (fun t _ _ => t = 65) σ σ' → Q σ' (some (vI (S (fxD kd vv D p))))) : qm_M d 143 [vR 50 0, vI (nI p)] σ Q := by
  obtain ⟨d, rfl, hd⟩ := qm_dn hd
  show qm_Wp (qm_M d) qk_143 Q 0 [some (vR 50 0), some (vI (nI p)), none, none] [] σ
  rcases hc with ⟨h1, rfl, rfl⟩ | ⟨s, c, h1, h2, h3, h4, rfl, rfl⟩
  · refine qm_go 4 (fun P hP => m_begin0 (by omega) h1 (hP ?_))
    refine qm_go 4 (fun P hP => m_behind0 (by omega) h1 (hP ?_))
    refine qm_go 1 (fun P hP => And.intro (fun _ => hP ?_) (fun c => absurd (by decide) c))
    refine qm_go 2 (fun P hP => h σ Fr.rf)
  · refine qm_go 4 (fun P hP => m_begin1 (by omega) h1 h2 (hP ?_))
    refine qm_go 1 (fun P hP => hP ?_)
    exact m_sum_l (by omega) h1 hp h2 h3 h4 hkd hvv hv c 0 9 σ Fr.rf rfl (by omega) h
