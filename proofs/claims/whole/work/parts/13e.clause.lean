def hdS (wd : Nat) : List Nat := if wd = 0 then [108, 97, 116, 101, 32] else if wd = 2 then [98, 101, 97, 114, 32] else [115, 111, 111, 110, 32]
abbrev CR9 : Type := Nat × Option (Nat × Nat × List Nat)
def pzC3 (g : Nat → Nat) (wd n c : Nat) (r : CR9) : Prop := if wd = 2 then r = (c, some (2, n, [])) else if g c = 32 then ∃ q : PR9, pzG g true (c + 1) [] (nI 0) [] q ∧ r = (q.1, q.2.map (fun ts => (wd, n, ts))) else r = (c, none)
def pzC2 (g : Nat → Nat) (wd b : Nat) (r : CR9) : Prop := match pzN g b with
  | none => r = (b, none)
  | some q => pzC3 g wd q.1 q.2 r
def pzC1 (g : Nat → Nat) (wd a : Nat) (r : CR9) : Prop := if (pzM g a (hdS wd)).2 = true then pzC2 g wd (pzM g a (hdS wd)).1 r else r = ((pzM g a (hdS wd)).1, none)
def pzC (g : Nat → Nat) (a : Nat) (r : CR9) : Prop := match pzX (g a) [108, 115, 98] 0 with
  | none => r = (a, none)
  | some wd => pzC1 g wd a r
def pzL (g : Nat → Nat) (L : Nat) : Nat → Nat → CT9 → Nat × Option CT9 → Prop
  | 0, _, _, _ => False
  | k + 1, a, acc, r => ∃ q : CR9, pzC g a q ∧ (match q.2 with
    | none => r = (q.1, none)
    | some c => if q.1 = L then r = (q.1, some (acc ++ [c])) else if k = 0 ∨ ¬ g q.1 = 59 then r = (q.1, none) else pzL g L k (q.1 + 1) (acc ++ [c]) r)
def tSt (s t i _ : Nat) : Prop := i = s ∧ 28 ≤ t ∧ t ≤ 32
theorem tP_St {s t i j : Nat} (h : tP s t i j) : tSt s t i j := by unfold tP at h; unfold tSt; omega
theorem Fr.st {s : Nat} {σ σ' : qm_Sg} (h : Fr (tP s) σ σ') : Fr (tSt s) σ σ' := h.mono (fun _ _ _ q => tP_St q)
def wfQ (q : Nat × Nat × List Nat) : Prop := q.1 < 3 ∧ q.2.1 < 100 ∧ (q.1 ≠ 2 → wfT q.2.2 0 1)
def tokC (c : CT9) : List Nat := c.flatMap (fun q => q.2.2)
def cQ (s : Nat) (σ : qm_Sg) (acc : CT9) : Prop := σ.1 28 s 3 = nI acc.length ∧ σ.1 28 s 6 = nI (bearC acc 40) ∧ ∀ (i : Nat) (q : Nat × Nat × List Nat), acc[i]? = some q → σ.1 29 s i = nI q.1 ∧ σ.1 30 s i = nI q.2.1 ∧ σ.1 31 s i = nI (endC acc (i + 1))
theorem cQ.fr {s : Nat} {σ σ' : qm_Sg} {acc : CT9} (h : cQ s σ acc) (F : Fr (tP s) σ σ') : cQ s σ' acc := by
  obtain ⟨h1, h2, h3⟩ := h
  refine ⟨by rw [F.1 _ _ _ (by unfold tP; omega)]; exact h1, by rw [F.1 _ _ _ (by unfold tP; omega)]; exact h2, fun i q hq => ?_⟩
  obtain ⟨a1, a2, a3⟩ := h3 i q hq
  exact ⟨by rw [F.1 _ _ _ (by unfold tP; omega)]; exact a1, by rw [F.1 _ _ _ (by unfold tP; omega)]; exact a2, by rw [F.1 _ _ _ (by unfold tP; omega)]; exact a3⟩
theorem endC_app (q : Nat × Nat × List Nat) : ∀ (acc : CT9) (i : Nat), i ≤ acc.length → endC (acc ++ [q]) i = endC acc i
  | [], i, h => by
    have : i = 0 := by simpa using h
    subst this
    rfl
  | p :: acc, 0, _ => rfl
  | p :: acc, i + 1, h => by
    show p.2.2.length + endC (acc ++ [q]) i = p.2.2.length + endC acc i
    rw [endC_app q acc i (by simpa using h)]
theorem endC_snoc (q : Nat × Nat × List Nat) : ∀ (acc : CT9), endC (acc ++ [q]) (acc.length + 1) = endC acc acc.length + q.2.2.length
  | [] => by show q.2.2.length + endC [] 0 = 0 + q.2.2.length; show q.2.2.length + 0 = _; omega
  | p :: acc => by
    show p.2.2.length + endC (acc ++ [q]) (acc.length + 1) = p.2.2.length + endC acc acc.length + q.2.2.length
    rw [endC_snoc q acc]
    omega
theorem tokC_len : ∀ (acc : CT9), (tokC acc).length = endC acc acc.length
  | [] => rfl
  | p :: acc => by
    show (p.2.2 ++ tokC acc).length = p.2.2.length + endC acc acc.length
    rw [List.length_append, tokC_len acc]
theorem tokC_app (q : Nat × Nat × List Nat) (acc : CT9) : tokC (acc ++ [q]) = tokC acc ++ q.2.2 := by
  unfold tokC
  rw [List.flatMap_append]
  simp
theorem tokC_at : ∀ (acc : CT9) (i : Nat) (q : Nat × Nat × List Nat) (k t : Nat), acc[i]? = some q → q.2.2[k]? = some t → (tokC acc)[endC acc i + k]? = some t
  | [], i, q, k, t, h, _ => by cases h
  | p :: acc, 0, q, k, t, h, h2 => by
    cases h
    show (p.2.2 ++ tokC acc)[0 + k]? = some t
    rw [Nat.zero_add, List.getElem?_append_left (List.getElem?_eq_some_iff.mp h2).1]
    exact h2
  | p :: acc, i + 1, q, k, t, h, h2 => by
    show (p.2.2 ++ tokC acc)[p.2.2.length + endC acc i + k]? = some t
    rw [List.getElem?_append_right (by omega), show p.2.2.length + endC acc i + k - p.2.2.length = endC acc i + k by omega]
    exact tokC_at acc i q k t h h2
theorem bearC_app (q : Nat × Nat × List Nat) : ∀ (acc : CT9) (a : Nat), bearC (acc ++ [q]) a = if q.1 = 2 then q.2.1 else bearC acc a
  | [], a => rfl
  | p :: acc, a => by
    show bearC (acc ++ [q]) _ = _
    rw [bearC_app q acc]
    rfl
theorem cRep_of {s L : Nat} {tx : Nat → Nat} {σ : qm_Sg} {b : Nat} {acc : CT9} (hp : cP s L tx σ b (tokC acc)) (hq : cQ s σ acc) : cRep σ s acc := by
  obtain ⟨h1, h2, h3⟩ := hq
  have hl := hp.le
  refine ⟨h1, h2, by rw [← tokC_len]; omega, fun i q hi => ?_⟩
  obtain ⟨a1, a2, a3⟩ := h3 i q hi
  exact ⟨a1, a2, a3, fun k t ht => hp.2.2.2.2.2.1 _ t (tokC_at acc i q k t hi ht)⟩
theorem cP.fs {s L : Nat} {tx : Nat → Nat} {σ σ' : qm_Sg} {a : Nat} {co : List Nat} {T : Nat → Nat → Nat → Prop} (h : cP s L tx σ a co) (F : Fr T σ σ') (hT : ∀ t i j, (t = 5 ∨ 100 ≤ t ∨ t = 32 ∨ (t = 28 ∧ (j = 5 ∨ j = 9 ∨ j = 10))) → ¬ T t i j) : cP s L tx σ' a co := by
  obtain ⟨h1, h2, h3, h4, h5, h6, h7⟩ := h
  exact ⟨fun j hj => by rw [F.1 _ _ _ (hT _ _ _ (by omega))]; exact h1 j hj, h2.fr F (fun t i j q => hT _ _ _ (by omega)), by rw [F.1 _ _ _ (hT _ _ _ (by omega))]; exact h3, by rw [F.1 _ _ _ (hT _ _ _ (by omega))]; exact h4, by rw [F.1 _ _ _ (hT _ _ _ (by omega))]; exact h5, fun i t q => by rw [F.1 _ _ _ (hT _ _ _ (by omega))]; exact h6 i t q, h7⟩
def t58 (s t i j : Nat) : Prop := i = s ∧ (t = 29 ∨ t = 30 ∨ t = 31 ∨ (t = 28 ∧ (j = 3 ∨ j = 6)))
theorem c_cl58 {d : Nat} {σ : qm_Sg} {Q : qm_Po} {s L : Nat} {tx : Nat → Nat} {b wd n : Nat} {ts : List Nat} {acc : CT9} (hp : cP s L tx σ b (tokC acc ++ ts)) (h3 : σ.1 28 s 3 = nI acc.length) (h6 : σ.1 28 s 6 = nI (bearC (acc ++ [(wd, n, ts)]) 40)) (ha : ∀ (i : Nat) (q : Nat × Nat × List Nat), acc[i]? = some q → σ.1 29 s i = nI q.1 ∧ σ.1 30 s i = nI q.2.1 ∧ σ.1 31 s i = nI (endC acc (i + 1))) (hl : acc.length < 10) (h : ∀ σ', Fr (t58 s) σ σ' → cP s L tx σ' b (tokC (acc ++ [(wd, n, ts)])) → cQ s σ' (acc ++ [(wd, n, ts)]) → Q σ' (some (vI 1))) : qm_Wp (qm_M d) qk_49 Q 58 [some (vR 28 s), some (vI (nI wd)), some (vI (nI n))] [] σ := by
  refine qm_go 6 (fun P hP => Exists.intro (acc.length) (And.intro (And.intro (h3) (hl)) (hP ?_)))
  refine qm_go 6 (fun P hP => Exists.intro (acc.length) (And.intro (And.intro (h3) (hl)) (hP ?_)))
  refine qm_go 7 (fun P hP => Exists.intro (acc.length) (And.intro (And.intro (h3) (hl)) (hP ?_)))
  refine qm_go 6 (fun P hP => hP ?_)
  generalize hσ : wF _ 28 s (upd _ 3 _) = σ2
  have F : Fr (t58 s) σ σ2 := by
    rw [← hσ]
    exact Fr.p1 (Fr.p1 (Fr.p1 (Fr.w1 (by unfold t58; omega)) (by unfold t58; omega)) (by unfold t58; omega)) (by unfold t58; omega)
  refine qm_go 2 (fun P hP => And.intro rfl (h σ2 F ?_ ?_))
  · rw [tokC_app]
    exact hp.fs F (fun t i j q => by unfold t58; omega)
  · refine ⟨by rw [← hσ, wv_same, wF_ne _ _ (by omega), wF_ne _ _ (by omega), wF_ne _ _ (by omega), h3, nI_1, List.length_append]; rfl, by rw [← hσ, wv_ne (by omega), wF_ne _ _ (by omega), wF_ne _ _ (by omega), wF_ne _ _ (by omega)]; exact h6, fun i q hq => ?_⟩
    by_cases e : i < acc.length
    · rw [List.getElem?_append_left e] at hq
      obtain ⟨a1, a2, a3⟩ := ha i q hq
      rw [endC_app _ _ _ (by omega)]
      exact ⟨by rw [← hσ, wF_ne _ _ (by omega), wF_ne _ _ (by omega), wF_ne _ _ (by omega), wv_ne (by omega)]; exact a1, by rw [← hσ, wF_ne _ _ (by omega), wF_ne _ _ (by omega), wv_ne (by omega), wF_ne _ _ (by omega)]; exact a2, by rw [← hσ, wF_ne _ _ (by omega), wv_ne (by omega), wF_ne _ _ (by omega), wF_ne _ _ (by omega)]; exact a3⟩
    · rw [List.getElem?_append_right (by omega)] at hq
      have : i = acc.length := by
        have := (List.getElem?_eq_some_iff.mp hq).1
        simp only [List.length_cons, List.length_nil] at this
        omega
      subst this
      rw [Nat.sub_self] at hq
      cases hq
      refine ⟨by rw [← hσ, wF_ne _ _ (by omega), wF_ne _ _ (by omega), wF_ne _ _ (by omega), wv_same], by rw [← hσ, wF_ne _ _ (by omega), wF_ne _ _ (by omega), wv_same], ?_⟩
      rw [← hσ, wF_ne _ _ (by omega), wv_same, wF_ne _ _ (by omega), wF_ne _ _ (by omega), hp.cnt, endC_snoc, ← tokC_len, List.length_append]
theorem t58_St {s : Nat} {σ σ' : qm_Sg} (h : Fr (t58 s) σ σ') : Fr (tSt s) σ σ' := h.mono (fun _ _ _ q => by unfold t58 at q; unfold tSt; omega)
theorem pzM_1 {g : Nat → Nat} {a b : Nat} {x : Nat} {r : Bool} (h : pzM g a [x] = (b, r)) : (r = true ∧ g a = x ∧ b = a + 1) ∨ (r = false ∧ ¬ g a = x ∧ b = a) := by
  unfold pzM at h
  by_cases e : g a = x
  · rw [if_pos e] at h
    cases h
    exact Or.inl ⟨rfl, e, rfl⟩
  · rw [if_neg e] at h
    cases h
    exact Or.inr ⟨rfl, e, rfl⟩
theorem pzC3_b {g : Nat → Nat} {n c : Nat} : pzC3 g 2 n c (c, some (2, n, [])) := by unfold pzC3; rw [if_pos rfl]
theorem pzC3_n {g : Nat → Nat} {wd n c : Nat} (h : ¬ wd = 2) (h2 : ¬ g c = 32) : pzC3 g wd n c (c, none) := by unfold pzC3; rw [if_neg h, if_neg h2]
theorem pzC3_e {g : Nat → Nat} {wd n c : Nat} (h : ¬ wd = 2) (h2 : g c = 32) {q : PR9} (k : pzG g true (c + 1) [] (nI 0) [] q) : pzC3 g wd n c (q.1, q.2.map (fun ts => (wd, n, ts))) := by unfold pzC3; rw [if_neg h, if_pos h2]; exact ⟨q, k, rfl⟩
theorem c_cl33 {d : Nat} (hd : 20 ≤ d) {σ : qm_Sg} {Q : qm_Po} {s L : Nat} {tx : Nat → Nat} {b wd : Nat} {acc : CT9} (hw : wd < 3) (hp : cP s L tx σ b (tokC acc)) (hq : cQ s σ acc) (hl : acc.length < 10) (h0 : ∀ σ' b', b' ≤ L → Fr (tSt s) σ σ' → σ'.1 28 s 10 = nI b' → pzC2 (pzS tx L) wd b (b', none) → Q σ' (some (vI 0))) (h1 : ∀ σ' b' q, Fr (tSt s) σ σ' → cP s L tx σ' b' (tokC (acc ++ [q])) → cQ s σ' (acc ++ [q]) → wfQ q → pzC2 (pzS tx L) wd b (b', some q) → Q σ' (some (vI 1))) : qm_Wp (qm_M d) qk_49 Q 33 [some (vR 28 s), some (vI (nI wd)), none] [] σ := by
  unfold pzC2 at h0 h1
  refine qm_go 2 (fun P hP => c_number (by omega) hp (fun hn => hP ?_) (fun σ2 n c hn n1 n2 F2 hp2 => hP ?_))
  · refine qm_go 4 (fun P hP => And.intro (fun c3 => absurd rfl c3) (fun _ => hP ?_))
    rw [hn] at h0
    exact qm_go 2 (fun P hP => And.intro rfl (h0 σ _ hp.le.1 Fr.rf hp.at_ rfl))
  · refine qm_go 4 (fun P hP => And.intro (fun _ => hP ?_) (fun c3 => absurd c3 (dg_4 (by omega))))
    rw [hn] at h0 h1
    have hq2 := hq.fr F2
    have h0 : ∀ σ' b', b' ≤ L → Fr (tSt s) σ σ' → σ'.1 28 s 10 = nI b' → pzC3 (pzS tx L) wd n c (b', none) → Q σ' (some (vI 0)) := h0
    have h1 : ∀ σ' b' q, Fr (tSt s) σ σ' → cP s L tx σ' b' (tokC (acc ++ [q])) → cQ s σ' (acc ++ [q]) → wfQ q → pzC3 (pzS tx L) wd n c (b', some q) → Q σ' (some (vI 1)) := h1
    by_cases e : wd = 2
    · subst e
      refine qm_go 3 (fun P hP => And.intro (fun c => absurd rfl c) (fun _ => hP ?_))
      refine qm_go 4 (fun P hP => hP ?_)
      generalize hσ : wF _ 28 s (upd _ 6 _) = σ3
      have F3 : Fr (t58 s) σ2 σ3 := by rw [← hσ]; exact Fr.w1 (by unfold t58; omega)
      have hp3 : cP s L tx σ3 c (tokC acc) := hp2.fs F3 (fun t i j q => by unfold t58; omega)
      obtain ⟨q1, q2, q3⟩ := hq2
      refine c_cl58 (ts := []) (by rw [List.append_nil]; exact hp3) (by rw [← hσ, wv_ne (by omega)]; exact q1) (by rw [← hσ, wv_same, bearC_app]; rfl) (fun i q hi => ?_) hl (fun σ4 F4 hp4 hq4 => h1 σ4 c _ ((F2.st.tr (t58_St F3)).tr (t58_St F4)) hp4 hq4 ⟨by omega, n1, fun z => absurd rfl z⟩ pzC3_b)
      rw [← hσ, wF_ne _ _ (by omega), wF_ne _ _ (by omega), wF_ne _ _ (by omega)]
      exact q3 i q hi
    · refine qm_go 3 (fun P hP => And.intro (fun _ => hP ?_) (fun c => absurd ((nI_eq (b := 2) (by omega) (by omega)).mp c) e))
      refine qm_go 3 (fun P hP => c_fs4 (by omega) hp2 (fun σ3 b3 hm F3 hp3 => hP ?_) (fun σ3 b3 hm F3 hp3 => hP ?_))
      · refine qm_go 1 (fun P hP => And.intro (fun _ => hP ?_) (fun c => absurd rfl c))
        rcases pzM_1 hm with ⟨z, -, -⟩ | ⟨-, z1, rfl⟩
        · cases z
        · exact qm_go 2 (fun P hP => And.intro rfl (h0 σ3 _ hp3.le.1 (F2.tr F3).st hp3.at_ (pzC3_n e z1)))
      · refine qm_go 1 (fun P hP => And.intro (fun c => absurd c (by decide)) (fun _ => hP ?_))
        rcases pzM_1 hm with ⟨-, z1, rfl⟩ | ⟨z, -, -⟩
        · refine qm_go 3 (fun P hP => c_E hd σ3 _ (c + 1) (tokC acc) [] [] hp3 (fun c r q => by cases q) (fun σ4 b4 b1 F4 b2 b3 => hP ?_) (fun σ4 b4 ns w1 o1 b0 F4 hp4 b1 b2 bE b3 => hP ?_))
          · refine qm_go 1 (fun P hP => And.intro (fun c => absurd rfl c) (fun _ => hP ?_))
            exact qm_go 2 (fun P hP => And.intro rfl (h0 σ4 b4 b1 ((F2.tr F3).tr F4).st b2 (pzC3_e e z1 b3)))
          · refine qm_go 1 (fun P hP => And.intro (fun _ => hP ?_) (fun c => absurd c (by decide)))
            have hq4 := (hq2.fr F3).fr F4
            obtain ⟨q1, q2, q3⟩ := hq4
            have hwf : wfT ns 0 1 := by
              have := b1 0 (by omega) [] 1 rfl
              rw [List.append_nil] at this
              exact this
            exact c_cl58 hp4 q1 (by rw [bearC_app, if_neg e]; exact q2) q3 hl (fun σ5 F5 hp5 hq5 => h1 σ5 b4 _ (((F2.tr F3).tr F4).st.tr (t58_St F5)) hp5 hq5 ⟨hw, n1, fun _ => hwf⟩ (pzC3_e e z1 (b3 _ (pzG_end b2 bE))))
        · cases z
set_option maxHeartbeats 1000000 in
theorem c_clause {d : Nat} (hd : 21 ≤ d) {σ : qm_Sg} {Q : qm_Po} {s L : Nat} {tx : Nat → Nat} {a : Nat} {acc : CT9} (hp : cP s L tx σ a (tokC acc)) (hq : cQ s σ acc) (hl : acc.length < 10) (h0 : ∀ σ' b', b' ≤ L → Fr (tSt s) σ σ' → σ'.1 28 s 10 = nI b' → pzC (pzS tx L) a (b', none) → Q σ' (some (vI 0))) (h1 : ∀ σ' b' q, Fr (tSt s) σ σ' → cP s L tx σ' b' (tokC (acc ++ [q])) → cQ s σ' (acc ++ [q]) → wfQ q → pzC (pzS tx L) a (b', some q) → Q σ' (some (vI 1))) : qm_M d 49 [vR 28 s] σ Q := by
  obtain ⟨d, rfl, hd⟩ := qm_dn hd
  show qm_Wp (qm_M d) qk_49 Q 0 [some (vR 28 s), none, none] [] σ
  unfold pzC at h0 h1
  by_cases ha : a < L
  · obtain ⟨g1, g2⟩ := hp.sg ha
    refine qm_go 5 (fun P hP => And.intro (fun c => absurd c (hp.ge ha)) (fun _ => hP ?_))
    refine qm_go 6 (fun P hP => Exists.intro (a) (And.intro (And.intro (hp.at_) (Nat.lt_of_lt_of_le ha hp.le.2.1)) (hP ?_)))
    rw [g1]
    refine qm_go 1 (fun P hP => hP ?_)
    rw [chr_c _ g2]
    refine qm_go 1 (fun P hP => c_ix0 (by omega) hp.2.1 g2 (hP ?_))
    refine qm_go 4 (fun P hP => And.intro (fun c => hP ?_) (fun c => hP ?_))
    · have hf := pzX_i c (by decide)
      rw [hf] at h0
      exact qm_go 2 (fun P hP => And.intro rfl (h0 σ _ hp.le.1 Fr.rf hp.at_ rfl))
    · obtain ⟨wd, hf, hf3⟩ := pzX_s c (by decide)
      rw [hf] at h0 h1 ⊢
      have h0 : ∀ σ' b', b' ≤ L → Fr (tSt s) σ σ' → σ'.1 28 s 10 = nI b' → pzC1 (pzS tx L) wd a (b', none) → Q σ' (some (vI 0)) := h0
      have h1 : ∀ σ' b' q, Fr (tSt s) σ σ' → cP s L tx σ' b' (tokC (acc ++ [q])) → cQ s σ' (acc ++ [q]) → wfQ q → pzC1 (pzS tx L) wd a (b', some q) → Q σ' (some (vI 1)) := h1
      simp only [List.length_cons, List.length_nil] at hf3
      have h3 : wd = 0 ∨ wd = 1 ∨ wd = 2 := by omega
      rcases h3 with rfl | rfl | rfl
      · refine qm_go 3 (fun P hP => And.intro (fun c => absurd rfl c) (fun _ => hP ?_))
        refine qm_go 3 (fun P hP => c_fs1 (by omega) hp (fun σ3 b3 hm F3 hp3 => hP ?_) (fun σ3 b3 hm F3 hp3 => hP ?_))
        · refine qm_go 1 (fun P hP => And.intro (fun c => absurd rfl c) (fun _ => hP ?_))
          have hm : pzM (pzS tx L) a (hdS 0) = (b3, false) := hm
          unfold pzC1 at h0
          rw [hm] at h0
          exact qm_go 2 (fun P hP => And.intro rfl (h0 σ3 b3 hp3.le.1 F3.st hp3.at_ rfl))
        · refine qm_go 1 (fun P hP => And.intro (fun _ => hP ?_) (fun c => absurd c (by decide)))
          have hm : pzM (pzS tx L) a (hdS 0) = (b3, true) := hm
          unfold pzC1 at h0 h1
          rw [hm] at h0 h1
          exact c_cl33 (wd := 0) (by omega) (by omega) hp3 (hq.fr F3) hl (fun σ4 b4 z1 F4 z2 z3 => h0 σ4 b4 z1 (F3.st.tr F4) z2 z3) (fun σ4 b4 q F4 z1 z2 z3 z4 => h1 σ4 b4 q (F3.st.tr F4) z1 z2 z3 z4)
      · refine qm_go 3 (fun P hP => And.intro (fun _ => hP ?_) (fun c => absurd c (by decide)))
        refine qm_go 3 (fun P hP => And.intro (fun _ => hP ?_) (fun c => absurd c (by decide)))
        refine qm_go 2 (fun P hP => c_fs3 (by omega) hp (fun σ3 b3 hm F3 hp3 => hP ?_) (fun σ3 b3 hm F3 hp3 => hP ?_))
        · refine qm_go 1 (fun P hP => And.intro (fun c => absurd rfl c) (fun _ => hP ?_))
          have hm : pzM (pzS tx L) a (hdS 1) = (b3, false) := hm
          unfold pzC1 at h0
          rw [hm] at h0
          exact qm_go 2 (fun P hP => And.intro rfl (h0 σ3 b3 hp3.le.1 F3.st hp3.at_ rfl))
        · refine qm_go 1 (fun P hP => And.intro (fun _ => hP ?_) (fun c => absurd c (by decide)))
          have hm : pzM (pzS tx L) a (hdS 1) = (b3, true) := hm
          unfold pzC1 at h0 h1
          rw [hm] at h0 h1
          exact c_cl33 (wd := 1) (by omega) (by omega) hp3 (hq.fr F3) hl (fun σ4 b4 z1 F4 z2 z3 => h0 σ4 b4 z1 (F3.st.tr F4) z2 z3) (fun σ4 b4 q F4 z1 z2 z3 z4 => h1 σ4 b4 q (F3.st.tr F4) z1 z2 z3 z4)
      · refine qm_go 3 (fun P hP => And.intro (fun _ => hP ?_) (fun c => absurd c (by decide)))
        refine qm_go 3 (fun P hP => And.intro (fun c => absurd rfl c) (fun _ => hP ?_))
        refine qm_go 3 (fun P hP => c_fs2 (by omega) hp (fun σ3 b3 hm F3 hp3 => hP ?_) (fun σ3 b3 hm F3 hp3 => hP ?_))
        · refine qm_go 1 (fun P hP => And.intro (fun c => absurd rfl c) (fun _ => hP ?_))
          have hm : pzM (pzS tx L) a (hdS 2) = (b3, false) := hm
          unfold pzC1 at h0
          rw [hm] at h0
          exact qm_go 2 (fun P hP => And.intro rfl (h0 σ3 b3 hp3.le.1 F3.st hp3.at_ rfl))
        · refine qm_go 1 (fun P hP => And.intro (fun _ => hP ?_) (fun c => absurd c (by decide)))
          have hm : pzM (pzS tx L) a (hdS 2) = (b3, true) := hm
          unfold pzC1 at h0 h1
          rw [hm] at h0 h1
          exact c_cl33 (wd := 2) (by omega) (by omega) hp3 (hq.fr F3) hl (fun σ4 b4 z1 F4 z2 z3 => h0 σ4 b4 z1 (F3.st.tr F4) z2 z3) (fun σ4 b4 q F4 z1 z2 z3 z4 => h1 σ4 b4 q (F3.st.tr F4) z1 z2 z3 z4)
  · rw [pzX_no (c := pzS tx L a) [108, 115, 98] 0 (fun x hx => by rw [pzS_end ha]; simp only [List.mem_cons, List.not_mem_nil, or_false] at hx; omega)] at h0
    refine qm_go 5 (fun P hP => And.intro (fun _ => hP ?_) (fun c => absurd (hp.gt ha) c))
    refine qm_go 4 (fun P hP => And.intro (fun _ => hP ?_) (fun c => absurd (by decide) c))
    exact qm_go 2 (fun P hP => And.intro rfl (h0 σ _ hp.le.1 Fr.rf hp.at_ rfl))
