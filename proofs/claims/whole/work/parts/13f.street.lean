theorem pzL_f {g : Nat → Nat} {L k a b : Nat} {acc : CT9} (h : pzC g a (b, none)) : pzL g L (k + 1) a acc (b, none) := ⟨(b, none), h, rfl⟩
theorem pzL_e {g : Nat → Nat} {L k a b : Nat} {acc : CT9} {q : Nat × Nat × List Nat} (h : pzC g a (b, some q)) (e : b = L) : pzL g L (k + 1) a acc (b, some (acc ++ [q])) := by
  refine ⟨(b, some q), h, ?_⟩
  show (if b = L then _ else _)
  rw [if_pos e]
theorem pzL_s {g : Nat → Nat} {L k a b : Nat} {acc : CT9} {q : Nat × Nat × List Nat} (h : pzC g a (b, some q)) (e : ¬ b = L) (h2 : k = 0 ∨ ¬ g b = 59) : pzL g L (k + 1) a acc (b, none) := by
  refine ⟨(b, some q), h, ?_⟩
  show (if b = L then _ else if k = 0 ∨ ¬ g b = 59 then _ else _)
  rw [if_neg e, if_pos h2]
theorem pzL_m {g : Nat → Nat} {L k a b : Nat} {acc : CT9} {q : Nat × Nat × List Nat} {r : Nat × Option CT9} (h : pzC g a (b, some q)) (e : ¬ b = L) (hk : ¬ k = 0) (h5 : g b = 59) (m : pzL g L k (b + 1) (acc ++ [q]) r) : pzL g L (k + 1) a acc r := by
  refine ⟨(b, some q), h, ?_⟩
  show (if b = L then _ else if k = 0 ∨ ¬ g b = 59 then _ else _)
  rw [if_neg e, if_neg (fun z => z.elim hk (fun z => z h5))]
  exact m
theorem c_fltL {d : Nat} (hd : 21 ≤ d) {Q : qm_Po} {s L : Nat} {tx : Nat → Nat} {σ0 : qm_Sg} (h0 : ∀ σ' b, b ≤ L → Fr (tSt s) σ0 σ' → pzL (pzS tx L) L 10 0 [] (b, none) → Q σ' (some (vI (nI b)))) (h1 : ∀ σ' b c, Fr (tSt s) σ0 σ' → pzL (pzS tx L) L 10 0 [] (b, some c) → cRep σ' s c → wfC c → Q σ' (some (vI (-1)))) : ∀ (k a : Nat) (acc : CT9) (σ : qm_Sg), acc.length + k = 9 → cP s L tx σ a (tokC acc) → cQ s σ acc → (∀ q ∈ acc, wfQ q) → Fr (tSt s) σ0 σ → (∀ r, pzL (pzS tx L) L (k + 1) a acc r → pzL (pzS tx L) L 10 0 [] r) → qm_Wp (qm_M d) qk_48 Q 17 [some (vR 28 s), some (vI (nI L)), some (vI (nI acc.length))] [] σ := by
  intro k
  induction k with
  | zero =>
    intro a acc σ hk hp hq hw F hr
    have hl := hp.le
    refine qm_go 3 (fun P hP => And.intro (fun c => absurd c (nI_ge (b := 10) (by omega) (by decide))) (fun _ => hP ?_))
    refine qm_go 2 (fun P hP => c_clause (by omega) hp hq (by omega) (fun σ2 b b1 F2 b2 b3 => hP ?_) (fun σ2 b q F2 hp2 hq2 hw2 b3 => hP ?_))
    · refine qm_go 1 (fun P hP => And.intro (fun c => absurd rfl c) (fun _ => hP ?_))
      refine qm_go 2 (fun P hP => hP ?_)
      rw [b2]
      exact qm_go 1 (fun P hP => h0 σ2 b b1 (F.tr F2) (hr _ (pzL_f b3)))
    · refine qm_go 1 (fun P hP => And.intro (fun _ => hP ?_) (fun c => absurd c (by decide)))
      have hl2 := hp2.le
      by_cases e : b = L
      · refine qm_go 5 (fun P hP => And.intro (fun c => absurd (by rw [hp2.at_, hp2.len, e]) c) (fun _ => hP ?_))
        refine qm_go 2 (fun P hP => h1 σ2 b (acc ++ [q]) (F.tr F2) (hr _ (pzL_e b3 e)) (cRep_of hp2 hq2) ⟨by rw [List.length_append]; simp only [List.length_cons, List.length_nil]; omega, fun x hx => ?_⟩)
        rcases List.mem_append.mp hx with hx | hx
        · exact hw x hx
        · rw [List.mem_singleton.mp hx]; exact hw2
      · refine qm_go 5 (fun P hP => And.intro (fun _ => hP ?_) (fun c => absurd ((nI_eq (by omega) (by omega)).mp (by rw [← hp2.at_, ← hp2.len]; exact c)) e))
        refine qm_go 3 (fun P hP => And.intro (fun _ => hP ?_) (fun c => absurd (by rw [show acc.length = 9 by omega]; rfl) c))
        refine qm_go 2 (fun P hP => hP ?_)
        rw [hp2.at_]
        exact qm_go 1 (fun P hP => h0 σ2 b hl2.1 (F.tr F2) (hr _ (pzL_s b3 e (Or.inl rfl))))
  | succ k ih =>
    intro a acc σ hk hp hq hw F hr
    have hl := hp.le
    refine qm_go 3 (fun P hP => And.intro (fun c => absurd c (nI_ge (b := 10) (by omega) (by decide))) (fun _ => hP ?_))
    refine qm_go 2 (fun P hP => c_clause (by omega) hp hq (by omega) (fun σ2 b b1 F2 b2 b3 => hP ?_) (fun σ2 b q F2 hp2 hq2 hw2 b3 => hP ?_))
    · refine qm_go 1 (fun P hP => And.intro (fun c => absurd rfl c) (fun _ => hP ?_))
      refine qm_go 2 (fun P hP => hP ?_)
      rw [b2]
      exact qm_go 1 (fun P hP => h0 σ2 b b1 (F.tr F2) (hr _ (pzL_f b3)))
    · refine qm_go 1 (fun P hP => And.intro (fun _ => hP ?_) (fun c => absurd c (by decide)))
      have hl2 := hp2.le
      have hw3 : ∀ x ∈ acc ++ [q], wfQ x := fun x hx => by
        rcases List.mem_append.mp hx with hx | hx
        · exact hw x hx
        · rw [List.mem_singleton.mp hx]; exact hw2
      have hlen : (acc ++ [q]).length = acc.length + 1 := List.length_append
      by_cases e : b = L
      · refine qm_go 5 (fun P hP => And.intro (fun c => absurd (by rw [hp2.at_, hp2.len, e]) c) (fun _ => hP ?_))
        exact qm_go 2 (fun P hP => h1 σ2 b (acc ++ [q]) (F.tr F2) (hr _ (pzL_e b3 e)) (cRep_of hp2 hq2) ⟨by omega, hw3⟩)
      · have ha : b < L := by omega
        obtain ⟨g1, g2⟩ := hp2.sg ha
        refine qm_go 5 (fun P hP => And.intro (fun _ => hP ?_) (fun c => absurd ((nI_eq (by omega) (by omega)).mp (by rw [← hp2.at_, ← hp2.len]; exact c)) e))
        refine qm_go 3 (fun P hP => And.intro (fun c => absurd ((nI_eq (b := 9) (by omega) (by omega)).mp c) (by omega)) (fun _ => hP ?_))
        refine qm_go 5 (fun P hP => Exists.intro (b) (And.intro (And.intro (hp2.at_) (Nat.lt_of_lt_of_le ha hp2.le.2.1)) (hP ?_)))
        rw [g1]
        by_cases e5 : pzS tx L b = 59
        · refine qm_go 2 (fun P hP => And.intro (fun _ => hP ?_) (fun c => absurd ((sg_eq (c := 59) hp2 ha (by decide)).mpr e5) c))
          refine qm_go 6 (fun P hP => hP ?_)
          generalize hσ3 : wF _ 28 s (upd _ 10 _) = σ3
          have hp3 : cP s L tx σ3 (b + 1) (tokC (acc ++ [q])) := by rw [← hσ3]; exact hp2.at1 ha
          have F3 : Fr (tP s) σ2 σ3 := by rw [← hσ3]; exact hp2.F
          refine qm_go 2 (fun P hP => hP ?_)
          rw [nI_1]
          have hi := ih (b + 1) (acc ++ [q]) σ3 (by omega) hp3 (hq2.fr F3) hw3 ((F.tr F2).tr F3.st) (fun r k9 => hr r (pzL_m b3 e (by omega) e5 k9))
          rw [hlen] at hi
          exact hi
        · refine qm_go 2 (fun P hP => And.intro (fun c => absurd ((sg_eq (c := 59) hp2 ha (by decide)).mp c) e5) (fun _ => hP ?_))
          refine qm_go 2 (fun P hP => hP ?_)
          rw [hp2.at_]
          exact qm_go 1 (fun P hP => h0 σ2 b hl2.1 (F.tr F2) (hr _ (pzL_s b3 e (Or.inr e5))))
theorem c_fault {d : Nat} (hd : 22 ≤ d) {σ : qm_Sg} {Q : qm_Po} {s L : Nat} {tx : Nat → Nat} (hx : ∀ j, j < L → σ.1 5 0 j = nI (tx j)) (hE : sE σ) (hL : L ≤ 100) (h8 : ∀ j, j < L → tx j < 128) (h0 : ∀ σ' b, b ≤ L → Fr (tSt s) σ σ' → pzL (pzS tx L) L 10 0 [] (b, none) → Q σ' (some (vI (nI b)))) (h1 : ∀ σ' b c, Fr (tSt s) σ σ' → pzL (pzS tx L) L 10 0 [] (b, some c) → cRep σ' s c → wfC c → Q σ' (some (vI (-1)))) : qm_M d 48 [vR 28 s, vI (nI L)] σ Q := by
  obtain ⟨d, rfl, hd⟩ := qm_dn hd
  show qm_Wp (qm_M d) qk_48 Q 0 [some (vR 28 s), some (vI (nI L)), none] [] σ
  refine qm_go 15 (fun P hP => hP ?_)
  generalize hσ : wF _ 28 s (upd _ 6 _) = σ1
  have F : Fr (tSt s) σ σ1 := by
    rw [← hσ]
    exact Fr.p1 (Fr.p1 (Fr.p1 (Fr.p1 (Fr.w1 (by unfold tSt; omega)) (by unfold tSt; omega)) (by unfold tSt; omega)) (by unfold tSt; omega)) (by unfold tSt; omega)
  have e9 : σ1.1 28 s 9 = nI L := by rw [← hσ]; rw [wv_ne (by omega), wv_ne (by omega), wv_ne (by omega), wv_ne (by omega), wv_same]
  have e10 : σ1.1 28 s 10 = 0 := by rw [← hσ]; rw [wv_ne (by omega), wv_ne (by omega), wv_ne (by omega), wv_same]
  have e3 : σ1.1 28 s 3 = 0 := by rw [← hσ]; rw [wv_ne (by omega), wv_ne (by omega), wv_same]
  have e5 : σ1.1 28 s 5 = 0 := by rw [← hσ]; rw [wv_ne (by omega), wv_same]
  have e6 : σ1.1 28 s 6 = 40 := by rw [← hσ]; rw [wv_same]
  refine qm_go 2 (fun P hP => hP ?_)
  exact c_fltL (by omega) h0 h1 9 0 [] σ1 rfl ⟨fun j hj => by rw [F.1 _ _ _ (by unfold tSt; omega)]; exact hx j hj, hE.fr F (fun t i j q => by unfold tSt; omega), e9, e10, e5, (fun i t q => by cases q), by omega, hL, by decide, h8⟩ ⟨e3, e6, (fun i q hq => by cases hq)⟩ (fun q hq => by cases hq) F (fun r k => k)
def tS1 (s t i j : Nat) : Prop := (i = s ∧ 28 ≤ t ∧ t ≤ 32) ∨ (t = 0 ∧ (j = 8 ∨ j = 6)) ∨ (t = 10 ∧ i = 0 ∧ j = 11)
theorem Fr.s1 {s : Nat} {σ σ' : qm_Sg} (h : Fr (tSt s) σ σ') : Fr (tS1 s) σ σ' := h.mono (fun _ _ _ q => Or.inl q)
theorem c_street {d : Nat} (hd : 23 ≤ d) {σ : qm_Sg} {Q : qm_Po} {n L : Nat} {tx : Nat → Nat} (hx : ∀ j, j < L → σ.1 5 0 j = nI (tx j)) (hE : sE σ) (hL : L ≤ 100) (h8 : ∀ j, j < L → tx j < 128) (hn : n ≤ 6) (e6 : σ.1 0 0 6 = nI n) (e8 : σ.1 0 0 8 = nI L) (h6 : n = 6 → Q σ (some (vI (-4)))) (h0 : n < 6 → ∀ σ' b, Fr (tS1 n) σ σ' → σ'.1 0 0 8 = 0 → σ'.1 0 0 6 = nI n → σ'.1 10 0 11 = σ.1 10 0 11 → pzL (pzS tx L) L 10 0 [] (b, none) → Q σ' (some (vI (-10 - nI b)))) (h1 : n < 6 → ∀ σ' b c, Fr (tS1 n) σ σ' → σ'.1 0 0 8 = 0 → σ'.1 0 0 6 = nI (n + 1) → σ'.1 10 0 11 = nI n → pzL (pzS tx L) L 10 0 [] (b, some c) → cRep σ' n c → wfC c → Q σ' (some (vI (nI n)))) : qm_M d 71 [vR 0 0] σ Q := by
  obtain ⟨d, rfl, hd⟩ := qm_dn hd
  show qm_Wp (qm_M d) qk_71 Q 0 [some (vR 0 0), none, none] [] σ
  by_cases e : n = 6
  · refine qm_go 4 (fun P hP => And.intro (fun c => absurd (by rw [e6, e]; rfl) c) (fun _ => hP ?_))
    exact qm_go 2 (fun P hP => h6 e)
  · refine qm_go 4 (fun P hP => And.intro (fun _ => hP ?_) (fun c => absurd ((nI_eq (b := 6) (by omega) (by omega)).mp (by rw [← e6]; exact c)) e))
    have n6 : n < 6 := by omega
    refine qm_go 2 (fun P hP => hP ?_)
    rw [e8]
    refine qm_go 4 (fun P hP => hP ?_)
    generalize hσ : wF _ 0 0 (upd _ 8 _) = σ1
    have F1 : Fr (tS1 n) σ σ1 := by rw [← hσ]; exact Fr.w1 (by unfold tS1; omega)
    have k8 : σ1.1 0 0 8 = 0 := by rw [← hσ]; exact wv_same
    have k6 : σ1.1 0 0 6 = nI n := by rw [← hσ, wv_ne (by omega)]; exact e6
    have k11 : σ1.1 10 0 11 = σ.1 10 0 11 := by rw [← hσ, wF_ne _ _ (by omega)]
    refine qm_go 5 (fun P hP => Exists.intro (n) (And.intro (And.intro (k6) (n6)) (hP ?_)))
    refine qm_go 2 (fun P hP => c_fault (by omega) (L := L) (tx := tx) (fun j hj => by rw [F1.1 _ _ _ (by unfold tS1; omega)]; exact hx j hj) (hE.fr F1 (fun t i j q => by unfold tS1; omega)) hL h8 (fun σ2 b b1 F2 b2 => hP ?_) (fun σ2 b c F2 b2 b3 b4 => hP ?_))
    · refine qm_go 4 (fun P hP => And.intro (fun c => absurd c (dg_4 (by omega))) (fun _ => hP ?_))
      exact qm_go 4 (fun P hP => h0 n6 σ2 b (F1.tr F2.s1) (by rw [F2.1 _ _ _ (by unfold tSt; omega)]; exact k8) (by rw [F2.1 _ _ _ (by unfold tSt; omega)]; exact k6) (by rw [F2.1 _ _ _ (by unfold tSt; omega)]; exact k11) b2)
    · refine qm_go 4 (fun P hP => And.intro (fun _ => hP ?_) (fun c => absurd rfl c))
      have j6 : σ2.1 0 0 6 = nI n := by rw [F2.1 _ _ _ (by unfold tSt; omega)]; exact k6
      have j8 : σ2.1 0 0 8 = 0 := by rw [F2.1 _ _ _ (by unfold tSt; omega)]; exact k8
      refine qm_go 5 (fun P hP => hP ?_)
      refine qm_go 6 (fun P hP => hP ?_)
      generalize hσ3 : wF _ 0 0 (upd _ 6 _) = σ3
      have F3 : Fr (fun t i j => (t = 0 ∧ j = 6) ∨ (t = 10 ∧ i = 0 ∧ j = 11)) σ2 σ3 := by
        rw [← hσ3]
        exact Fr.p1 (Fr.w1 (by omega)) (by omega)
      have m6 : σ3.1 0 0 6 = nI (n + 1) := by rw [← hσ3, wv_same, wF_ne _ _ (by omega), j6, nI_1]
      have m8 : σ3.1 0 0 8 = 0 := by rw [F3.1 _ _ _ (by omega)]; exact j8
      have m11 : σ3.1 10 0 11 = nI n := by rw [← hσ3, wF_ne _ _ (by omega), wv_same]; exact j6
      refine qm_go 3 (fun P hP => hP ?_)
      rw [m11]
      exact qm_go 1 (fun P hP => h1 n6 σ3 b c ((F1.tr F2.s1).tr (F3.mono (fun t i j q => by unfold tS1; omega))) m8 m6 m11 b2 (b3.fr F3 (fun t i j a b => by omega)) b4)
