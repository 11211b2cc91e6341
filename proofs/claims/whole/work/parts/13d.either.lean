theorem c_bothL {d s L v : Nat} {tx : Nat → Nat} {Q : qm_Po} {σ0 : qm_Sg} {a : Nat} {co w out : List Nat} (hd : 1 ≤ d) (hF : spF d s L tx v) (hh : hdT w) (h0 : ∀ σ' b, b ≤ L → Fr (tP s) σ0 σ' → σ'.1 28 s 10 = nI b → pzG (pzS tx L) true a w (nI v) out (b, none) → Q σ' (some (vI 0))) (h1 : ∀ σ' b ns w1 o1, ns.length + a ≤ b → Fr (tP s) σ0 σ' → cP s L tx σ' b (co ++ ns) → wfN ns (2 * v + 1) → ¬ pzS tx L b = 38 → (∀ z, pzE z w1 o1 = pzE z w (out ++ ns)) → (∀ r, pzG (pzS tx L) false b w1 (nI v) o1 r → pzG (pzS tx L) true a w (nI v) out r) → Q σ' (some (vI 1))) : ∀ (k b : Nat) (ns w1 o1 : List Nat) (σ : qm_Sg) (m : Nat), L ≤ b + k → m ≤ b → ns.length + a ≤ b → cP s L tx σ b (co ++ ns) → Fr (tP s) σ0 σ → wfN ns (2 * v + 1) → (∀ z, pzE z w1 o1 = pzE z w (out ++ ns)) → (∀ r, pzG (pzS tx L) false b w1 (nI v) o1 r → pzG (pzS tx L) true a w (nI v) out r) → qm_Wp (qm_M d) qk_53 Q 8 [some (vR 28 s), some (vI (nI v)), some (vI (nI m))] [] σ := by
  intro k
  induction k with
  | zero =>
    intro b ns w1 o1 σ m hkb hm hn hp F hw  hi hk
    have hl := hp.le
    have ha : ¬ b < L := by omega
    have eN : ¬ pzS tx L b = 38 := by rw [pzS_end ha]; omega
    refine qm_go 3 (fun P hP => And.intro (fun c => hP ?_) (fun c => hP ?_))
    · exact qm_go 2 (fun P hP => And.intro rfl (h1 σ b ns w1 o1 hn F hp hw eN hi hk))
    · refine qm_go 5 (fun P hP => And.intro (fun _ => hP ?_) (fun c => absurd (hp.gt ha) c))
      exact qm_go 2 (fun P hP => And.intro rfl (h1 σ b ns w1 o1 hn F hp hw eN hi hk))
  | succ k ih =>
    intro b ns w1 o1 σ m hkb hm hn hp F hw  hi hk
    have hl := hp.le
    by_cases ha : b < L
    · obtain ⟨g1, g2⟩ := hp.sg ha
      refine qm_go 3 (fun P hP => And.intro (fun c => absurd c (nI_ge (b := 100) (by omega) (by decide))) (fun _ => hP ?_))
      refine qm_go 5 (fun P hP => And.intro (fun c => absurd c (hp.ge ha)) (fun _ => hP ?_))
      refine qm_go 5 (fun P hP => Exists.intro (b) (And.intro (And.intro (hp.at_) (Nat.lt_of_lt_of_le ha hp.le.2.1)) (hP ?_)))
      rw [g1]
      by_cases e : pzS tx L b = 38
      · refine qm_go 2 (fun P hP => And.intro (fun c => absurd ((sg_eq (c := 38) hp ha (by decide)).mpr e) c) (fun _ => hP ?_))
        refine qm_go 6 (fun P hP => hP ?_)
        generalize hσ2 : wF _ 28 s (upd _ 10 _) = σ2
        have hp2 : cP s L tx σ2 (b + 1) (co ++ ns) := by rw [← hσ2]; exact hp.at1 ha
        have F2 : Fr (tP s) σ σ2 := by rw [← hσ2]; exact hp.F
        refine qm_go 3 (fun P hP => hF σ2 _ (b + 1) (co ++ ns) (38 :: w) (out ++ ns) hp2 (fun σ3 b9 b1 F3 b2 b3 => hP ?_) (fun σ3 b9 n2 b0 F3 hp3 b1 b4 => hP ?_))
        · refine qm_go 1 (fun P hP => And.intro (fun c => absurd rfl c) (fun _ => hP ?_))
          refine qm_go 2 (fun P hP => And.intro rfl (h0 σ3 b9 b1 ((F.tr F2).tr F3) b2 (hk _ (pzG_op (Or.inl e) ?_))))
          rw [e, hi, pzE_38 hh]
          exact b3
        · refine qm_go 1 (fun P hP => And.intro (fun _ => hP ?_) (fun c => absurd c (by decide)))
          have hl3 := hp3.le
          have hl9 : (co ++ ns ++ n2).length = co.length + ns.length + n2.length := by rw [List.length_append, List.length_append]
          have hl8 : (ns ++ (n2 ++ [1])).length = ns.length + (n2.length + 1) := by rw [List.length_append, List.length_append]; rfl
          have hl7 : (co ++ ns).length = co.length + ns.length := List.length_append
          refine qm_go 3 (fun P hP => c_writes (t := 1) (by omega) hp3 (by omega) (fun σ4 F4 hp4 => hP ?_))
          refine qm_go 2 (fun P hP => hP ?_)
          rw [nI_1]
          refine ih b9 (ns ++ (n2 ++ [1])) (38 :: w) (out ++ ns ++ n2) σ4 (m + 1) (by omega) (by omega) (by omega) (by rw [← List.append_assoc, ← List.append_assoc]; exact hp4) (((F.tr F2).tr F3).tr F4) (wfN_and hw (wfN_le b1 (by omega))) (fun z => ?_) (fun r k => hk r (pzG_op (Or.inl e) (by rw [e, hi, pzE_38 hh]; exact b4 r k)))
          show pzE z w (out ++ ns ++ n2 ++ [1]) = _
          simp only [List.append_assoc]
      · refine qm_go 2 (fun P hP => And.intro (fun _ => hP ?_) (fun c => absurd ((sg_eq (c := 38) hp ha (by decide)).mp c) e))
        exact qm_go 2 (fun P hP => And.intro rfl (h1 σ b ns w1 o1 hn F hp hw e hi hk))
    · have eN : ¬ pzS tx L b = 38 := by rw [pzS_end ha]; omega
      refine qm_go 3 (fun P hP => And.intro (fun c => hP ?_) (fun c => hP ?_))
      · exact qm_go 2 (fun P hP => And.intro rfl (h1 σ b ns w1 o1 hn F hp hw eN hi hk))
      · refine qm_go 5 (fun P hP => And.intro (fun _ => hP ?_) (fun c => absurd (hp.gt ha) c))
        exact qm_go 2 (fun P hP => And.intro rfl (h1 σ b ns w1 o1 hn F hp hw eN hi hk))
theorem c_both {d s L v : Nat} {tx : Nat → Nat} (hd : 1 ≤ d) (hF : spF d s L tx v) : spT (d + 1) s L tx v := by
  intro σ Q a co w out hp hh h0 h1
  show qm_Wp (qm_M d) qk_53 Q 0 [some (vR 28 s), some (vI (nI v)), none] [] σ
  refine qm_go 3 (fun P hP => hF σ _ a co w out hp (fun σ3 b b1 F3 b2 b3 => hP ?_) (fun σ3 b ns b0 F3 hp3 b1 b4 => hP ?_))
  · refine qm_go 1 (fun P hP => And.intro (fun c => absurd rfl c) (fun _ => hP ?_))
    exact qm_go 2 (fun P hP => And.intro rfl (h0 σ3 b b1 F3 b2 b3))
  · refine qm_go 1 (fun P hP => And.intro (fun _ => hP ?_) (fun c => absurd c (by decide)))
    refine qm_go 2 (fun P hP => hP ?_)
    exact c_bothL hd hF hh h0 h1 L b ns w (out ++ ns) σ3 0 (by omega) (by omega) b0 hp3 F3 (wfN_le b1 (by omega)) (fun z => rfl) (fun r k => b4 r (by rw [pzW_hd hh]; exact k))
theorem c_eithL {d s L v : Nat} {tx : Nat → Nat} {Q : qm_Po} {σ0 : qm_Sg} {a : Nat} {co w out : List Nat} (hd : 1 ≤ d) (hT : spT d s L tx v) (hh : hdE w) (h0 : ∀ σ' b, b ≤ L → Fr (tP s) σ0 σ' → σ'.1 28 s 10 = nI b → pzG (pzS tx L) true a w (nI v) out (b, none) → Q σ' (some (vI 0))) (h1 : ∀ σ' b ns w1 o1, ns.length + a ≤ b → Fr (tP s) σ0 σ' → cP s L tx σ' b (co ++ ns) → wfN ns (2 * v) → ¬ (pzS tx L b = 38 ∨ pzS tx L b = 124) → pzE 124 w1 o1 = (w, out ++ ns) → (∀ r, pzG (pzS tx L) false b w1 (nI v) o1 r → pzG (pzS tx L) true a w (nI v) out r) → Q σ' (some (vI 1))) : ∀ (k b : Nat) (ns w1 o1 : List Nat) (σ : qm_Sg) (m : Nat), L ≤ b + k → m ≤ b → ns.length + a ≤ b → cP s L tx σ b (co ++ ns) → Fr (tP s) σ0 σ → wfN ns (2 * v) → ¬ pzS tx L b = 38 → pzE 124 w1 o1 = (w, out ++ ns) → (∀ r, pzG (pzS tx L) false b w1 (nI v) o1 r → pzG (pzS tx L) true a w (nI v) out r) → qm_Wp (qm_M d) qk_52 Q 8 [some (vR 28 s), some (vI (nI v)), some (vI (nI m))] [] σ := by
  intro k
  induction k with
  | zero =>
    intro b ns w1 o1 σ m hkb hm hn hp F hw hb38 hi hk
    have hl := hp.le
    have ha : ¬ b < L := by omega
    have eN : ¬ pzS tx L b = 124 := by rw [pzS_end ha]; omega
    refine qm_go 3 (fun P hP => And.intro (fun c => hP ?_) (fun c => hP ?_))
    · exact qm_go 2 (fun P hP => And.intro rfl (h1 σ b ns w1 o1 hn F hp hw (fun z => z.elim hb38 eN) hi hk))
    · refine qm_go 5 (fun P hP => And.intro (fun _ => hP ?_) (fun c => absurd (hp.gt ha) c))
      exact qm_go 2 (fun P hP => And.intro rfl (h1 σ b ns w1 o1 hn F hp hw (fun z => z.elim hb38 eN) hi hk))
  | succ k ih =>
    intro b ns w1 o1 σ m hkb hm hn hp F hw hb38 hi hk
    have hl := hp.le
    by_cases ha : b < L
    · obtain ⟨g1, g2⟩ := hp.sg ha
      refine qm_go 3 (fun P hP => And.intro (fun c => absurd c (nI_ge (b := 100) (by omega) (by decide))) (fun _ => hP ?_))
      refine qm_go 5 (fun P hP => And.intro (fun c => absurd c (hp.ge ha)) (fun _ => hP ?_))
      refine qm_go 5 (fun P hP => Exists.intro (b) (And.intro (And.intro (hp.at_) (Nat.lt_of_lt_of_le ha hp.le.2.1)) (hP ?_)))
      rw [g1]
      by_cases e : pzS tx L b = 124
      · refine qm_go 2 (fun P hP => And.intro (fun c => absurd ((sg_eq (c := 124) hp ha (by decide)).mpr e) c) (fun _ => hP ?_))
        refine qm_go 6 (fun P hP => hP ?_)
        generalize hσ2 : wF _ 28 s (upd _ 10 _) = σ2
        have hp2 : cP s L tx σ2 (b + 1) (co ++ ns) := by rw [← hσ2]; exact hp.at1 ha
        have F2 : Fr (tP s) σ σ2 := by rw [← hσ2]; exact hp.F
        refine qm_go 3 (fun P hP => hT σ2 _ (b + 1) (co ++ ns) (124 :: w) (out ++ ns) hp2 (fun c r q => by cases q; decide) (fun σ3 b9 b1 F3 b2 b3 => hP ?_) (fun σ3 b9 n2 w2 o2 b0 F3 hp3 b1 b38 bE b4 => hP ?_))
        · refine qm_go 1 (fun P hP => And.intro (fun c => absurd rfl c) (fun _ => hP ?_))
          refine qm_go 2 (fun P hP => And.intro rfl (h0 σ3 b9 b1 ((F.tr F2).tr F3) b2 (hk _ (pzG_op (Or.inr e) ?_))))
          rw [e, hi]
          exact b3
        · refine qm_go 1 (fun P hP => And.intro (fun _ => hP ?_) (fun c => absurd c (by decide)))
          have hl3 := hp3.le
          have hl9 : (co ++ ns ++ n2).length = co.length + ns.length + n2.length := by rw [List.length_append, List.length_append]
          have hl8 : (ns ++ (n2 ++ [2])).length = ns.length + (n2.length + 1) := by rw [List.length_append, List.length_append]; rfl
          have hl7 : (co ++ ns).length = co.length + ns.length := List.length_append
          refine qm_go 3 (fun P hP => c_writes (t := 2) (by omega) hp3 (by omega) (fun σ4 F4 hp4 => hP ?_))
          refine qm_go 2 (fun P hP => hP ?_)
          rw [nI_1]
          refine ih b9 (ns ++ (n2 ++ [2])) w2 o2 σ4 (m + 1) (by omega) (by omega) (by omega) (by rw [← List.append_assoc, ← List.append_assoc]; exact hp4) (((F.tr F2).tr F3).tr F4) (wfN_or hw (wfN_le b1 (by omega))) b38 ?_ (fun r k => hk r (pzG_op (Or.inr e) (by rw [e, hi]; exact b4 r k)))
          rw [bE, show pzE 124 (124 :: w) (out ++ ns ++ n2) = pzE 124 w (out ++ ns ++ n2 ++ [2]) from rfl, pzE_hd hh]
          simp only [List.append_assoc]
      · refine qm_go 2 (fun P hP => And.intro (fun _ => hP ?_) (fun c => absurd ((sg_eq (c := 124) hp ha (by decide)).mp c) e))
        exact qm_go 2 (fun P hP => And.intro rfl (h1 σ b ns w1 o1 hn F hp hw (fun z => z.elim hb38 e) hi hk))
    · have eN : ¬ pzS tx L b = 124 := by rw [pzS_end ha]; omega
      refine qm_go 3 (fun P hP => And.intro (fun c => hP ?_) (fun c => hP ?_))
      · exact qm_go 2 (fun P hP => And.intro rfl (h1 σ b ns w1 o1 hn F hp hw (fun z => z.elim hb38 eN) hi hk))
      · refine qm_go 5 (fun P hP => And.intro (fun _ => hP ?_) (fun c => absurd (hp.gt ha) c))
        exact qm_go 2 (fun P hP => And.intro rfl (h1 σ b ns w1 o1 hn F hp hw (fun z => z.elim hb38 eN) hi hk))
theorem c_eith {d s L v : Nat} {tx : Nat → Nat} (hd : 1 ≤ d) (hT : spT d s L tx v) : spE (d + 1) s L tx v := by
  intro σ Q a co w out hp hh h0 h1
  show qm_Wp (qm_M d) qk_52 Q 0 [some (vR 28 s), some (vI (nI v)), none] [] σ
  refine qm_go 3 (fun P hP => hT σ _ a co w out hp hh.t (fun σ3 b b1 F3 b2 b3 => hP ?_) (fun σ3 b ns w1 o1 b0 F3 hp3 b1 b38 bE b4 => hP ?_))
  · refine qm_go 1 (fun P hP => And.intro (fun c => absurd rfl c) (fun _ => hP ?_))
    exact qm_go 2 (fun P hP => And.intro rfl (h0 σ3 b b1 F3 b2 b3))
  · refine qm_go 1 (fun P hP => And.intro (fun _ => hP ?_) (fun c => absurd c (by decide)))
    refine qm_go 2 (fun P hP => hP ?_)
    exact c_eithL hd hT hh h0 h1 L b ns w1 o1 σ3 0 (by omega) (by omega) b0 hp3 F3 (wfN_le b1 (by omega)) b38 (by rw [bE, pzE_hd hh]) b4
theorem spF_4 {d s L : Nat} {tx : Nat → Nat} (hd : 6 ≤ d) : spF d s L tx 4 := fun σ Q a co w out hp h0 h1 => c_part4 hd hp h0 h1
theorem sp_all {s L : Nat} {tx : Nat → Nat} : ∀ (j d : Nat), j ≤ 4 → 8 + 3 * j ≤ d → spF (d - 2) s L tx (4 - j) ∧ spE d s L tx (4 - j)
  | 0, d, _, hd => by
    obtain ⟨e, rfl⟩ : ∃ e, d = e + 2 := ⟨d - 2, by omega⟩
    exact ⟨spF_4 (by omega), c_eith (by omega) (c_both (by omega) (spF_4 (by omega)))⟩
  | j + 1, d, hj, hd => by
    obtain ⟨e, rfl⟩ : ∃ e, d = e + 3 := ⟨d - 3, by omega⟩
    have h1 := (sp_all (s := s) (L := L) (tx := tx) j e (by omega) (by omega)).2
    have h2 := (sp_all (s := s) (L := L) (tx := tx) j (e + 2) (by omega) (by omega)).1
    have hv : 4 - (j + 1) + 1 = 4 - j := by omega
    have hF : spF (e + 1) s L tx (4 - (j + 1)) := fun σ Q a co w out hp h0 h1' => c_partV (by omega) hp (by omega) (by rw [hv]; exact h2) (by rw [hv]; exact h1) h0 h1'
    exact ⟨hF, c_eith (by omega) (c_both (by omega) hF)⟩
theorem c_E {d s L : Nat} {tx : Nat → Nat} (hd : 20 ≤ d) : spE d s L tx 0 := (sp_all 4 d (by omega) (by omega)).2
