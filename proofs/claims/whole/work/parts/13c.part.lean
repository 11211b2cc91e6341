def wfN (ns : List Nat) (m : Nat) : Prop := ∀ h, h ≤ m → ∀ rest e, wfT rest (h + 1) e → wfT (ns ++ rest) h e
theorem wfN_t {t m : Nat} (ht : t < 1800) (hm : m < 25) : wfN [t + 3] m := fun h hh rest e q => ⟨ht, by omega, q⟩
theorem wfN_not {ns : List Nat} {m : Nat} (h : wfN ns m) : wfN (ns ++ [0]) m := fun k hk rest e q => by
  rw [List.append_assoc]
  exact h k hk _ _ ⟨by omega, q⟩
theorem wfN_and {n1 n2 : List Nat} {m : Nat} (h1 : wfN n1 m) (h2 : wfN n2 (m + 1)) : wfN (n1 ++ (n2 ++ [1])) m := fun k hk rest e q => by
  rw [List.append_assoc, List.append_assoc]
  exact h1 k hk _ _ (h2 (k + 1) (by omega) _ _ ⟨by omega, q⟩)
theorem wfN_or {n1 n2 : List Nat} {m : Nat} (h1 : wfN n1 m) (h2 : wfN n2 (m + 1)) : wfN (n1 ++ (n2 ++ [2])) m := fun k hk rest e q => by
  rw [List.append_assoc, List.append_assoc]
  exact h1 k hk _ _ (h2 (k + 1) (by omega) _ _ ⟨by omega, q⟩)
theorem wfN_le {ns : List Nat} {m m' : Nat} (h : wfN ns m) (hm : m' ≤ m) : wfN ns m' := fun k hk => h k (by omega)
def spF (d s L : Nat) (tx : Nat → Nat) (v : Nat) : Prop := ∀ (σ : qm_Sg) (Q : qm_Po) (a : Nat) (co w out : List Nat), cP s L tx σ a co →
  (∀ σ' b, b ≤ L → Fr (tP s) σ σ' → σ'.1 28 s 10 = nI b → pzG (pzS tx L) true a w (nI v) out (b, none) → Q σ' (some (vI 0))) →
  (∀ σ' b ns, ns.length + a ≤ b → Fr (tP s) σ σ' → cP s L tx σ' b (co ++ ns) → wfN ns (2 * v + 2) → (∀ r, pzG (pzS tx L) false b (pzW w (nI v) (out ++ ns)).1 (pzW w (nI v) (out ++ ns)).2.1 (pzW w (nI v) (out ++ ns)).2.2 r → pzG (pzS tx L) true a w (nI v) out r) → Q σ' (some (vI 1))) → qm_M d 54 [vR 28 s, vI (nI v)] σ Q
def hdT (w : List Nat) : Prop := ∀ c r, w = c :: r → c ≠ 33 ∧ c ≠ 38
def hdE (w : List Nat) : Prop := ∀ c r, w = c :: r → c ≠ 33 ∧ c ≠ 38 ∧ c ≠ 124
def spT (d s L : Nat) (tx : Nat → Nat) (v : Nat) : Prop := ∀ (σ : qm_Sg) (Q : qm_Po) (a : Nat) (co w out : List Nat), cP s L tx σ a co → hdT w →
  (∀ σ' b, b ≤ L → Fr (tP s) σ σ' → σ'.1 28 s 10 = nI b → pzG (pzS tx L) true a w (nI v) out (b, none) → Q σ' (some (vI 0))) →
  (∀ σ' b ns w1 o1, ns.length + a ≤ b → Fr (tP s) σ σ' → cP s L tx σ' b (co ++ ns) → wfN ns (2 * v + 1) → ¬ pzS tx L b = 38 → (∀ z, pzE z w1 o1 = pzE z w (out ++ ns)) → (∀ r, pzG (pzS tx L) false b w1 (nI v) o1 r → pzG (pzS tx L) true a w (nI v) out r) → Q σ' (some (vI 1))) → qm_M d 53 [vR 28 s, vI (nI v)] σ Q
def spE (d s L : Nat) (tx : Nat → Nat) (v : Nat) : Prop := ∀ (σ : qm_Sg) (Q : qm_Po) (a : Nat) (co w out : List Nat), cP s L tx σ a co → hdE w →
  (∀ σ' b, b ≤ L → Fr (tP s) σ σ' → σ'.1 28 s 10 = nI b → pzG (pzS tx L) true a w (nI v) out (b, none) → Q σ' (some (vI 0))) →
  (∀ σ' b ns w1 o1, ns.length + a ≤ b → Fr (tP s) σ σ' → cP s L tx σ' b (co ++ ns) → wfN ns (2 * v) → ¬ (pzS tx L b = 38 ∨ pzS tx L b = 124) → pzE 124 w1 o1 = (w, out ++ ns) → (∀ r, pzG (pzS tx L) false b w1 (nI v) o1 r → pzG (pzS tx L) true a w (nI v) out r) → Q σ' (some (vI 1))) → qm_M d 52 [vR 28 s, vI (nI v)] σ Q
theorem pzW_hd {w out : List Nat} {op : Int32} (h : hdT w) : pzW w op out = (w, op, out) := by
  cases w with
  | nil => rfl
  | cons c r => unfold pzW; rw [if_neg (h c r rfl).1]
theorem pzE_38 {w out : List Nat} (h : hdT w) : pzE 38 w out = (w, out) := by
  cases w with
  | nil => rfl
  | cons c r => unfold pzE; rw [if_neg (h c r rfl).2, if_neg (fun q => q.2 rfl)]
theorem pzE_hd {z : Nat} {w out : List Nat} (h : hdE w) : pzE z w out = (w, out) := by
  cases w with
  | nil => rfl
  | cons c r => unfold pzE; rw [if_neg (h c r rfl).2.1, if_neg (fun q => (h c r rfl).2.2 q.1)]
theorem hdE.t {w : List Nat} (h : hdE w) : hdT w := fun c r e => ⟨(h c r e).1, (h c r e).2.1⟩
theorem sg_eq {s L : Nat} {tx : Nat → Nat} {σ : qm_Sg} {a c : Nat} {co : List Nat} (hp : cP s L tx σ a co) (ha : a < L) (hc : c < 128) : nI (pzS tx L a) = nI c ↔ pzS tx L a = c := nI_eq (Nat.lt_trans (hp.sg ha).2 (by decide)) (by omega)
set_option maxHeartbeats 1000000 in
theorem c_part4 {d : Nat} (hd : 6 ≤ d) {σ : qm_Sg} {Q : qm_Po} {s L : Nat} {tx : Nat → Nat} {a : Nat} {co w out : List Nat} (hp : cP s L tx σ a co) (h0 : ∀ σ' b, b ≤ L → Fr (tP s) σ σ' → σ'.1 28 s 10 = nI b → pzG (pzS tx L) true a w (nI 4) out (b, none) → Q σ' (some (vI 0))) (h1 : ∀ σ' b ns, ns.length + a ≤ b → Fr (tP s) σ σ' → cP s L tx σ' b (co ++ ns) → wfN ns (2 * 4 + 2) → (∀ r, pzG (pzS tx L) false b (pzW w (nI 4) (out ++ ns)).1 (pzW w (nI 4) (out ++ ns)).2.1 (pzW w (nI 4) (out ++ ns)).2.2 r → pzG (pzS tx L) true a w (nI 4) out r) → Q σ' (some (vI 1))) : qm_M d 54 [vR 28 s, vI (nI 4)] σ Q := by
  obtain ⟨d, rfl, hd⟩ := qm_dn hd
  show qm_Wp (qm_M d) qk_54 Q 0 [some (vR 28 s), some (vI (nI 4)), none, none] [] σ
  by_cases ha : a < L
  · obtain ⟨g1, g2⟩ := hp.sg ha
    by_cases e : pzS tx L a = 40
    · refine qm_go 5 (fun P hP => And.intro (fun c => absurd c (hp.ge ha)) (fun _ => hP ?_))
      refine qm_go 5 (fun P hP => Exists.intro (a) (And.intro (And.intro (hp.at_) (Nat.lt_of_lt_of_le ha hp.le.2.1)) (hP ?_)))
      rw [g1]
      refine qm_go 2 (fun P hP => And.intro (fun c => absurd ((sg_eq hp ha (by decide)).mpr e) c) (fun _ => hP ?_))
      refine qm_go 8 (fun P hP => And.intro (fun c => absurd c (hp.ge ha)) (fun _ => hP ?_))
      refine qm_go 5 (fun P hP => Exists.intro (a) (And.intro (And.intro (hp.at_) (Nat.lt_of_lt_of_le ha hp.le.2.1)) (hP ?_)))
      rw [g1]
      refine qm_go 2 (fun P hP => And.intro (fun _ => hP ?_) (fun c => absurd ((sg_eq (c := 33) hp ha (by decide)).mp c) (by omega)))
      refine qm_go 4 (fun P hP => And.intro (fun _ => hP ?_) (fun c => absurd c (by decide)))
      refine qm_go 3 (fun P hP => And.intro (fun c => absurd c (by decide)) (fun _ => hP ?_))
      exact qm_go 2 (fun P hP => And.intro rfl (h0 σ a hp.le.1 Fr.rf hp.at_ (pzG_deep (Or.inr e))))
    · by_cases e2 : pzS tx L a = 33
      · have e1 := e
        have e := e2
        refine qm_go 5 (fun P hP => And.intro (fun c => absurd c (hp.ge ha)) (fun _ => hP ?_))
        refine qm_go 5 (fun P hP => Exists.intro (a) (And.intro (And.intro (hp.at_) (Nat.lt_of_lt_of_le ha hp.le.2.1)) (hP ?_)))
        rw [g1]
        refine qm_go 2 (fun P hP => And.intro (fun _ => hP ?_) (fun c => absurd ((sg_eq (c := 40) hp ha (by decide)).mp c) (by omega)))
        refine qm_go 7 (fun P hP => And.intro (fun c => absurd c (hp.ge ha)) (fun _ => hP ?_))
        refine qm_go 5 (fun P hP => Exists.intro (a) (And.intro (And.intro (hp.at_) (Nat.lt_of_lt_of_le ha hp.le.2.1)) (hP ?_)))
        rw [g1]
        refine qm_go 2 (fun P hP => And.intro (fun c => absurd ((sg_eq hp ha (by decide)).mpr e) c) (fun _ => hP ?_))
        refine qm_go 5 (fun P hP => And.intro (fun c => absurd rfl c) (fun _ => hP ?_))
        refine qm_go 2 (fun P hP => And.intro (fun _ => hP ?_) (fun c => absurd c (by decide)))
        refine qm_go 3 (fun P hP => And.intro (fun c => absurd c (by decide)) (fun _ => hP ?_))
        exact qm_go 2 (fun P hP => And.intro rfl (h0 σ a hp.le.1 Fr.rf hp.at_ (pzG_deep (Or.inl e))))
      · refine qm_go 5 (fun P hP => And.intro (fun c => absurd c (hp.ge ha)) (fun _ => hP ?_))
        refine qm_go 5 (fun P hP => Exists.intro (a) (And.intro (And.intro (hp.at_) (Nat.lt_of_lt_of_le ha hp.le.2.1)) (hP ?_)))
        rw [g1]
        refine qm_go 2 (fun P hP => And.intro (fun _ => hP ?_) (fun c => absurd ((sg_eq (c := 40) hp ha (by decide)).mp c) e))
        refine qm_go 7 (fun P hP => And.intro (fun c => absurd c (hp.ge ha)) (fun _ => hP ?_))
        refine qm_go 5 (fun P hP => Exists.intro (a) (And.intro (And.intro (hp.at_) (Nat.lt_of_lt_of_le ha hp.le.2.1)) (hP ?_)))
        rw [g1]
        refine qm_go 2 (fun P hP => And.intro (fun _ => hP ?_) (fun c => absurd ((sg_eq (c := 33) hp ha (by decide)).mp c) e2))
        refine qm_go 4 (fun P hP => And.intro (fun c => absurd rfl c) (fun _ => hP ?_))
        refine qm_go 2 (fun P hP => And.intro (fun c => absurd rfl c) (fun _ => hP ?_))
        refine qm_go 2 (fun P hP => c_test (by omega) hp (fun σ2 b ht F2 hp2 => hP ?_) (fun σ2 b t ht t1 t2 F2 hp2 => hP ?_))
        · exact qm_go 1 (fun P hP => And.intro rfl (h0 σ2 b hp2.le.1 F2 hp2.at_ (pzG_bad (fun z => z.elim e2 e) ht)))
        · exact qm_go 1 (fun P hP => And.intro rfl (h1 σ2 b [t + 3] (by simp only [List.length_cons, List.length_nil]; omega) F2 hp2 (wfN_t t1 (by omega)) (fun r k => pzG_test (fun z => z.elim e2 e) ht k)))
  · refine qm_go 5 (fun P hP => And.intro (fun _ => hP ?_) (fun c => absurd (hp.gt ha) c))
    refine qm_go 7 (fun P hP => And.intro (fun _ => hP ?_) (fun c => absurd (hp.gt ha) c))
    refine qm_go 4 (fun P hP => And.intro (fun c => absurd rfl c) (fun _ => hP ?_))
    refine qm_go 2 (fun P hP => And.intro (fun c => absurd rfl c) (fun _ => hP ?_))
    refine qm_go 2 (fun P hP => c_test (by omega) hp (fun σ2 b ht F2 hp2 => hP ?_) (fun σ2 b t ht t1 t2 F2 hp2 => hP ?_))
    · exact qm_go 1 (fun P hP => And.intro rfl (h0 σ2 b hp2.le.1 F2 hp2.at_ (pzG_bad (fun z => by rw [pzS_end ha] at z; omega) ht)))
    · exact qm_go 1 (fun P hP => And.intro rfl (h1 σ2 b [t + 3] (by simp only [List.length_cons, List.length_nil]; omega) F2 hp2 (wfN_t t1 (by omega)) (fun r k => pzG_test (fun z => by rw [pzS_end ha] at z; omega) ht k)))
set_option maxHeartbeats 1000000 in
theorem c_partV {d : Nat} (hd : 6 ≤ d + 1) {σ : qm_Sg} {Q : qm_Po} {s L : Nat} {tx : Nat → Nat} {a : Nat} {co w out : List Nat} (hp : cP s L tx σ a co) {v : Nat} (hv : v < 4) (hF : spF d s L tx (v + 1)) (hE : spE d s L tx (v + 1)) (h0 : ∀ σ' b, b ≤ L → Fr (tP s) σ σ' → σ'.1 28 s 10 = nI b → pzG (pzS tx L) true a w (nI v) out (b, none) → Q σ' (some (vI 0))) (h1 : ∀ σ' b ns, ns.length + a ≤ b → Fr (tP s) σ σ' → cP s L tx σ' b (co ++ ns) → wfN ns (2 * v + 2) → (∀ r, pzG (pzS tx L) false b (pzW w (nI v) (out ++ ns)).1 (pzW w (nI v) (out ++ ns)).2.1 (pzW w (nI v) (out ++ ns)).2.2 r → pzG (pzS tx L) true a w (nI v) out r) → Q σ' (some (vI 1))) : qm_M (d + 1) 54 [vR 28 s, vI (nI v)] σ Q := by
  show qm_Wp (qm_M d) qk_54 Q 0 [some (vR 28 s), some (vI (nI v)), none, none] [] σ
  have hv4 : ¬ nI v = 4 := fun z => absurd ((nI_eq (b := 4) (by omega) (by omega)).mp z) (by omega)
  by_cases ha : a < L
  · obtain ⟨g1, g2⟩ := hp.sg ha
    by_cases e : pzS tx L a = 40
    · refine qm_go 5 (fun P hP => And.intro (fun c => absurd c (hp.ge ha)) (fun _ => hP ?_))
      refine qm_go 5 (fun P hP => Exists.intro (a) (And.intro (And.intro (hp.at_) (Nat.lt_of_lt_of_le ha hp.le.2.1)) (hP ?_)))
      rw [g1]
      refine qm_go 2 (fun P hP => And.intro (fun c => absurd ((sg_eq hp ha (by decide)).mpr e) c) (fun _ => hP ?_))
      refine qm_go 8 (fun P hP => And.intro (fun c => absurd c (hp.ge ha)) (fun _ => hP ?_))
      refine qm_go 5 (fun P hP => Exists.intro (a) (And.intro (And.intro (hp.at_) (Nat.lt_of_lt_of_le ha hp.le.2.1)) (hP ?_)))
      rw [g1]
      refine qm_go 2 (fun P hP => And.intro (fun _ => hP ?_) (fun c => absurd ((sg_eq (c := 33) hp ha (by decide)).mp c) (by omega)))
      refine qm_go 4 (fun P hP => And.intro (fun _ => hP ?_) (fun c => absurd c (by decide)))
      refine qm_go 3 (fun P hP => And.intro (fun _ => hP ?_) (fun c => absurd (nI_lt (b := 4) hv (by decide)) c))
      refine qm_go 6 (fun P hP => hP ?_)
      generalize hσ2 : wF _ 28 s (upd _ 10 _) = σ2
      have hp2 : cP s L tx σ2 (a + 1) co := by rw [← hσ2]; exact hp.at1 ha
      have F2 : Fr (tP s) σ σ2 := by rw [← hσ2]; exact hp.F
      refine qm_go 2 (fun P hP => And.intro (fun c => absurd c (by decide)) (fun _ => hP ?_))
      refine qm_go 4 (fun P hP => hP ?_)
      rw [nI_1]
      refine qm_go 1 (fun P hP => hE σ2 _ (a + 1) co (40 :: w) out hp2 (fun c r q => by cases q; decide) (fun σ3 b b1 F3 b2 b3 => hP ?_) (fun σ3 b ns w1 o1 b0 F3 hp3 b1 b2 b3 b4 => hP ?_))
      · refine qm_go 1 (fun P hP => And.intro (fun _ => hP ?_) (fun c => absurd rfl c))
        refine qm_go 2 (fun P hP => And.intro rfl (h0 σ3 b b1 (F2.tr F3) b2 (pzG_opn (Or.inr e) hv4 ?_)))
        rw [e, nI_1]
        exact b3
      · refine qm_go 1 (fun P hP => And.intro (fun c => absurd c (by decide)) (fun _ => hP ?_))
        have key : ∀ r, pzG (pzS tx L) false b w1 (nI (v + 1)) o1 r → pzG (pzS tx L) true a w (nI v) out r := fun r k => pzG_opn (Or.inr e) hv4 (by rw [e, nI_1]; exact b4 r k)
        refine qm_go 3 (fun P hP => c_fs7 (by omega) hp3 (fun σ4 b9 hm F4 hp4 => hP ?_) (fun σ4 b9 hm F4 hp4 => hP ?_))
        · refine qm_go 1 (fun P hP => And.intro (fun _ => hP ?_) (fun c => absurd rfl c))
          unfold pzM at hm
          by_cases e9 : pzS tx L b = 41
          · rw [if_pos e9] at hm
            cases hm
          · rw [if_neg e9] at hm
            cases hm
            exact qm_go 2 (fun P hP => And.intro rfl (h0 σ4 _ hp4.le.1 ((F2.tr F3).tr F4) hp4.at_ (key _ (pzG_miss b2 b3 e9))))
        · refine qm_go 1 (fun P hP => And.intro (fun c => absurd c (by decide)) (fun _ => hP ?_))
          unfold pzM at hm
          by_cases e9 : pzS tx L b = 41
          · rw [if_pos e9] at hm
            cases hm
            refine qm_go 3 (fun P hP => And.intro rfl (h1 σ4 _ ns (by omega) ((F2.tr F3).tr F4) hp4 (wfN_le b1 (by omega)) (fun r k => key _ (pzG_close b2 b3 e9 ?_))))
            rw [nI_pred]
            exact k
          · rw [if_neg e9] at hm
            cases hm
    · by_cases e2 : pzS tx L a = 33
      · have e1 := e
        have e := e2
        refine qm_go 5 (fun P hP => And.intro (fun c => absurd c (hp.ge ha)) (fun _ => hP ?_))
        refine qm_go 5 (fun P hP => Exists.intro (a) (And.intro (And.intro (hp.at_) (Nat.lt_of_lt_of_le ha hp.le.2.1)) (hP ?_)))
        rw [g1]
        refine qm_go 2 (fun P hP => And.intro (fun _ => hP ?_) (fun c => absurd ((sg_eq (c := 40) hp ha (by decide)).mp c) (by omega)))
        refine qm_go 7 (fun P hP => And.intro (fun c => absurd c (hp.ge ha)) (fun _ => hP ?_))
        refine qm_go 5 (fun P hP => Exists.intro (a) (And.intro (And.intro (hp.at_) (Nat.lt_of_lt_of_le ha hp.le.2.1)) (hP ?_)))
        rw [g1]
        refine qm_go 2 (fun P hP => And.intro (fun c => absurd ((sg_eq hp ha (by decide)).mpr e) c) (fun _ => hP ?_))
        refine qm_go 5 (fun P hP => And.intro (fun c => absurd rfl c) (fun _ => hP ?_))
        refine qm_go 2 (fun P hP => And.intro (fun _ => hP ?_) (fun c => absurd c (by decide)))
        refine qm_go 3 (fun P hP => And.intro (fun _ => hP ?_) (fun c => absurd (nI_lt (b := 4) hv (by decide)) c))
        refine qm_go 6 (fun P hP => hP ?_)
        generalize hσ2 : wF _ 28 s (upd _ 10 _) = σ2
        have hp2 : cP s L tx σ2 (a + 1) co := by rw [← hσ2]; exact hp.at1 ha
        have F2 : Fr (tP s) σ σ2 := by rw [← hσ2]; exact hp.F
        refine qm_go 2 (fun P hP => And.intro (fun _ => hP ?_) (fun c => absurd rfl c))
        refine qm_go 4 (fun P hP => hP ?_)
        rw [nI_1]
        refine qm_go 1 (fun P hP => hF σ2 _ (a + 1) co (33 :: w) out hp2 (fun σ3 b b1 F3 b2 b3 => hP ?_) (fun σ3 b ns b0 F3 hp3 b1 b4 => hP ?_))
        · refine qm_go 1 (fun P hP => And.intro (fun c => absurd rfl c) (fun _ => hP ?_))
          refine qm_go 2 (fun P hP => And.intro rfl (h0 σ3 b b1 (F2.tr F3) b2 (pzG_opn (Or.inl e) hv4 ?_)))
          rw [e, nI_1]
          exact b3
        · refine qm_go 1 (fun P hP => And.intro (fun _ => hP ?_) (fun c => absurd c (by decide)))
          have hl3 := hp3.le
          have hl0 := hp.le
          have hl9 : (co ++ ns).length = co.length + ns.length := List.length_append
          have hl8 : (ns ++ [0]).length = ns.length + 1 := List.length_append
          refine qm_go 3 (fun P hP => c_writes (t := 0) (by omega) hp3 (by omega) (fun σ4 F4 hp4 => hP ?_))
          rw [List.append_assoc] at hp4
          refine qm_go 2 (fun P hP => And.intro rfl (h1 σ4 b (ns ++ [0]) (by omega) ((F2.tr F3).tr F4) hp4 (wfN_le (wfN_not b1) (by omega)) (fun r k => pzG_opn (Or.inl e) hv4 ?_)))
          rw [e, nI_1]
          refine b4 r ?_
          rw [show pzW (33 :: w) (nI (v + 1)) (out ++ ns) = pzW w (nI v) (out ++ (ns ++ [0])) by
            rw [← List.append_assoc]
            show (if (33 : Nat) = 33 then pzW w (nI (v + 1) - 1) (out ++ ns ++ [0]) else _) = _
            rw [if_pos rfl, nI_pred]]
          exact k
      · refine qm_go 5 (fun P hP => And.intro (fun c => absurd c (hp.ge ha)) (fun _ => hP ?_))
        refine qm_go 5 (fun P hP => Exists.intro (a) (And.intro (And.intro (hp.at_) (Nat.lt_of_lt_of_le ha hp.le.2.1)) (hP ?_)))
        rw [g1]
        refine qm_go 2 (fun P hP => And.intro (fun _ => hP ?_) (fun c => absurd ((sg_eq (c := 40) hp ha (by decide)).mp c) e))
        refine qm_go 7 (fun P hP => And.intro (fun c => absurd c (hp.ge ha)) (fun _ => hP ?_))
        refine qm_go 5 (fun P hP => Exists.intro (a) (And.intro (And.intro (hp.at_) (Nat.lt_of_lt_of_le ha hp.le.2.1)) (hP ?_)))
        rw [g1]
        refine qm_go 2 (fun P hP => And.intro (fun _ => hP ?_) (fun c => absurd ((sg_eq (c := 33) hp ha (by decide)).mp c) e2))
        refine qm_go 4 (fun P hP => And.intro (fun c => absurd rfl c) (fun _ => hP ?_))
        refine qm_go 2 (fun P hP => And.intro (fun c => absurd rfl c) (fun _ => hP ?_))
        refine qm_go 2 (fun P hP => c_test (by omega) hp (fun σ2 b ht F2 hp2 => hP ?_) (fun σ2 b t ht t1 t2 F2 hp2 => hP ?_))
        · exact qm_go 1 (fun P hP => And.intro rfl (h0 σ2 b hp2.le.1 F2 hp2.at_ (pzG_bad (fun z => z.elim e2 e) ht)))
        · exact qm_go 1 (fun P hP => And.intro rfl (h1 σ2 b [t + 3] (by simp only [List.length_cons, List.length_nil]; omega) F2 hp2 (wfN_t t1 (by omega)) (fun r k => pzG_test (fun z => z.elim e2 e) ht k)))
  · refine qm_go 5 (fun P hP => And.intro (fun _ => hP ?_) (fun c => absurd (hp.gt ha) c))
    refine qm_go 7 (fun P hP => And.intro (fun _ => hP ?_) (fun c => absurd (hp.gt ha) c))
    refine qm_go 4 (fun P hP => And.intro (fun c => absurd rfl c) (fun _ => hP ?_))
    refine qm_go 2 (fun P hP => And.intro (fun c => absurd rfl c) (fun _ => hP ?_))
    refine qm_go 2 (fun P hP => c_test (by omega) hp (fun σ2 b ht F2 hp2 => hP ?_) (fun σ2 b t ht t1 t2 F2 hp2 => hP ?_))
    · exact qm_go 1 (fun P hP => And.intro rfl (h0 σ2 b hp2.le.1 F2 hp2.at_ (pzG_bad (fun z => by rw [pzS_end ha] at z; omega) ht)))
    · exact qm_go 1 (fun P hP => And.intro rfl (h1 σ2 b [t + 3] (by simp only [List.length_cons, List.length_nil]; omega) F2 hp2 (wfN_t t1 (by omega)) (fun r k => pzG_test (fun z => by rw [pzS_end ha] at z; omega) ht k)))
