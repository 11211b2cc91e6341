/-- rows of SEEN: who, when, owed -/
abbrev R9 : Type := List (Nat × Nat × Int32)
def cSeen (σ : qm_Sg) (R : R9) : Prop := σ.1 16 0 1 = nI R.length ∧ R.length ≤ 5 ∧ ∀ (i : Nat) (q : Nat × Nat × Int32), R[i]? = some q → σ.1 17 0 i = nI q.1 ∧ σ.1 18 0 i = nI q.2.1 ∧ σ.1 19 0 i = q.2.2
def mSeen (σ : qm_Sg) (R : R9) : Prop := σ.1 50 0 32 = nI R.length ∧ R.length ≤ 5 ∧ ∀ (i : Nat) (q : Nat × Nat × Int32), R[i]? = some q → σ.1 68 0 i = nI q.1 ∧ σ.1 69 0 i = nI q.2.1 ∧ σ.1 70 0 i = q.2.2
def wfR (n : Nat) (R : R9) : Prop := ∀ q ∈ R, q.1 < n ∧ q.2.1 ≤ 12
abbrev okQ (A : AS) (D : DD) (q : Nat × Nat × Int32) : Prop := (goA A q.2.1 D).1 q.1 = q.2.2
abbrev okR (A : AS) (D : DD) (R : R9) : Prop := ∀ q ∈ R, okQ A D q
theorem cSeen.fg {T : Nat → Nat → Nat → Prop} {σ σ' : qm_Sg} {R : R9} (h : cSeen σ R) (hF : Fr T σ σ') (hT : ∀ t i j, i = 0 → 16 ≤ t → t ≤ 19 → ¬ T t i j) : cSeen σ' R := by
  obtain ⟨h1, h2, h3⟩ := h
  refine ⟨by rw [hF.1 _ _ _ (hT _ _ _ rfl (by omega) (by omega))]; exact h1, h2, fun i q hq => ?_⟩
  rw [hF.1 _ _ _ (hT _ _ _ rfl (by omega) (by omega)), hF.1 _ _ _ (hT _ _ _ rfl (by omega) (by omega)), hF.1 _ _ _ (hT _ _ _ rfl (by omega) (by omega))]
  exact h3 i q hq
theorem mSeen.fg {T : Nat → Nat → Nat → Prop} {σ σ' : qm_Sg} {R : R9} (h : mSeen σ R) (hF : Fr T σ σ') (hT : ∀ t i j, ((t = 50 ∧ j = 32) ∨ (68 ≤ t ∧ t ≤ 70)) → ¬ T t i j) : mSeen σ' R := by
  obtain ⟨h1, h2, h3⟩ := h
  refine ⟨by rw [hF.1 _ _ _ (hT _ _ _ (by omega))]; exact h1, h2, fun i q hq => ?_⟩
  rw [hF.1 _ _ _ (hT _ _ _ (by omega)), hF.1 _ _ _ (hT _ _ _ (by omega)), hF.1 _ _ _ (hT _ _ _ (by omega))]
  exact h3 i q hq
theorem cSeen.tr {σ σ' : qm_Sg} {R : R9} (h : cSeen σ R) (hF : Fr tT σ σ') : cSeen σ' R := h.fg hF (fun t i j a b c => by unfold tT; omega)
theorem mSeen.tr {σ σ' : qm_Sg} {R : R9} (h : mSeen σ R) (hF : Fr tQ σ σ') : mSeen σ' R := h.fg hF (fun t i j a => by unfold tQ; omega)
theorem or1 (b : Bool) : nI b.toNat ||| 1 = nI true.toNat := by cases b <;> decide
theorem or0 (b : Bool) : nI b.toNat ||| 0 = nI b.toNat := by cases b <;> decide
theorem c_seen_i {d : Nat} {σ : qm_Sg} {Q : qm_Po} {n g : Nat} {E : DD} {R : R9} (hg : g ≤ 12) (hn : n ≤ 6) (hv : cV 2 σ E) (hr : cSeen σ R) (hw : wfR n R) : ∀ (l : R9) (i : Nat) (b : Bool) (l4 : Option qm_AV), R.drop i = l → i ≤ R.length → ((∃ q ∈ l, q.2.1 = g ∧ ¬ E.1 q.1 = q.2.2) → Q σ (some (vI 0))) → ((∀ q ∈ l, q.2.1 = g → E.1 q.1 = q.2.2) → ∀ (b' : Bool) (l3' : Int32) (l4' : Option qm_AV), (b' = true ↔ b = true ∨ ∃ q ∈ l, g < q.2.1) → qm_Wp (qm_M d) qk_104 Q 55 [some (vR 0 0), some (vI (nI g)), some (vI (nI b'.toNat)), some (vI l3'), l4'] [] σ) → qm_Wp (qm_M d) qk_104 Q 9 [some (vR 0 0), some (vI (nI g)), some (vI (nI b.toNat)), some (vI (nI i)), l4] [] σ
  | [], i, b, l4, e, hi, hb, hk => by
    have hl : R.length ≤ i := by have := List.drop_eq_nil_iff.mp e; omega
    have h5 := hr.2.1
    refine qm_go 6 (fun P hP => And.intro (fun _ => hP ?_) (fun c => absurd (by rw [hr.1]; exact nI_le (by omega) (by omega)) c))
    exact hk (fun q hq => absurd hq (by simp)) b _ _ ⟨fun z => Or.inl z, fun z => z.elim id (fun ⟨q, hq, _⟩ => absurd hq (by simp))⟩
  | q :: l, i, b, l4, e, hi, hb, hk => by
    have hq : R[i]? = some q := by rw [← List.head?_drop, e]; rfl
    have hl : i < R.length := (List.getElem?_eq_some_iff.mp hq).1
    have h5 := hr.2.1
    obtain ⟨a1, a2, a3⟩ := hr.2.2 i q hq
    have e2 : R.drop (i + 1) = l := by rw [← List.drop_drop, e]; rfl
    obtain ⟨w1, w2⟩ := hw q (List.mem_of_getElem? hq)
    have ho := hv.o q.1 (by omega)
    refine qm_go 6 (fun P hP => And.intro (fun c => absurd c (by rw [hr.1]; exact nI_ge (by omega) (by omega))) (fun _ => hP ?_))
    refine qm_go 6 (fun P hP => Exists.intro (i) (And.intro (And.intro (rfl) ((show i < 5 by omega))) (hP ?_)))
    rw [a2]
    refine qm_go 4 (fun P hP => And.intro (fun c24 => hP ?_) (fun c24 => hP ?_))
    · refine qm_go 4 (fun P hP => And.intro (fun c47 => hP ?_) (fun c47 => hP ?_))
      · refine qm_go 5 (fun P hP => hP ?_)
        rw [nI_1]
        have nx : (¬ q.2.1 = g ∨ E.1 q.1 = q.2.2) := by
          first
            | exact Or.inl (fun z => c24 (by rw [z]))
            | (rw [ho, a3] at c41; exact Or.inr c41)
        have hb2 : (∃ q ∈ l, q.2.1 = g ∧ ¬ E.1 q.1 = q.2.2) → Q σ (some (vI 0)) := fun ⟨q', h1, h2⟩ => hb ⟨q', List.mem_cons_of_mem _ h1, h2⟩
        have hk1 : (∀ q ∈ l, q.2.1 = g → E.1 q.1 = q.2.2) → (∀ q' ∈ q :: l, q'.2.1 = g → E.1 q'.1 = q'.2.2) := by
          intro h1 q' hq'
          cases hq' with
          | head => intro z; exact nx.elim (fun y => absurd z y) id
          | tail _ h3 => exact h1 q' h3
        first
          | (have c47 : nI g < nI q.2.1 := i_lt_of c47
             rw [or1]
             refine c_seen_i hg hn hv hr hw l (i + 1) true _ e2 (by omega) hb2 (fun h1 b' l3' l4' hb' => hk (hk1 h1) b' l3' l4' ⟨fun z => Or.inr ⟨q, List.mem_cons_self, ?_⟩, fun z => hb'.mpr (Or.inl rfl)⟩)
             have := i_lt.mp c47
             rw [nI_toInt (by omega), nI_toInt (by omega)] at this
             omega)
          | (rw [or0]
             refine c_seen_i hg hn hv hr hw l (i + 1) b _ e2 (by omega) hb2 (fun h1 b' l3' l4' hb' => hk (hk1 h1) b' l3' l4' (hb'.trans ⟨fun z => z.elim Or.inl (fun ⟨q', y1, y2⟩ => Or.inr ⟨q', List.mem_cons_of_mem _ y1, y2⟩), fun z => z.elim Or.inl (fun ⟨q', y1, y2⟩ => ?_)⟩))
             cases y1 with
             | head =>
               have := i_le.mp c47
               rw [nI_toInt (by omega), nI_toInt (by omega)] at this
               omega
             | tail _ y3 => exact Or.inr ⟨q', y3, y2⟩)
      · refine qm_go 6 (fun P hP => hP ?_)
        rw [nI_1]
        have nx : (¬ q.2.1 = g ∨ E.1 q.1 = q.2.2) := by
          first
            | exact Or.inl (fun z => c24 (by rw [z]))
            | (rw [ho, a3] at c41; exact Or.inr c41)
        have hb2 : (∃ q ∈ l, q.2.1 = g ∧ ¬ E.1 q.1 = q.2.2) → Q σ (some (vI 0)) := fun ⟨q', h1, h2⟩ => hb ⟨q', List.mem_cons_of_mem _ h1, h2⟩
        have hk1 : (∀ q ∈ l, q.2.1 = g → E.1 q.1 = q.2.2) → (∀ q' ∈ q :: l, q'.2.1 = g → E.1 q'.1 = q'.2.2) := by
          intro h1 q' hq'
          cases hq' with
          | head => intro z; exact nx.elim (fun y => absurd z y) id
          | tail _ h3 => exact h1 q' h3
        first
          | (have c47 : nI g < nI q.2.1 := i_lt_of c47
             rw [or1]
             refine c_seen_i hg hn hv hr hw l (i + 1) true _ e2 (by omega) hb2 (fun h1 b' l3' l4' hb' => hk (hk1 h1) b' l3' l4' ⟨fun z => Or.inr ⟨q, List.mem_cons_self, ?_⟩, fun z => hb'.mpr (Or.inl rfl)⟩)
             have := i_lt.mp c47
             rw [nI_toInt (by omega), nI_toInt (by omega)] at this
             omega)
          | (rw [or0]
             refine c_seen_i hg hn hv hr hw l (i + 1) b _ e2 (by omega) hb2 (fun h1 b' l3' l4' hb' => hk (hk1 h1) b' l3' l4' (hb'.trans ⟨fun z => z.elim Or.inl (fun ⟨q', y1, y2⟩ => Or.inr ⟨q', List.mem_cons_of_mem _ y1, y2⟩), fun z => z.elim Or.inl (fun ⟨q', y1, y2⟩ => ?_)⟩))
             cases y1 with
             | head =>
               have := i_le.mp c47
               rw [nI_toInt (by omega), nI_toInt (by omega)] at this
               omega
             | tail _ y3 => exact Or.inr ⟨q', y3, y2⟩)
    · refine qm_go 9 (fun P hP => Exists.intro (i) (And.intro (And.intro (rfl) ((show i < 5 by omega))) (hP ?_)))
      rw [a1]
      refine qm_go 1 (fun P hP => Exists.intro (q.1) (And.intro (And.intro (rfl) ((show q.1 < 6 by omega))) (hP ?_)))
      refine qm_go 6 (fun P hP => Exists.intro (i) (And.intro (And.intro (rfl) ((show i < 5 by omega))) (hP ?_)))
      refine qm_go 1 (fun P hP => And.intro (fun c41 => hP ?_) (fun c41 => hP ?_))
      · refine qm_go 4 (fun P hP => And.intro (fun c47 => hP ?_) (fun c47 => hP ?_))
        · refine qm_go 5 (fun P hP => hP ?_)
          rw [nI_1]
          have nx : (¬ q.2.1 = g ∨ E.1 q.1 = q.2.2) := by
            first
              | exact Or.inl (fun z => c24 (by rw [z]))
              | (rw [ho, a3] at c41; exact Or.inr c41)
          have hb2 : (∃ q ∈ l, q.2.1 = g ∧ ¬ E.1 q.1 = q.2.2) → Q σ (some (vI 0)) := fun ⟨q', h1, h2⟩ => hb ⟨q', List.mem_cons_of_mem _ h1, h2⟩
          have hk1 : (∀ q ∈ l, q.2.1 = g → E.1 q.1 = q.2.2) → (∀ q' ∈ q :: l, q'.2.1 = g → E.1 q'.1 = q'.2.2) := by
            intro h1 q' hq'
            cases hq' with
            | head => intro z; exact nx.elim (fun y => absurd z y) id
            | tail _ h3 => exact h1 q' h3
          first
            | (have c47 : nI g < nI q.2.1 := i_lt_of c47
               rw [or1]
               refine c_seen_i hg hn hv hr hw l (i + 1) true _ e2 (by omega) hb2 (fun h1 b' l3' l4' hb' => hk (hk1 h1) b' l3' l4' ⟨fun z => Or.inr ⟨q, List.mem_cons_self, ?_⟩, fun z => hb'.mpr (Or.inl rfl)⟩)
               have := i_lt.mp c47
               rw [nI_toInt (by omega), nI_toInt (by omega)] at this
               omega)
            | (rw [or0]
               refine c_seen_i hg hn hv hr hw l (i + 1) b _ e2 (by omega) hb2 (fun h1 b' l3' l4' hb' => hk (hk1 h1) b' l3' l4' (hb'.trans ⟨fun z => z.elim Or.inl (fun ⟨q', y1, y2⟩ => Or.inr ⟨q', List.mem_cons_of_mem _ y1, y2⟩), fun z => z.elim Or.inl (fun ⟨q', y1, y2⟩ => ?_)⟩))
               cases y1 with
               | head =>
                 have := i_le.mp c47
                 rw [nI_toInt (by omega), nI_toInt (by omega)] at this
                 omega
               | tail _ y3 => exact Or.inr ⟨q', y3, y2⟩)
        · refine qm_go 6 (fun P hP => hP ?_)
          rw [nI_1]
          have nx : (¬ q.2.1 = g ∨ E.1 q.1 = q.2.2) := by
            first
              | exact Or.inl (fun z => c24 (by rw [z]))
              | (rw [ho, a3] at c41; exact Or.inr c41)
          have hb2 : (∃ q ∈ l, q.2.1 = g ∧ ¬ E.1 q.1 = q.2.2) → Q σ (some (vI 0)) := fun ⟨q', h1, h2⟩ => hb ⟨q', List.mem_cons_of_mem _ h1, h2⟩
          have hk1 : (∀ q ∈ l, q.2.1 = g → E.1 q.1 = q.2.2) → (∀ q' ∈ q :: l, q'.2.1 = g → E.1 q'.1 = q'.2.2) := by
            intro h1 q' hq'
            cases hq' with
            | head => intro z; exact nx.elim (fun y => absurd z y) id
            | tail _ h3 => exact h1 q' h3
          first
            | (have c47 : nI g < nI q.2.1 := i_lt_of c47
               rw [or1]
               refine c_seen_i hg hn hv hr hw l (i + 1) true _ e2 (by omega) hb2 (fun h1 b' l3' l4' hb' => hk (hk1 h1) b' l3' l4' ⟨fun z => Or.inr ⟨q, List.mem_cons_self, ?_⟩, fun z => hb'.mpr (Or.inl rfl)⟩)
               have := i_lt.mp c47
               rw [nI_toInt (by omega), nI_toInt (by omega)] at this
               omega)
            | (rw [or0]
               refine c_seen_i hg hn hv hr hw l (i + 1) b _ e2 (by omega) hb2 (fun h1 b' l3' l4' hb' => hk (hk1 h1) b' l3' l4' (hb'.trans ⟨fun z => z.elim Or.inl (fun ⟨q', y1, y2⟩ => Or.inr ⟨q', List.mem_cons_of_mem _ y1, y2⟩), fun z => z.elim Or.inl (fun ⟨q', y1, y2⟩ => ?_)⟩))
               cases y1 with
               | head =>
                 have := i_le.mp c47
                 rw [nI_toInt (by omega), nI_toInt (by omega)] at this
                 omega
               | tail _ y3 => exact Or.inr ⟨q', y3, y2⟩)
      · refine qm_go 2 (fun P hP => And.intro rfl (hb ⟨q, List.mem_cons_self, (nI_eq (by omega) (by omega)).mp c24, fun z => c41 (by rw [ho, a3]; exact z)⟩))
theorem c_seen_o {d : Nat} (hd : 6 ≤ d) {σ0 : qm_Sg} {Q : qm_Po} {A : AS} {D : DD} {R : R9} (hr : cSeen σ0 R) (hw : wfR A.1 R) (hm : D.2.2.2 + 20 < 2 ^ 30) (h1 : ∀ σ', Fr tT σ0 σ' → okR A D R → Q σ' (some (vI 1))) (h0 : ∀ σ', Fr tT σ0 σ' → ¬ okR A D R → Q σ' (some (vI 0))) : ∀ (k g : Nat) (l2 l3 l4 : Option qm_AV) (σ : qm_Sg), g + k = 13 → Fr tT σ0 σ → cS 2 σ A → cV 2 σ (goA A g D) → (∀ q ∈ R, q.2.1 < g → okQ A D q) → qm_Wp (qm_M d) qk_104 Q 2 [some (vR 0 0), some (vI (nI g)), l2, l3, l4] [] σ
  | 0, g, l2, l3, l4, σ, e, f0, hs, hv, hq => by
    have : g = 13 := by omega
    subst this
    refine qm_go 3 (fun P hP => And.intro (fun _ => hP ?_) (fun c => absurd (by decide) c))
    refine qm_go 2 (fun P hP => And.intro rfl (h1 σ f0 (fun q z => hq q z (by have := (hw q z).2; omega))))
  | k + 1, g, l2, l3, l4, σ, e, f0, hs, hv, hq => by
    refine qm_go 3 (fun P hP => And.intro (fun c => absurd c (by rw [i_lt, nI_toInt (by omega)]; show ¬ ((12 : Int) < (g : Int)); omega)) (fun _ => hP ?_))
    refine qm_go 4 (fun P hP => hP ?_)
    refine c_seen_i (g := g) (by omega) hs.le hv (hr.tr f0) hw R 0 false _ rfl (by omega) (fun ⟨q, y1, y2, y3⟩ => h0 σ f0 (fun z => y3 (by have z2 := z q y1; unfold okQ at z2; rw [y2] at z2; exact z2))) (fun g1 b' l3' l4' hb' => ?_)
    have hq2 : ∀ q ∈ R, q.2.1 < g + 1 → okQ A D q := fun q y1 y2 => by
      by_cases y3 : q.2.1 = g
      · unfold okQ; rw [y3]; exact g1 q y1 y3
      · exact hq q y1 (by omega)
    refine qm_go 2 (fun P hP => And.intro (fun c56 => hP ?_) (fun c56 => hP ?_))
    · refine qm_go 4 (fun P hP => c_goA (k9 := 1) hd (by omega) hs hv (by rw [goA_m]; omega) (fun σ3 f3 s3 v3 => hP ?_))
      refine qm_go 2 (fun P hP => hP ?_)
      rw [nI_1]
      exact c_seen_o hd hr hw hm h1 h0 k (g + 1) _ _ _ σ3 (by omega) (f0.tr (f3.mono (fun _ _ _ q => tC_T q))) s3 (by rw [← goA_add, Nat.add_comm] at v3; exact v3) hq2
    · refine qm_go 2 (fun P hP => And.intro rfl (h1 σ f0 (fun q z => hq2 q z ?_)))
      have eb := bt_eq c56
      by_cases y : g < q.2.1
      · rw [eb] at hb'; exact absurd (hb'.mpr (Or.inr ⟨q, z, y⟩)) (by decide)
      · omega
theorem c_asSeen {d : Nat} (hd : 7 ≤ d) {σ : qm_Sg} {Q : qm_Po} {A : AS} {D : DD} {R : R9} (hr : cSeen σ R) (hw : wfR A.1 R) (hs : cS 2 σ A) (hv : cV 2 σ D) (hm : D.2.2.2 + 20 < 2 ^ 30) (h1 : ∀ σ', Fr tT σ σ' → okR A D R → Q σ' (some (vI 1))) (h0 : ∀ σ', Fr tT σ σ' → ¬ okR A D R → Q σ' (some (vI 0))) : qm_M d 104 [vR 0 0] σ Q := by
  obtain ⟨d, rfl, hd⟩ := qm_dn hd
  show qm_Wp (qm_M d) qk_104 Q 0 [some (vR 0 0), none, none, none, none] [] σ
  refine qm_go 2 (fun P hP => hP ?_)
  exact c_seen_o (by omega) hr hw hm h1 h0 13 0 _ _ _ σ (by omega) Fr.rf hs hv (fun q _ z => absurd z (by omega))
theorem m_seen_l {d : Nat} (hd : 10 ≤ d) {σ0 : qm_Sg} {Q : qm_Po} {A : AS} {D : DD} {R : R9} (hr0 : mSeen σ0 R) (hw : wfR A.1 R) (hm : D.2.2.2 + 20 < 2 ^ 30) : ∀ (l : R9) (i : Nat) (σ : qm_Sg), R.drop i = l → i ≤ R.length → Fr tQ σ0 σ → mS σ A → mV σ D → (∀ σ', Fr tQ σ0 σ' → mS σ' A → mV σ' D → (∀ q ∈ l, okQ A D q) → Q σ' (some (vI 1))) → (∀ σ', Fr tQ σ0 σ' → mS σ' A → mV σ' D → ¬ (∀ q ∈ l, okQ A D q) → Q σ' (some (vI 0))) → qm_Wp (qm_M d) qk_163 Q 4 [some (vR 50 0), some (vI 1), some (vI (nI i))] [] σ
  | [], i, σ, e, hi, f0, hs, hv, h1, h0 => by
    have hl : R.length ≤ i := by have := List.drop_eq_nil_iff.mp e; omega
    have hr := hr0.tr f0
    have h5 := hr.2.1
    refine qm_go 4 (fun P hP => And.intro (fun _ => hP ?_) (fun c => absurd (by rw [hr.1]; exact nI_le (by omega) (by omega)) c))
    refine qm_go 2 (fun P hP => And.intro rfl (h1 σ f0 hs hv (fun q hq => absurd hq (by simp))))
  | q :: l, i, σ, e, hi, f0, hs, hv, h1, h0 => by
    have hr := hr0.tr f0
    have hq : R[i]? = some q := by rw [← List.head?_drop, e]; rfl
    have hl : i < R.length := (List.getElem?_eq_some_iff.mp hq).1
    have h5 := hr.2.1
    have e2 : R.drop (i + 1) = l := by rw [← List.drop_drop, e]; rfl
    obtain ⟨w1, w2⟩ := hw q (List.mem_of_getElem? hq)
    have hn6 := hs.le
    refine qm_go 4 (fun P hP => And.intro (fun c => absurd c (by rw [hr.1]; exact nI_ge (by omega) (by omega))) (fun _ => hP ?_))
    refine qm_go 2 (fun P hP => And.intro (fun c => absurd c (by decide)) (fun _ => hP ?_))
    refine qm_go 2 (fun P hP => m_save (by omega) hs hv (fun σ1 f1 s1 v1 k1 => hP ?_))
    refine qm_go 1 (fun P hP => hP ?_)
    have F1 : Fr tQ σ0 σ1 := f0.tr (f1.mono (fun _ _ _ q => tSv_Q q))
    obtain ⟨a1, a2, a3⟩ := (hr0.tr F1).2.2 i q hq
    refine qm_go 4 (fun P hP => Exists.intro (i) (And.intro (And.intro (rfl) ((show i < 5 by omega))) (hP ?_)))
    rw [a2]
    refine qm_go 1 (fun P hP => m_goA (by omega) (show q.2.1 < 2 ^ 20 by omega) s1 v1 (by omega) (fun σ2 f2 s2 v2 => hP ?_))
    refine qm_go 1 (fun P hP => hP ?_)
    have F2 : Fr tQ σ0 σ2 := F1.tr (f2.mono (fun _ _ _ q => tM_Q q))
    obtain ⟨b1, b2, b3⟩ := (hr0.tr F2).2.2 i q hq
    have ho := v2.o q.1 (by omega)
    refine qm_go 5 (fun P hP => Exists.intro (i) (And.intro (And.intro (rfl) ((show i < 5 by omega))) (hP ?_)))
    rw [b1]
    refine qm_go 1 (fun P hP => Exists.intro (q.1) (And.intro (And.intro (rfl) ((show q.1 < 6 by omega))) (hP ?_)))
    rw [ho]
    refine qm_go 4 (fun P hP => Exists.intro (i) (And.intro (And.intro (rfl) ((show i < 5 by omega))) (hP ?_)))
    rw [b3]
    refine qm_go 1 (fun P hP => And.intro (fun c29 => hP ?_) (fun c29 => hP ?_))
    · refine qm_go 4 (fun P hP => m_putBack (by omega) s2 (k1.fg f2 (fun t i j q => by unfold tM; omega)) (fun σ4 f4 s4 v4 => hP ?_))
      refine qm_go 2 (fun P hP => hP ?_)
      have F4 : Fr tQ σ0 σ4 := F2.tr (f4.mono (fun _ _ _ q => tPB_Q q))
      have s4 : mS σ4 A := s4
      rw [nI_1]
      first
        | (refine m_seen_l hd hr0 hw hm l (i + 1) σ4 e2 (by omega) F4 s4 v4 (fun σ' f' s' v' z => h1 σ' f' s' v' (fun q' hq' => ?_)) (fun σ' f' s' v' z => h0 σ' f' s' v' (fun y => z (fun q' hq' => y q' (List.mem_cons_of_mem _ hq'))))
           cases hq' with
           | head => exact c29
           | tail _ y => exact z q' y)
        | (have hz : ¬ (∀ q' ∈ q :: l, okQ A D q') := fun y => c29 (y q List.mem_cons_self)
           refine qm_go 4 (fun P hP => And.intro (fun _ => hP ?_) (fun _ => hP ?_))
           · refine qm_go 2 (fun P hP => And.intro rfl (h0 σ4 F4 s4 v4 hz))
           · refine qm_go 2 (fun P hP => And.intro (fun _ => hP ?_) (fun c => absurd rfl c))
             refine qm_go 2 (fun P hP => And.intro rfl (h0 σ4 F4 s4 v4 hz)))
    · refine qm_go 5 (fun P hP => m_putBack (by omega) s2 (k1.fg f2 (fun t i j q => by unfold tM; omega)) (fun σ4 f4 s4 v4 => hP ?_))
      refine qm_go 2 (fun P hP => hP ?_)
      have F4 : Fr tQ σ0 σ4 := F2.tr (f4.mono (fun _ _ _ q => tPB_Q q))
      have s4 : mS σ4 A := s4
      rw [nI_1]
      first
        | (refine m_seen_l hd hr0 hw hm l (i + 1) σ4 e2 (by omega) F4 s4 v4 (fun σ' f' s' v' z => h1 σ' f' s' v' (fun q' hq' => ?_)) (fun σ' f' s' v' z => h0 σ' f' s' v' (fun y => z (fun q' hq' => y q' (List.mem_cons_of_mem _ hq'))))
           cases hq' with
           | head => exact c29
           | tail _ y => exact z q' y)
        | (have hz : ¬ (∀ q' ∈ q :: l, okQ A D q') := fun y => c29 (y q List.mem_cons_self)
           refine qm_go 4 (fun P hP => And.intro (fun _ => hP ?_) (fun _ => hP ?_))
           · refine qm_go 2 (fun P hP => And.intro rfl (h0 σ4 F4 s4 v4 hz))
           · refine qm_go 2 (fun P hP => And.intro (fun _ => hP ?_) (fun c => absurd rfl c))
             refine qm_go 2 (fun P hP => And.intro rfl (h0 σ4 F4 s4 v4 hz)))
theorem m_isSeen {d : Nat} (hd : 11 ≤ d) {σ : qm_Sg} {Q : qm_Po} {A : AS} {D : DD} {R : R9} (hr : mSeen σ R) (hw : wfR A.1 R) (hs : mS σ A) (hv : mV σ D) (hm : D.2.2.2 + 20 < 2 ^ 30) (h1 : ∀ σ', Fr tQ σ σ' → mS σ' A → mV σ' D → okR A D R → Q σ' (some (vI 1))) (h0 : ∀ σ', Fr tQ σ σ' → mS σ' A → mV σ' D → ¬ okR A D R → Q σ' (some (vI 0))) : qm_M d 163 [vR 50 0] σ Q := by
  obtain ⟨d, rfl, hd⟩ := qm_dn hd
  show qm_Wp (qm_M d) qk_163 Q 0 [some (vR 50 0), none, none] [] σ
  refine qm_go 4 (fun P hP => hP ?_)
  exact m_seen_l (by omega) hr hw hm R 0 σ rfl (by omega) Fr.rf hs hv h1 h0
