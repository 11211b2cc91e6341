def cntV (a0 a1 a2 a3 a4 a5 a6 : Nat) (w : Int32) : Int32 := if w = 0 then nI a0 else if w = 1 then nI a1 else if w = 2 then nI a2 else if w = 3 then nI a3 else if w = 4 then nI a4 else if w = 5 then nI a5 else if w = 6 then nI a6 else -2
theorem cS.mk9 {X : Nat} {σ : qm_Sg} {A : AS} (h1 : σ.1 10 X 2 = nI A.1) (h2 : A.1 ≤ 6) (q1 : Q6 (σ.1 11 X) A.2.1) (q2 : Q6 (σ.1 12 X) A.2.2.1) (q3 : Q24 (σ.1 15 X) A.2.2.2.1) (h6 : σ.1 10 X 7 = awO A) (hk : ∀ p, p < A.1 → ∃ k, k < 7 ∧ A.2.1 p = nI k) (hst : cSt X σ A.2.2.2.2.2.1 A.2.2.2.2.2.2) : cS X σ A :=
  ⟨_, _, _, q1, q2, q3, h1, h2, rfl, rfl, rfl, h6, fun p hp => by
    obtain ⟨k, hk1, hk2⟩ := hk p hp
    exact ⟨k, hk1, by rw [q1 p (by omega)]; exact hk2⟩, hst⟩
theorem mS.mk9 {σ : qm_Sg} {A : AS} (h1 : σ.1 50 0 0 = nI A.1) (h2 : A.1 ≤ 6) (q1 : Q6 (σ.1 51 0) A.2.1) (q2 : Q6 (σ.1 52 0) A.2.2.1) (q3 : Q24 (σ.1 55 0) A.2.2.2.1) (h6 : σ.1 50 0 1 = awO A) (hk : ∀ p, p < A.1 → ∃ k, k < 7 ∧ A.2.1 p = nI k) (hst : mSt σ A.2.2.2.2.2.1 A.2.2.2.2.2.2) : mS σ A :=
  ⟨_, _, _, q1, q2, q3, h1, h2, rfl, rfl, rfl, h6, fun p hp => by
    obtain ⟨k, hk1, hk2⟩ := hk p hp
    exact ⟨k, hk1, by rw [q1 p (by omega)]; exact hk2⟩, hst⟩
theorem c_count {d : Nat} (hd : 1 ≤ d) {σ : qm_Sg} {Q : qm_Po} {a0 a1 a2 a3 a4 a5 a6 : Nat} {w : Int32} (g0 : σ.1 10 0 2 = nI a0) (g1 : σ.1 0 0 6 = nI a1) (g2 : σ.1 16 0 1 = nI a2) (g3 : σ.1 20 0 1 = nI a3) (g4 : σ.1 24 0 1 = nI a4) (g5 : σ.1 0 0 8 = nI a5) (g6 : σ.1 1 0 1 = nI a6) (h : Q σ (some (vI (cntV a0 a1 a2 a3 a4 a5 a6 w)))) : qm_M d 91 [vR 0 0, vI w] σ Q := by
  obtain ⟨d, rfl, hd⟩ := qm_dn hd
  show qm_Wp (qm_M d) qk_91 Q 0 [some (vR 0 0), some (vI w)] [] σ
  refine qm_go 2 (fun P hP => And.intro (fun c1_0 => hP ?_) (fun n1_0 => And.intro (fun c1_1 => hP ?_) (fun n1_1 => And.intro (fun c1_2 => hP ?_) (fun n1_2 => And.intro (fun c1_3 => hP ?_) (fun n1_3 => And.intro (fun c1_4 => hP ?_) (fun n1_4 => And.intro (fun c1_5 => hP ?_) (fun n1_5 => And.intro (fun c1_6 => hP ?_) (fun n1_6 => hP ?_))))))))
  · refine qm_go 4 (fun P hP => ?_)
    unfold cntV at h
    rw [if_pos c1_0] at h
    rw [← g0] at h
    exact h
  · refine qm_go 3 (fun P hP => ?_)
    unfold cntV at h
    rw [if_neg n1_0, if_pos c1_1] at h
    rw [← g1] at h
    exact h
  · refine qm_go 5 (fun P hP => ?_)
    unfold cntV at h
    rw [if_neg n1_0, if_neg n1_1, if_pos c1_2] at h
    rw [← g2] at h
    exact h
  · refine qm_go 5 (fun P hP => ?_)
    unfold cntV at h
    rw [if_neg n1_0, if_neg n1_1, if_neg n1_2, if_pos c1_3] at h
    rw [← g3] at h
    exact h
  · refine qm_go 5 (fun P hP => ?_)
    unfold cntV at h
    rw [if_neg n1_0, if_neg n1_1, if_neg n1_2, if_neg n1_3, if_pos c1_4] at h
    rw [← g4] at h
    exact h
  · refine qm_go 3 (fun P hP => ?_)
    unfold cntV at h
    rw [if_neg n1_0, if_neg n1_1, if_neg n1_2, if_neg n1_3, if_neg n1_4, if_pos c1_5] at h
    rw [← g5] at h
    exact h
  · refine qm_go 4 (fun P hP => ?_)
    unfold cntV at h
    rw [if_neg n1_0, if_neg n1_1, if_neg n1_2, if_neg n1_3, if_neg n1_4, if_neg n1_5, if_pos c1_6] at h
    rw [← g6] at h
    exact h
  · refine qm_go 2 (fun P hP => ?_)
    unfold cntV at h
    rw [if_neg n1_0, if_neg n1_1, if_neg n1_2, if_neg n1_3, if_neg n1_4, if_neg n1_5, if_neg n1_6] at h
    exact h
theorem m_count {d : Nat} (hd : 1 ≤ d) {σ : qm_Sg} {Q : qm_Po} {a0 a1 a2 a3 a4 a5 a6 : Nat} {w : Int32} (g0 : σ.1 50 0 0 = nI a0) (g1 : σ.1 50 0 9 = nI a1) (g2 : σ.1 50 0 32 = nI a2) (g3 : σ.1 50 0 36 = nI a3) (g4 : σ.1 50 0 37 = nI a4) (g5 : σ.1 50 0 11 = nI a5) (g6 : σ.1 50 0 63 = nI a6) (h : Q σ (some (vI (cntV a0 a1 a2 a3 a4 a5 a6 w)))) : qm_M d 190 [vR 50 0, vI w] σ Q := by
  obtain ⟨d, rfl, hd⟩ := qm_dn hd
  show qm_Wp (qm_M d) qk_190 Q 0 [some (vR 50 0), some (vI w)] [] σ
  refine qm_go 2 (fun P hP => And.intro (fun c1_0 => hP ?_) (fun n1_0 => And.intro (fun c1_1 => hP ?_) (fun n1_1 => And.intro (fun c1_2 => hP ?_) (fun n1_2 => And.intro (fun c1_3 => hP ?_) (fun n1_3 => And.intro (fun c1_4 => hP ?_) (fun n1_4 => And.intro (fun c1_5 => hP ?_) (fun n1_5 => And.intro (fun c1_6 => hP ?_) (fun n1_6 => hP ?_))))))))
  · refine qm_go 3 (fun P hP => ?_)
    unfold cntV at h
    rw [if_pos c1_0] at h
    rw [← g0] at h
    exact h
  · refine qm_go 3 (fun P hP => ?_)
    unfold cntV at h
    rw [if_neg n1_0, if_pos c1_1] at h
    rw [← g1] at h
    exact h
  · refine qm_go 3 (fun P hP => ?_)
    unfold cntV at h
    rw [if_neg n1_0, if_neg n1_1, if_pos c1_2] at h
    rw [← g2] at h
    exact h
  · refine qm_go 3 (fun P hP => ?_)
    unfold cntV at h
    rw [if_neg n1_0, if_neg n1_1, if_neg n1_2, if_pos c1_3] at h
    rw [← g3] at h
    exact h
  · refine qm_go 3 (fun P hP => ?_)
    unfold cntV at h
    rw [if_neg n1_0, if_neg n1_1, if_neg n1_2, if_neg n1_3, if_pos c1_4] at h
    rw [← g4] at h
    exact h
  · refine qm_go 3 (fun P hP => ?_)
    unfold cntV at h
    rw [if_neg n1_0, if_neg n1_1, if_neg n1_2, if_neg n1_3, if_neg n1_4, if_pos c1_5] at h
    rw [← g5] at h
    exact h
  · refine qm_go 3 (fun P hP => ?_)
    unfold cntV at h
    rw [if_neg n1_0, if_neg n1_1, if_neg n1_2, if_neg n1_3, if_neg n1_4, if_neg n1_5, if_pos c1_6] at h
    rw [← g6] at h
    exact h
  · refine qm_go 2 (fun P hP => ?_)
    unfold cntV at h
    rw [if_neg n1_0, if_neg n1_1, if_neg n1_2, if_neg n1_3, if_neg n1_4, if_neg n1_5, if_neg n1_6] at h
    exact h
def lookF (f : Nat → Int32) : B9 → Nat → Int32
  | [], _ => -5
  | q :: l, i => if f q.1 = q.2 then lookF f l (i + 1) else nI i
theorem c_look_l {d : Nat} {σ : qm_Sg} {Q : qm_Po} {n9 : Nat} {D : DD} {B : B9} (hn : n9 ≤ 6) (hb : cBook σ B) (hw : wfB n9 B) (hv : cV 0 σ D) : ∀ (l : B9) (i : Nat), B.drop i = l → i ≤ B.length → Q σ (some (vI (lookF D.1 l i))) → qm_Wp (qm_M d) qk_84 Q 2 [some (vR 0 0), some (vI (nI i))] [] σ
  | [], i, hl, hi, h => by
    have h8 := hb.2.1
    have e := List.drop_eq_nil_iff.mp hl
    refine qm_go 6 (fun P hP => And.intro (fun _ => hP ?_) (fun z => absurd (by rw [hb.1]; exact nI_le (by omega) (by omega)) z))
    exact qm_go 2 (fun P hP => h)
  | x :: l, i, hl, hi, h => by
    have h8 := hb.2.1
    obtain ⟨q1, q2, q3⟩ := ix_step hl
    have hx := hw x (List.mem_of_getElem? q1)
    obtain ⟨v1, v2⟩ := hb.2.2 i x q1
    refine qm_go 6 (fun P hP => And.intro (fun z => absurd (by rw [← hb.1]; exact z) (nI_ge q3 (by omega))) (fun _ => hP ?_))
    refine qm_go 9 (fun P hP => Exists.intro (i) (And.intro (And.intro (rfl) (show i < 8 by omega)) (hP ?_)))
    rw [v1]
    refine qm_go 1 (fun P hP => Exists.intro (x.1) (And.intro (And.intro (rfl) (show x.1 < 6 by omega)) (hP ?_)))
    rw [hv.o _ (by omega)]
    refine qm_go 6 (fun P hP => Exists.intro (i) (And.intro (And.intro (rfl) (show i < 8 by omega)) (hP ?_)))
    rw [v2]
    unfold lookF at h
    by_cases e : D.1 x.1 = x.2
    · rw [if_pos e] at h
      refine qm_go 1 (fun P hP => And.intro (fun _ => hP ?_) (fun z => absurd e z))
      refine qm_go 2 (fun P hP => hP ?_)
      rw [nI_1]
      exact c_look_l hn hb hw hv l (i + 1) q2 (by omega) h
    · rw [if_neg e] at h
      refine qm_go 1 (fun P hP => And.intro (fun z => absurd z e) (fun _ => hP ?_))
      exact qm_go 2 (fun P hP => h)
theorem c_looked {d : Nat} (hd : 1 ≤ d) {σ : qm_Sg} {Q : qm_Po} {n9 : Nat} {D : DD} {B : B9} (hn : n9 ≤ 6) (hb : cBook σ B) (hw : wfB n9 B) (hv : cV 0 σ D) (h : Q σ (some (vI (lookF D.1 B 0)))) : qm_M d 84 [vR 0 0] σ Q := by
  obtain ⟨d, rfl, hd⟩ := qm_dn hd
  show qm_Wp (qm_M d) qk_84 Q 0 [some (vR 0 0), none] [] σ
  refine qm_go 2 (fun P hP => hP ?_)
  exact c_look_l hn hb hw hv B 0 rfl (by omega) h
theorem m_look_l {d : Nat} {σ : qm_Sg} {Q : qm_Po} {n9 : Nat} {D : DD} {B : B9} (hn : n9 ≤ 6) (hb : mBook σ B) (hw : wfB n9 B) (hv : mV σ D) : ∀ (l : B9) (i : Nat), B.drop i = l → i ≤ B.length → Q σ (some (vI (lookF D.1 l i))) → qm_Wp (qm_M d) qk_175 Q 2 [some (vR 50 0), some (vI (nI i))] [] σ
  | [], i, hl, hi, h => by
    have h8 := hb.2.1
    have e := List.drop_eq_nil_iff.mp hl
    refine qm_go 4 (fun P hP => And.intro (fun _ => hP ?_) (fun z => absurd (by rw [hb.1]; exact nI_le (by omega) (by omega)) z))
    exact qm_go 2 (fun P hP => h)
  | x :: l, i, hl, hi, h => by
    have h8 := hb.2.1
    obtain ⟨q1, q2, q3⟩ := ix_step hl
    have hx := hw x (List.mem_of_getElem? q1)
    obtain ⟨v1, v2⟩ := hb.2.2 i x q1
    refine qm_go 4 (fun P hP => And.intro (fun z => absurd (by rw [← hb.1]; exact z) (nI_ge q3 (by omega))) (fun _ => hP ?_))
    refine qm_go 6 (fun P hP => Exists.intro (i) (And.intro (And.intro (rfl) (show i < 8 by omega)) (hP ?_)))
    rw [v1]
    refine qm_go 1 (fun P hP => Exists.intro (x.1) (And.intro (And.intro (rfl) (show x.1 < 6 by omega)) (hP ?_)))
    rw [hv.o _ (by omega)]
    refine qm_go 4 (fun P hP => Exists.intro (i) (And.intro (And.intro (rfl) (show i < 8 by omega)) (hP ?_)))
    rw [v2]
    unfold lookF at h
    by_cases e : D.1 x.1 = x.2
    · rw [if_pos e] at h
      refine qm_go 1 (fun P hP => And.intro (fun _ => hP ?_) (fun z => absurd e z))
      refine qm_go 2 (fun P hP => hP ?_)
      rw [nI_1]
      exact m_look_l hn hb hw hv l (i + 1) q2 (by omega) h
    · rw [if_neg e] at h
      refine qm_go 1 (fun P hP => And.intro (fun z => absurd z e) (fun _ => hP ?_))
      exact qm_go 2 (fun P hP => h)
theorem m_looked {d : Nat} (hd : 1 ≤ d) {σ : qm_Sg} {Q : qm_Po} {n9 : Nat} {D : DD} {B : B9} (hn : n9 ≤ 6) (hb : mBook σ B) (hw : wfB n9 B) (hv : mV σ D) (h : Q σ (some (vI (lookF D.1 B 0)))) : qm_M d 175 [vR 50 0] σ Q := by
  obtain ⟨d, rfl, hd⟩ := qm_dn hd
  show qm_Wp (qm_M d) qk_175 Q 0 [some (vR 50 0), none] [] σ
  refine qm_go 2 (fun P hP => hP ?_)
  exact m_look_l hn hb hw hv B 0 rfl (by omega) h
def slpC (A : AS) (k9 v9 : Int32) : Nat := if inP k9 7 then (if inP v9 10 then (if A.1 = 6 then 4 else 0) else 2) else 1
def slpV (A : AS) (k9 v9 : Int32) : Int32 := if slpC A k9 v9 = 0 then nI A.1 else -nI (slpC A k9 v9)
def slpA (A : AS) (k9 v9 : Int32) : AS := if slpC A k9 v9 = 0 then (A.1 + 1, upd A.2.1 A.1 k9, upd A.2.2.1 A.1 v9, A.2.2.2) else A
theorem slp_c {A : AS} {k9 v9 : Int32} {c : Nat} (h : slpC A k9 v9 = c) (h0 : c ≠ 0) : slpV A k9 v9 = -nI c ∧ slpA A k9 v9 = A := by
  unfold slpV slpA
  rw [h, if_neg h0, if_neg h0]
  exact ⟨rfl, rfl⟩
theorem slp_0 {A : AS} {k9 v9 : Int32} (h : slpC A k9 v9 = 0) : slpV A k9 v9 = nI A.1 ∧ slpA A k9 v9 = (A.1 + 1, upd A.2.1 A.1 k9, upd A.2.2.1 A.1 v9, A.2.2.2) := by
  unfold slpV slpA
  rw [h, if_pos rfl, if_pos rfl]
  exact ⟨rfl, rfl⟩
theorem kd_up {n9 : Nat} {f : Nat → Int32} {k9 : Int32} (h : ∀ p, p < n9 → ∃ k, k < 7 ∧ f p = nI k) (hk : inR k9 7) : ∀ p, p < n9 + 1 → ∃ k, k < 7 ∧ upd f n9 k9 p = nI k := by
  intro p hp
  by_cases e : p = n9
  · subst e
    rw [upd_same]
    exact hk
  · rw [upd_ne e]
    exact h p (by omega)
theorem Q6.z {f g : Nat → Int32} {k : Nat} (h : Q6 f g) (hz : g k = 0) : Q6 (upd f k 0) g := fun j hj => by
  by_cases e : j = k
  · rw [e, upd_same, hz]
  · rw [upd_ne e]; exact h j hj
theorem Q24.z {f g : Nat → Int32} {k : Nat} (h : Q24 f g) (hz : g k = 0) : Q24 (upd f k 0) g := fun j hj => by
  by_cases e : j = k
  · rw [e, upd_same, hz]
  · rw [upd_ne e]; exact h j hj
theorem aw_clr : ∀ n, n < 6 → ∀ a, a < 2 ^ n → nI a &&& ((1 <<< (nI n &&& 31)) ^^^ (-1)) = nI a := by decide +kernel
theorem c_lets {d : Nat} (hd : 1 ≤ d) {σ : qm_Sg} {Q : qm_Po} {A : AS} {k9 v9 : Int32} (hs : cS 0 σ A) (hn : A.1 < 6) (hk : inR k9 7) (h : ∀ σ', Fr (fun t i j => (i = 0 ∧ (t = 11 ∨ t = 12)) ∨ (t = 10 ∧ i = 0 ∧ j = 2)) σ σ' → cS 0 σ' (A.1 + 1, upd A.2.1 A.1 k9, upd A.2.2.1 A.1 v9, A.2.2.2) → Q σ' (some (vI (nI A.1)))) : qm_M d 24 [vR 10 0, vI k9, vI v9] σ Q := by
  obtain ⟨d, rfl, hd⟩ := qm_dn hd
  show qm_Wp (qm_M d) qk_24 Q 0 [some (vR 10 0), some (vI k9), some (vI v9), none] [] σ
  refine qm_go 2 (fun P hP => hP ?_)
  rw [hs.n]
  refine qm_go 6 (fun P hP => Exists.intro (A.1) (And.intro (And.intro (rfl) (hn)) (hP ?_)))
  refine qm_go 5 (fun P hP => Exists.intro (A.1) (And.intro (And.intro (rfl) (hn)) (hP ?_)))
  refine qm_go 6 (fun P hP => hP ?_)
  generalize hσ : wF _ 10 0 (upd _ 2 _) = σ2
  have F : Fr (fun t i j => (i = 0 ∧ (t = 11 ∨ t = 12)) ∨ (t = 10 ∧ i = 0 ∧ j = 2)) σ σ2 := by
    rw [← hσ]
    exact Fr.p1 (Fr.p1 (Fr.w1 (by omega)) (by omega)) (by omega)
  refine qm_go 2 (fun P hP => h σ2 F ?_)
  refine cS.mk9 (by rw [← hσ, wv_same, wF_ne _ _ (by omega), wF_ne _ _ (by omega), hs.n, nI_1]) hn ?_ ?_ ?_ ?_ (kd_up (fun p hp => hs.kind hp) hk) (hs.st.fr F (fun t i j a b => by omega) (by omega))
  · rw [← hσ, wF_ne _ _ (by omega), wF_ne _ _ (by omega), wF_same]
    exact hs.kd.up _ _
  · rw [← hσ, wF_ne _ _ (by omega), wF_same, wF_ne _ _ (by omega)]
    exact hs.vv.up _ _
  · rw [F.row (fun j => by omega)]
    exact hs.rows
  · rw [F.1 _ _ _ (by omega)]
    exact hs.aw
theorem c_sleeper {d : Nat} (hd : 2 ≤ d) {σ : qm_Sg} {Q : qm_Po} {A : AS} {k9 v9 : Int32} (hs : cS 0 σ A) (h : ∀ σ', Fr (fun t i j => (i = 0 ∧ (t = 11 ∨ t = 12)) ∨ (t = 10 ∧ i = 0 ∧ j = 2)) σ σ' → cS 0 σ' (slpA A k9 v9) → Q σ' (some (vI (slpV A k9 v9)))) : qm_M d 64 [vR 0 0, vI k9, vI v9] σ Q := by
  obtain ⟨d, rfl, hd⟩ := qm_dn hd
  show qm_Wp (qm_M d) qk_64 Q 0 [some (vR 0 0), some (vI k9), some (vI v9)] [] σ
  have h6 := hs.le
  refine qm_go 3 (fun P hP => c_isWithin (n := 7) (by omega) (by decide) (fun ck => hP ?_) (fun ck => hP ?_))
  · refine qm_go 1 (fun P hP => And.intro (fun _ => hP ?_) (fun z => absurd z (by decide)))
    refine qm_go 3 (fun P hP => c_isWithin (n := 10) (by omega) (by decide) (fun cv => hP ?_) (fun cv => hP ?_))
    · refine qm_go 1 (fun P hP => And.intro (fun _ => hP ?_) (fun z => absurd z (by decide)))
      have h1 : slpC A k9 v9 = (if A.1 = 6 then 4 else 0) := (if_pos ck).trans (if_pos cv)
      by_cases e : A.1 = 6
      · refine qm_go 5 (fun P hP => And.intro (fun z => absurd (by rw [hs.n, e]; rfl) z) (fun _ => hP ?_))
        have hc := h1.trans (if_pos e)
        have z := slp_c hc (by decide)
        rw [z.1, z.2] at h
        exact qm_go 2 (fun P hP => h σ Fr.rf hs)
      · refine qm_go 5 (fun P hP => And.intro (fun _ => hP ?_) (fun z => absurd ((nI_eq (b := 6) (by omega) (by omega)).mp (by rw [← hs.n]; exact z)) e))
        have z := slp_0 (h1.trans (if_neg e))
        rw [z.1, z.2] at h
        refine qm_go 5 (fun P hP => c_lets (by omega) hs (by omega) ck (fun σ2 F2 hs2 => hP ?_))
        exact qm_go 1 (fun P hP => h σ2 F2 hs2)
    · refine qm_go 1 (fun P hP => And.intro (fun z => absurd rfl z) (fun _ => hP ?_))
      have hc : slpC A k9 v9 = 2 := (if_pos ck).trans (if_neg cv)
      have z := slp_c hc (by decide)
      rw [z.1, z.2] at h
      exact qm_go 2 (fun P hP => h σ Fr.rf hs)
  · refine qm_go 1 (fun P hP => And.intro (fun z => absurd rfl z) (fun _ => hP ?_))
    have hc : slpC A k9 v9 = 1 := if_neg ck
    have z := slp_c hc (by decide)
    rw [z.1, z.2] at h
    exact qm_go 2 (fun P hP => h σ Fr.rf hs)
theorem m_slp_l {d : Nat} {σ0 : qm_Sg} {Q : qm_Po} {n9 : Nat} {g : Nat → Int32} {x1 x2 : Int32} (hn : n9 < 6) (hz : ∀ i, i < 4 → g (4 * n9 + i) = 0) (h : ∀ σ', Fr (fun t i j => t = 55) σ0 σ' → Q24 (σ'.1 55 0) g → qm_Wp (qm_M d) qk_116 Q 74 [some (vR 50 0), some (vI x1), some (vI x2), some (vI 4)] [] σ') : ∀ (k q : Nat) (σ : qm_Sg), q + k = 4 → Fr (fun t i j => t = 55) σ0 σ → σ.1 50 0 0 = nI n9 → Q24 (σ.1 55 0) g → qm_Wp (qm_M d) qk_116 Q 59 [some (vR 50 0), some (vI x1), some (vI x2), some (vI (nI q))] [] σ
  | 0, q, σ, e, F, h0, hq => by
    have : q = 4 := by omega
    subst this
    refine qm_go 3 (fun P hP => And.intro (fun _ => hP ?_) (fun c => absurd (by decide) c))
    exact h σ F hq
  | k + 1, q, σ, e, F, h0, hq => by
    refine qm_go 3 (fun P hP => And.intro (fun c => absurd c (nI_ge (b := 4) (by omega) (by omega))) (fun _ => hP ?_))
    refine qm_go 10 (fun P hP => Exists.intro (4 * n9 + q) (And.intro (And.intro (by rw [h0, show (4 : Int32) = nI 4 from rfl, pk_mul, nI_add]) (show 4 * n9 + q < 24 by omega)) (hP ?_)))
    refine qm_go 2 (fun P hP => hP ?_)
    rw [nI_1]
    refine m_slp_l hn hz h k (q + 1) _ (by omega) (Fr.p1 F rfl) (by rw [wF_ne _ _ (by omega)]; exact h0) ?_
    rw [wF_same]
    exact hq.z (hz q (by omega))
theorem m_sleeper {d : Nat} (hd : 2 ≤ d) {σ : qm_Sg} {Q : qm_Po} {A : AS} {D : DD} {k9 v9 : Int32} (hs : mS σ A) (hv : mV σ D) (hz : A.1 < 6 → D.1 A.1 = 0 ∧ D.2.1 A.1 = 0 ∧ (∀ i, i < 4 → A.2.2.2.1 (4 * A.1 + i) = 0) ∧ ∃ a, awO A = nI a ∧ a < 2 ^ A.1) (h : ∀ σ', Fr (fun t i j => t = 51 ∨ t = 52 ∨ t = 53 ∨ t = 54 ∨ t = 55 ∨ (t = 50 ∧ (j = 0 ∨ j = 1))) σ σ' → mS σ' (slpA A k9 v9) → mV σ' D → Q σ' (some (vI (slpV A k9 v9)))) : qm_M d 116 [vR 50 0, vI k9, vI v9] σ Q := by
  obtain ⟨d, rfl, hd⟩ := qm_dn hd
  show qm_Wp (qm_M d) qk_116 Q 0 [some (vR 50 0), some (vI k9), some (vI v9), none] [] σ
  have h6 := hs.le
  refine qm_go 5 (fun P hP => m_inR 7 (by decide) rfl (hd := by omega) (fun ck => hP ?_) (fun ck => hP ?_))
  · refine qm_go 1 (fun P hP => And.intro (fun _ => hP ?_) (fun z => absurd z (by decide)))
    refine qm_go 5 (fun P hP => m_inR 10 (by decide) rfl (hd := by omega) (fun cv => hP ?_) (fun cv => hP ?_))
    · refine qm_go 1 (fun P hP => And.intro (fun _ => hP ?_) (fun z => absurd z (by decide)))
      have h1 : slpC A k9 v9 = (if A.1 = 6 then 4 else 0) := (if_pos ck).trans (if_pos cv)
      by_cases e : A.1 = 6
      · refine qm_go 4 (fun P hP => And.intro (fun z => absurd (by rw [hs.n, e]; rfl) z) (fun _ => hP ?_))
        have hc := h1.trans (if_pos e)
        have z := slp_c hc (by decide)
        rw [z.1, z.2] at h
        exact qm_go 2 (fun P hP => h σ Fr.rf hs hv)
      · refine qm_go 4 (fun P hP => And.intro (fun _ => hP ?_) (fun z => absurd ((nI_eq (b := 6) (by omega) (by omega)).mp (by rw [← hs.n]; exact z)) e))
        have z := slp_0 (h1.trans (if_neg e))
        rw [z.1, z.2] at h
        have n6 : A.1 < 6 := by omega
        obtain ⟨z1, z2, z3, a9, z4, z5⟩ := hz n6
        refine qm_go 6 (fun P hP => Exists.intro (A.1) (And.intro (And.intro (hs.n) (n6)) (hP ?_)))
        refine qm_go 6 (fun P hP => Exists.intro (A.1) (And.intro (And.intro (hs.n) (n6)) (hP ?_)))
        refine qm_go 6 (fun P hP => Exists.intro (A.1) (And.intro (And.intro (hs.n) (n6)) (hP ?_)))
        refine qm_go 6 (fun P hP => Exists.intro (A.1) (And.intro (And.intro (hs.n) (n6)) (hP ?_)))
        refine qm_go 11 (fun P hP => hP ?_)
        generalize hσ : wF _ 50 0 (upd _ 1 _) = σ2
        have F2 : Fr (fun t i j => t = 51 ∨ t = 52 ∨ t = 53 ∨ t = 54 ∨ (t = 50 ∧ j = 1)) σ σ2 := by
          rw [← hσ]
          exact Fr.p1 (Fr.p1 (Fr.p1 (Fr.p1 (Fr.w1 (by omega)) (by omega)) (by omega)) (by omega)) (by omega)
        have a1 : σ2.1 50 0 1 = awO A := by
          rw [← hσ, wv_same, wF_ne _ _ (by omega), wF_ne _ _ (by omega), wF_ne _ _ (by omega), wF_ne _ _ (by omega), hs.aw, hs.n, z4]
          exact aw_clr A.1 n6 a9 z5
        have b1 : Q6 (σ2.1 51 0) (upd A.2.1 A.1 k9) := by
          rw [← hσ, wF_ne _ _ (by omega), wF_ne _ _ (by omega), wF_ne _ _ (by omega), wF_ne _ _ (by omega), wF_same]
          exact hs.kd.up _ _
        have b2 : Q6 (σ2.1 52 0) (upd A.2.2.1 A.1 v9) := by
          rw [← hσ, wF_ne _ _ (by omega), wF_ne _ _ (by omega), wF_ne _ _ (by omega), wF_same, wF_ne _ _ (by omega)]
          exact hs.vv.up _ _
        have b3 : Q6 (σ2.1 53 0) D.1 := by
          rw [← hσ, wF_ne _ _ (by omega), wF_ne _ _ (by omega), wF_same, wF_ne _ _ (by omega), wF_ne _ _ (by omega)]
          exact hv.o.z z1
        have b4 : Q6 (σ2.1 54 0) D.2.1 := by
          rw [← hσ, wF_ne _ _ (by omega), wF_same, wF_ne _ _ (by omega), wF_ne _ _ (by omega), wF_ne _ _ (by omega)]
          exact hv.l.z z2
        have b0 : σ2.1 50 0 0 = nI A.1 := by rw [F2.1 _ _ _ (by omega)]; exact hs.n
        refine qm_go 2 (fun P hP => hP ?_)
        refine m_slp_l n6 z3 (fun σ3 F3 q3 => ?_) 4 0 σ2 rfl Fr.rf b0 (by rw [F2.row (fun j => by omega)]; exact hs.rows)
        refine qm_go 6 (fun P hP => hP ?_)
        generalize hσ4 : wF _ 50 0 (upd _ 0 _) = σ4
        have F4 : Fr (fun t i j => t = 50 ∧ j = 0) σ3 σ4 := by rw [← hσ4]; exact Fr.w1 ⟨rfl, rfl⟩
        have k0 : σ4.1 50 0 0 = nI (A.1 + 1) := by rw [← hσ4, wv_same, F3.1 _ _ _ (by omega), b0, nI_1]
        have FF : Fr (fun t i j => t = 51 ∨ t = 52 ∨ t = 53 ∨ t = 54 ∨ t = 55 ∨ (t = 50 ∧ (j = 0 ∨ j = 1))) σ σ4 := ((F2.mono (fun t i j q => by omega)).tr (F3.mono (fun t i j q => by omega))).tr (F4.mono (fun t i j q => by omega))
        refine qm_go 4 (fun P hP => hP ?_)
        rw [k0, nI_pred]
        refine qm_go 1 (fun P hP => h σ4 FF (mS.mk9 k0 n6 ?_ ?_ ?_ ?_ (kd_up (fun p hp => hs.kind hp) ck) (hs.st.fr FF (fun t i j a b => by omega) (by omega))) (mV.of ?_ ?_ ?_ ?_))
        · rw [F4.row (fun j => by omega), F3.row (fun j => by omega)]; exact b1
        · rw [F4.row (fun j => by omega), F3.row (fun j => by omega)]; exact b2
        · rw [F4.row (fun j => by omega)]; exact q3
        · rw [F4.1 _ _ _ (by omega), F3.1 _ _ _ (by omega)]; exact a1
        · rw [F4.row (fun j => by omega), F3.row (fun j => by omega)]; exact b3
        · rw [F4.row (fun j => by omega), F3.row (fun j => by omega)]; exact b4
        · rw [FF.1 _ _ _ (by omega)]; exact hv.d
        · rw [FF.1 _ _ _ (by omega)]; exact hv.m
    · refine qm_go 1 (fun P hP => And.intro (fun z => absurd rfl z) (fun _ => hP ?_))
      have hc : slpC A k9 v9 = 2 := (if_pos ck).trans (if_neg cv)
      have z := slp_c hc (by decide)
      rw [z.1, z.2] at h
      exact qm_go 2 (fun P hP => h σ Fr.rf hs hv)
  · refine qm_go 1 (fun P hP => And.intro (fun z => absurd rfl z) (fun _ => hP ?_))
    have hc : slpC A k9 v9 = 1 := if_neg ck
    have z := slp_c hc (by decide)
    rw [z.1, z.2] at h
    exact qm_go 2 (fun P hP => h σ Fr.rf hs hv)
