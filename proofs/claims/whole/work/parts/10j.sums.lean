abbrev inP (a : Int32) (n : Nat) : Prop := ∃ p, p < n ∧ a = nI p
def tN (a : Int32) : Nat := a.toInt.toNat
theorem tN_nI {n : Nat} (h : n < 2 ^ 31) : tN (nI n) = n := by unfold tN; rw [nI_toInt h]; rfl
def sumF (f : Nat → Int32) : Nat → Nat → Int32 → Int32
  | 0, _, a => a
  | k + 1, p, a => sumF f k (p + 1) (a + f p)
theorem sumF_cg {f g : Nat → Int32} (h : Q6 f g) : ∀ (k p : Nat) (a : Int32), p + k ≤ 6 → sumF f k p a = sumF g k p a
  | 0, _, _, _ => rfl
  | k + 1, p, a, e => by
    unfold sumF
    rw [h p (by omega)]
    exact sumF_cg h k (p + 1) _ (by omega)
def oddF (A : AS) (D : DD) (n : Nat) (q : Int32) : Nat → Nat → Nat × Nat → Nat × Nat
  | 0, _, r => r
  | k + 1, p, r => if isAw (awO A) p then oddF A D n q k (p + 1) r
    else if dwA A D (1 <<< (nI p &&& 31)) n < q then oddF A D n q k (p + 1) (r.1, r.2 + 1) else oddF A D n q k (p + 1) (r.1 + 1, r.2 + 1)
theorem oddF_le (A : AS) (D : DD) (n : Nat) (q : Int32) : ∀ (k p : Nat) (r : Nat × Nat), (oddF A D n q k p r).1 ≤ r.1 + k ∧ (oddF A D n q k p r).2 ≤ r.2 + k
  | 0, _, _ => ⟨Nat.le_refl _, Nat.le_refl _⟩
  | k + 1, p, r => by
    unfold oddF
    split
    · have := oddF_le A D n q k (p + 1) r
      omega
    · split
      · have := oddF_le A D n q k (p + 1) (r.1, r.2 + 1)
        simp only at this
        omega
      · have := oddF_le A D n q k (p + 1) (r.1 + 1, r.2 + 1)
        simp only at this
        omega
def oddV (A : AS) (D : DD) (n q part : Int32) : Int64 :=
  if inP n 21 ∧ inP q 10000 ∧ inP part 2 then frL (oddF A D (tN n) q A.1 0 (0, 0)).1 (oddF A D (tN n) q A.1 0 (0, 0)).2 part else -9223372036854775808
theorem c_isPart {d : Nat} (hd : 1 ≤ d) {σ : qm_Sg} {Q : qm_Po} {a : Int32} (h1 : inR a 2 → Q σ (some (vI 1))) (h0 : ¬ inR a 2 → Q σ (some (vI 0))) : qm_M d 98 [vI a] σ Q := by
  obtain ⟨d, rfl, hd⟩ := qm_dn hd
  show qm_Wp (qm_M d) qk_98 Q 0 [some (vI a)] [] σ
  refine qm_go 2 (fun P hP => And.intro (fun c1 => hP ?_) (fun c1 => hP ?_))
  · refine qm_go 3 (fun P hP => ?_)
    refine And.intro rfl ?_
    first
      | exact h1 ⟨0, by decide, c1⟩
      | exact h1 ⟨1, by decide, c4⟩
      | (refine h0 (fun ⟨p, hp, e⟩ => ?_)
         rcases (show p = 0 ∨ p = 1 by omega) with rfl | rfl
         · exact c1 e
         · exact c4 e)
  · refine qm_go 3 (fun P hP => And.intro (fun c4 => hP ?_) (fun c4 => hP ?_))
    · refine qm_go 2 (fun P hP => ?_)
      refine And.intro rfl ?_
      first
        | exact h1 ⟨0, by decide, c1⟩
        | exact h1 ⟨1, by decide, c4⟩
        | (refine h0 (fun ⟨p, hp, e⟩ => ?_)
           rcases (show p = 0 ∨ p = 1 by omega) with rfl | rfl
           · exact c1 e
           · exact c4 e)
    · refine qm_go 3 (fun P hP => ?_)
      refine And.intro rfl ?_
      first
        | exact h1 ⟨0, by decide, c1⟩
        | exact h1 ⟨1, by decide, c4⟩
        | (refine h0 (fun ⟨p, hp, e⟩ => ?_)
           rcases (show p = 0 ∨ p = 1 by omega) with rfl | rfl
           · exact c1 e
           · exact c4 e)
theorem c_tog213_l {d : Nat} {σ : qm_Sg} {Q : qm_Po} {n : Nat} (hn : n ≤ 6) (hs : σ.1 10 2 2 = nI n) : ∀ (k p : Nat) (a : Int32), p + k = n → Q σ (some (vI (sumF (σ.1 13 2) k p a))) → qm_Wp (qm_M d) qk_33 Q 4 [some (vR 10 2), some (vR 13 2), some (vI a), some (vI (nI p))] [] σ
  | 0, p, a, e, h => by
    refine qm_go 4 (fun P hP => And.intro (fun _ => hP ?_) (fun c => absurd (by rw [hs]; exact nI_le (by omega) (by omega)) c))
    refine qm_go 2 (fun P hP => h)
  | k + 1, p, a, e, h => by
    refine qm_go 4 (fun P hP => And.intro (fun c => absurd c (by rw [hs]; exact nI_ge (by omega) (by omega))) (fun _ => hP ?_))
    refine qm_go 4 (fun P hP => Exists.intro (p) (And.intro (And.intro (rfl) ((show p < 6 by omega))) (hP ?_)))
    refine qm_go 4 (fun P hP => hP ?_)
    rw [nI_1]
    exact c_tog213_l hn hs k (p + 1) _ (by omega) h
theorem c_tog213 {d : Nat} (hd : 1 ≤ d) {σ : qm_Sg} {Q : qm_Po} {n : Nat} {g : Nat → Int32} (hn : n ≤ 6) (hs : σ.1 10 2 2 = nI n) (hg : Q6 (σ.1 13 2) g) (h : Q σ (some (vI (sumF g n 0 0)))) : qm_M d 33 [vR 10 2, vR 13 2] σ Q := by
  obtain ⟨d, rfl, hd⟩ := qm_dn hd
  show qm_Wp (qm_M d) qk_33 Q 0 [some (vR 10 2), some (vR 13 2), none, none] [] σ
  refine qm_go 4 (fun P hP => hP ?_)
  exact c_tog213_l hn hs n 0 0 (by omega) (by rw [sumF_cg hg n 0 0 (by omega)]; exact h)
theorem c_tog214_l {d : Nat} {σ : qm_Sg} {Q : qm_Po} {n : Nat} (hn : n ≤ 6) (hs : σ.1 10 2 2 = nI n) : ∀ (k p : Nat) (a : Int32), p + k = n → Q σ (some (vI (sumF (σ.1 14 2) k p a))) → qm_Wp (qm_M d) qk_33 Q 4 [some (vR 10 2), some (vR 14 2), some (vI a), some (vI (nI p))] [] σ
  | 0, p, a, e, h => by
    refine qm_go 4 (fun P hP => And.intro (fun _ => hP ?_) (fun c => absurd (by rw [hs]; exact nI_le (by omega) (by omega)) c))
    refine qm_go 2 (fun P hP => h)
  | k + 1, p, a, e, h => by
    refine qm_go 4 (fun P hP => And.intro (fun c => absurd c (by rw [hs]; exact nI_ge (by omega) (by omega))) (fun _ => hP ?_))
    refine qm_go 4 (fun P hP => Exists.intro (p) (And.intro (And.intro (rfl) ((show p < 6 by omega))) (hP ?_)))
    refine qm_go 4 (fun P hP => hP ?_)
    rw [nI_1]
    exact c_tog214_l hn hs k (p + 1) _ (by omega) h
theorem c_tog214 {d : Nat} (hd : 1 ≤ d) {σ : qm_Sg} {Q : qm_Po} {n : Nat} {g : Nat → Int32} (hn : n ≤ 6) (hs : σ.1 10 2 2 = nI n) (hg : Q6 (σ.1 14 2) g) (h : Q σ (some (vI (sumF g n 0 0)))) : qm_M d 33 [vR 10 2, vR 14 2] σ Q := by
  obtain ⟨d, rfl, hd⟩ := qm_dn hd
  show qm_Wp (qm_M d) qk_33 Q 0 [some (vR 10 2), some (vR 14 2), none, none] [] σ
  refine qm_go 4 (fun P hP => hP ?_)
  exact c_tog214_l hn hs n 0 0 (by omega) (by rw [sumF_cg hg n 0 0 (by omega)]; exact h)
theorem c_tog013_l {d : Nat} {σ : qm_Sg} {Q : qm_Po} {n : Nat} (hn : n ≤ 6) (hs : σ.1 10 0 2 = nI n) : ∀ (k p : Nat) (a : Int32), p + k = n → Q σ (some (vI (sumF (σ.1 13 0) k p a))) → qm_Wp (qm_M d) qk_33 Q 4 [some (vR 10 0), some (vR 13 0), some (vI a), some (vI (nI p))] [] σ
  | 0, p, a, e, h => by
    refine qm_go 4 (fun P hP => And.intro (fun _ => hP ?_) (fun c => absurd (by rw [hs]; exact nI_le (by omega) (by omega)) c))
    refine qm_go 2 (fun P hP => h)
  | k + 1, p, a, e, h => by
    refine qm_go 4 (fun P hP => And.intro (fun c => absurd c (by rw [hs]; exact nI_ge (by omega) (by omega))) (fun _ => hP ?_))
    refine qm_go 4 (fun P hP => Exists.intro (p) (And.intro (And.intro (rfl) ((show p < 6 by omega))) (hP ?_)))
    refine qm_go 4 (fun P hP => hP ?_)
    rw [nI_1]
    exact c_tog013_l hn hs k (p + 1) _ (by omega) h
theorem c_tog013 {d : Nat} (hd : 1 ≤ d) {σ : qm_Sg} {Q : qm_Po} {n : Nat} {g : Nat → Int32} (hn : n ≤ 6) (hs : σ.1 10 0 2 = nI n) (hg : Q6 (σ.1 13 0) g) (h : Q σ (some (vI (sumF g n 0 0)))) : qm_M d 33 [vR 10 0, vR 13 0] σ Q := by
  obtain ⟨d, rfl, hd⟩ := qm_dn hd
  show qm_Wp (qm_M d) qk_33 Q 0 [some (vR 10 0), some (vR 13 0), none, none] [] σ
  refine qm_go 4 (fun P hP => hP ?_)
  exact c_tog013_l hn hs n 0 0 (by omega) (by rw [sumF_cg hg n 0 0 (by omega)]; exact h)
theorem c_tog014_l {d : Nat} {σ : qm_Sg} {Q : qm_Po} {n : Nat} (hn : n ≤ 6) (hs : σ.1 10 0 2 = nI n) : ∀ (k p : Nat) (a : Int32), p + k = n → Q σ (some (vI (sumF (σ.1 14 0) k p a))) → qm_Wp (qm_M d) qk_33 Q 4 [some (vR 10 0), some (vR 14 0), some (vI a), some (vI (nI p))] [] σ
  | 0, p, a, e, h => by
    refine qm_go 4 (fun P hP => And.intro (fun _ => hP ?_) (fun c => absurd (by rw [hs]; exact nI_le (by omega) (by omega)) c))
    refine qm_go 2 (fun P hP => h)
  | k + 1, p, a, e, h => by
    refine qm_go 4 (fun P hP => And.intro (fun c => absurd c (by rw [hs]; exact nI_ge (by omega) (by omega))) (fun _ => hP ?_))
    refine qm_go 4 (fun P hP => Exists.intro (p) (And.intro (And.intro (rfl) ((show p < 6 by omega))) (hP ?_)))
    refine qm_go 4 (fun P hP => hP ?_)
    rw [nI_1]
    exact c_tog014_l hn hs k (p + 1) _ (by omega) h
theorem c_tog014 {d : Nat} (hd : 1 ≤ d) {σ : qm_Sg} {Q : qm_Po} {n : Nat} {g : Nat → Int32} (hn : n ≤ 6) (hs : σ.1 10 0 2 = nI n) (hg : Q6 (σ.1 14 0) g) (h : Q σ (some (vI (sumF g n 0 0)))) : qm_M d 33 [vR 10 0, vR 14 0] σ Q := by
  obtain ⟨d, rfl, hd⟩ := qm_dn hd
  show qm_Wp (qm_M d) qk_33 Q 0 [some (vR 10 0), some (vR 14 0), none, none] [] σ
  refine qm_go 4 (fun P hP => hP ?_)
  exact c_tog014_l hn hs n 0 0 (by omega) (by rw [sumF_cg hg n 0 0 (by omega)]; exact h)
theorem m_sum53_l {d : Nat} {σ : qm_Sg} {Q : qm_Po} {n : Nat} (hn : n ≤ 6) (hs : σ.1 50 0 0 = nI n) : ∀ (k p : Nat) (a : Int32), p + k = n → Q σ (some (vI (sumF (σ.1 53 0) k p a))) → qm_Wp (qm_M d) qk_147 Q 4 [some (vR 50 0), some (vI 1), some (vI a), some (vI (nI p))] [] σ
  | 0, p, a, e, h => by
    refine qm_go 4 (fun P hP => And.intro (fun _ => hP ?_) (fun c => absurd (by rw [hs]; exact nI_le (by omega) (by omega)) c))
    refine qm_go 2 (fun P hP => h)
  | k + 1, p, a, e, h => by
    refine qm_go 4 (fun P hP => And.intro (fun c => absurd c (by rw [hs]; exact nI_ge (by omega) (by omega))) (fun _ => hP ?_))
    refine qm_go 3 (fun P hP => And.intro (fun c => absurd c (by decide)) (fun _ => hP ?_))
    refine qm_go 4 (fun P hP => Exists.intro (p) (And.intro (And.intro (rfl) ((show p < 6 by omega))) (hP ?_)))
    refine qm_go 5 (fun P hP => hP ?_)
    rw [nI_1]
    exact m_sum53_l hn hs k (p + 1) _ (by omega) h
theorem m_sum53 {d : Nat} (hd : 1 ≤ d) {σ : qm_Sg} {Q : qm_Po} {n : Nat} {g : Nat → Int32} (hn : n ≤ 6) (hs : σ.1 50 0 0 = nI n) (hg : Q6 (σ.1 53 0) g) (h : Q σ (some (vI (sumF g n 0 0)))) : qm_M d 147 [vR 50 0, vI 1] σ Q := by
  obtain ⟨d, rfl, hd⟩ := qm_dn hd
  show qm_Wp (qm_M d) qk_147 Q 0 [some (vR 50 0), some (vI 1), none, none] [] σ
  refine qm_go 4 (fun P hP => hP ?_)
  exact m_sum53_l hn hs n 0 0 (by omega) (by rw [sumF_cg hg n 0 0 (by omega)]; exact h)
theorem m_sum54_l {d : Nat} {σ : qm_Sg} {Q : qm_Po} {n : Nat} (hn : n ≤ 6) (hs : σ.1 50 0 0 = nI n) : ∀ (k p : Nat) (a : Int32), p + k = n → Q σ (some (vI (sumF (σ.1 54 0) k p a))) → qm_Wp (qm_M d) qk_147 Q 4 [some (vR 50 0), some (vI 0), some (vI a), some (vI (nI p))] [] σ
  | 0, p, a, e, h => by
    refine qm_go 4 (fun P hP => And.intro (fun _ => hP ?_) (fun c => absurd (by rw [hs]; exact nI_le (by omega) (by omega)) c))
    refine qm_go 2 (fun P hP => h)
  | k + 1, p, a, e, h => by
    refine qm_go 4 (fun P hP => And.intro (fun c => absurd c (by rw [hs]; exact nI_ge (by omega) (by omega))) (fun _ => hP ?_))
    refine qm_go 3 (fun P hP => And.intro (fun _ => hP ?_) (fun c => absurd rfl c))
    refine qm_go 4 (fun P hP => Exists.intro (p) (And.intro (And.intro (rfl) ((show p < 6 by omega))) (hP ?_)))
    refine qm_go 4 (fun P hP => hP ?_)
    rw [nI_1]
    exact m_sum54_l hn hs k (p + 1) _ (by omega) h
theorem m_sum54 {d : Nat} (hd : 1 ≤ d) {σ : qm_Sg} {Q : qm_Po} {n : Nat} {g : Nat → Int32} (hn : n ≤ 6) (hs : σ.1 50 0 0 = nI n) (hg : Q6 (σ.1 54 0) g) (h : Q σ (some (vI (sumF g n 0 0)))) : qm_M d 147 [vR 50 0, vI 0] σ Q := by
  obtain ⟨d, rfl, hd⟩ := qm_dn hd
  show qm_Wp (qm_M d) qk_147 Q 0 [some (vR 50 0), some (vI 0), none, none] [] σ
  refine qm_go 4 (fun P hP => hP ?_)
  exact m_sum54_l hn hs n 0 0 (by omega) (by rw [sumF_cg hg n 0 0 (by omega)]; exact h)
theorem c_odds_l {d : Nat} (hd : 8 ≤ d) {σ0 : qm_Sg} {Q : qm_Po} {A : AS} {D : DD} {n : Nat} {q part : Int32} {z : Nat × Nat} (hs : cS 0 σ0 A) (hv : cV 0 σ0 D) (hn : n < 2 ^ 20) (hm : D.2.2.2 + n < 2 ^ 30) (h : ∀ σ', Fr tT σ0 σ' → Q σ' (some (vL (frL (z).1 (z).2 part)))) : ∀ (k p a b : Nat) (σ : qm_Sg), p + k = A.1 → a ≤ p → b ≤ p → oddF A D n q k p (a, b) = z → Fr tT σ0 σ → qm_Wp (qm_M d) qk_79 Q 19 [some (vR 0 0), some (vI (nI n)), some (vI q), some (vI part), some (vI (nI b)), some (vI (nI a)), some (vI (nI p))] [] σ
  | 0, p, a, b, σ, e, ha, hb, ho, f0 => by
    have hn6 := hs.le
    have ho : (a, b) = z := ho
    rw [← ho] at h
    refine qm_go 5 (fun P hP => And.intro (fun _ => hP ?_) (fun c => absurd (by rw [(hs.tr f0).n]; exact nI_le (by omega) (by omega)) c))
    refine qm_go 4 (fun P hP => c_frac (by omega) (by omega) (by omega) (hP ?_))
    refine qm_go 1 (fun P hP => h σ f0)
  | k + 1, p, a, b, σ, e, ha, hb, ho, f0 => by
    have hn6 := hs.le
    have s1 := hs.tr f0
    have v1 := hv.tr f0
    unfold oddF at ho
    have kk := c_odds_l (q := q) hd hs hv hn hm h k (p + 1)
    refine qm_go 5 (fun P hP => And.intro (fun c => absurd c (by rw [s1.n]; exact nI_ge (by omega) (by omega))) (fun _ => hP ?_))
    refine qm_go 4 (fun P hP => c_isAway (by omega) (fun c => hP ?_) (fun c => hP ?_))
    · refine qm_go 1 (fun P hP => And.intro (fun _ => hP ?_) (fun c => absurd c (by decide)))
      refine qm_go 2 (fun P hP => hP ?_)
      rw [s1.aw] at c
      first
        | (rw [if_pos c] at ho; rw [nI_1]; exact kk a b σ (by omega) (by omega) (by omega) ho f0)
        | (rw [if_neg c, if_pos c37] at ho; rw [nI_1, nI_1]; exact kk a (b + 1) σ2 (by omega) (by omega) (by omega) ho (f0.tr f2))
        | (rw [if_neg c, if_neg c37] at ho; rw [nI_1, nI_1, nI_1]; exact kk (a + 1) (b + 1) σ2 (by omega) (by omega) (by omega) ho (f0.tr f2))
    · refine qm_go 1 (fun P hP => And.intro (fun c => absurd (by decide) c) (fun _ => hP ?_))
      refine qm_go 7 (fun P hP => c_dw (by omega) s1 v1 hn hm (fun σ2 f2 => hP ?_))
      refine qm_go 2 (fun P hP => And.intro (fun c37 => hP ?_) (fun c37 => hP ?_))
      · refine qm_go 2 (fun P hP => hP ?_)
        rw [s1.aw] at c
        first
          | (rw [if_pos c] at ho; rw [nI_1]; exact kk a b σ (by omega) (by omega) (by omega) ho f0)
          | (rw [if_neg c, if_pos c37] at ho; rw [nI_1, nI_1]; exact kk a (b + 1) σ2 (by omega) (by omega) (by omega) ho (f0.tr f2))
          | (rw [if_neg c, if_neg c37] at ho; rw [nI_1, nI_1, nI_1]; exact kk (a + 1) (b + 1) σ2 (by omega) (by omega) (by omega) ho (f0.tr f2))
      · refine qm_go 3 (fun P hP => hP ?_)
        rw [s1.aw] at c
        first
          | (rw [if_pos c] at ho; rw [nI_1]; exact kk a b σ (by omega) (by omega) (by omega) ho f0)
          | (rw [if_neg c, if_pos c37] at ho; rw [nI_1, nI_1]; exact kk a (b + 1) σ2 (by omega) (by omega) (by omega) ho (f0.tr f2))
          | (rw [if_neg c, if_neg c37] at ho; rw [nI_1, nI_1, nI_1]; exact kk (a + 1) (b + 1) σ2 (by omega) (by omega) (by omega) ho (f0.tr f2))
theorem m_odds_l {d : Nat} (hd : 11 ≤ d) {σ0 : qm_Sg} {Q : qm_Po} {A : AS} {D : DD} {n : Nat} {q part : Int32} {z : Nat × Nat} (hn : n < 2 ^ 20) (hm : D.2.2.2 + n < 2 ^ 30) (h : ∀ σ', Fr tQ σ0 σ' → mS σ' A → mV σ' D → Q σ' (some (vL (frL (z).1 (z).2 part)))) : ∀ (k p a b : Nat) (σ : qm_Sg), p + k = A.1 → a ≤ p → b ≤ p → oddF A D n q k p (a, b) = z → Fr tQ σ0 σ → mS σ A → mV σ D → qm_Wp (qm_M d) qk_169 Q 24 [some (vR 50 0), some (vI (nI n)), some (vI q), some (vI part), some (vI (nI a)), some (vI (nI b)), some (vI (nI p))] [] σ
  | 0, p, a, b, σ, e, ha, hb, ho, f0, hs, hv => by
    have hn6 := hs.le
    have ho : (a, b) = z := ho
    rw [← ho] at h
    have h := h σ f0 hs hv
    unfold frL at h
    by_cases hb0 : b = 0
    · subst hb0
      refine qm_go 4 (fun P hP => And.intro (fun _ => hP ?_) (fun c => absurd (by rw [hs.n]; exact nI_le (by omega) (by omega)) c))
      refine qm_go 2 (fun P hP => And.intro (fun c => absurd rfl c) (fun _ => hP ?_))
      refine qm_go 3 (fun P hP => h)
    · have h : Q σ (some (vL (frR a b part))) := by
        rw [if_neg hb0] at h
        exact h
      refine qm_go 4 (fun P hP => And.intro (fun _ => hP ?_) (fun c => absurd (by rw [hs.n]; exact nI_le (by omega) (by omega)) c))
      refine qm_go 2 (fun P hP => And.intro (fun _ => hP ?_) (fun c => absurd c (n0 (by omega) (by omega))))
      refine qm_go 5 (fun P hP => m_lowest (by omega) (by omega) (by omega) (by omega) (hP ?_))
      refine qm_go 1 (fun P hP => h)
  | k + 1, p, a, b, σ, e, ha, hb, ho, f0, hs, hv => by
    have hn6 := hs.le
    unfold oddF at ho
    have kk := m_odds_l (q := q) hd hn hm h k (p + 1)
    refine qm_go 4 (fun P hP => And.intro (fun c => absurd c (by rw [hs.n]; exact nI_ge (by omega) (by omega))) (fun _ => hP ?_))
    refine qm_go 5 (fun P hP => m_has (by omega) (fun c => hP ?_) (fun c => hP ?_))
    · refine qm_go 1 (fun P hP => And.intro (fun c => absurd c (by decide)) (fun _ => hP ?_))
      refine qm_go 3 (fun P hP => hP ?_)
      rw [hs.aw] at c
      first
        | (rw [if_pos c] at ho; rw [nI_1]; exact kk a b σ (by omega) (by omega) (by omega) ho f0 hs hv)
        | (rw [if_neg c, if_pos c44] at ho; rw [nI_1, nI_1, show nI a + 0 = nI (a + 0) from nI_add _ _]; exact kk a (b + 1) σ2 (by omega) (by omega) (by omega) ho (f0.tr f2) s2 v2)
        | (rw [if_neg c, if_neg c44] at ho; rw [nI_1, nI_1, nI_1]; exact kk (a + 1) (b + 1) σ2 (by omega) (by omega) (by omega) ho (f0.tr f2) s2 v2)
    · refine qm_go 1 (fun P hP => And.intro (fun _ => hP ?_) (fun c => absurd (by decide) c))
      refine qm_go 8 (fun P hP => m_dw (by omega) hs hv hn hm (fun σ2 f2 s2 v2 => hP ?_))
      refine qm_go 2 (fun P hP => And.intro (fun c44 => hP ?_) (fun c44 => hP ?_))
      · refine qm_go 5 (fun P hP => hP ?_)
        rw [hs.aw] at c
        first
          | (rw [if_pos c] at ho; rw [nI_1]; exact kk a b σ (by omega) (by omega) (by omega) ho f0 hs hv)
          | (rw [if_neg c, if_pos c44] at ho; rw [nI_1, nI_1, show nI a + 0 = nI (a + 0) from nI_add _ _]; exact kk a (b + 1) σ2 (by omega) (by omega) (by omega) ho (f0.tr f2) s2 v2)
          | (rw [if_neg c, if_neg c44] at ho; rw [nI_1, nI_1, nI_1]; exact kk (a + 1) (b + 1) σ2 (by omega) (by omega) (by omega) ho (f0.tr f2) s2 v2)
      · refine qm_go 6 (fun P hP => hP ?_)
        rw [hs.aw] at c
        first
          | (rw [if_pos c] at ho; rw [nI_1]; exact kk a b σ (by omega) (by omega) (by omega) ho f0 hs hv)
          | (rw [if_neg c, if_pos c44] at ho; rw [nI_1, nI_1, show nI a + 0 = nI (a + 0) from nI_add _ _]; exact kk a (b + 1) σ2 (by omega) (by omega) (by omega) ho (f0.tr f2) s2 v2)
          | (rw [if_neg c, if_neg c44] at ho; rw [nI_1, nI_1, nI_1]; exact kk (a + 1) (b + 1) σ2 (by omega) (by omega) (by omega) ho (f0.tr f2) s2 v2)
