def bS (b : Nat) : Nat → Nat
  | 0 => 0
  | q + 1 => bS b q + (if isAw (nI b) q then 1 else 0)
def ush (a b : Int32) : Int32 := (a.toUInt32 >>> (b.toUInt32 &&& Int32.toUInt32 31)).toInt32
def bc1 (x : Int32) : Int32 := x - (ush x 1 &&& 1431655765)
def bc2 (x : Int32) : Int32 := (x &&& 858993459) + (ush x 2 &&& 858993459)
def bc3 (x : Int32) : Int32 := (x + ush x 4) &&& 252645135
def bc4 (x : Int32) : Int32 := x + ush x 8
def bc5 (x : Int32) : Int32 := (x + ush x 16) &&& 63
theorem bc_all : ∀ b, b < 64 → bc5 (bc4 (bc3 (bc2 (bc1 (nI b))))) = nI (bS b 6) := by decide +kernel
theorem bS_le (b : Nat) : ∀ q, bS b q ≤ q
  | 0 => Nat.le_refl _
  | q + 1 => by
    have := bS_le b q
    unfold bS
    split <;> omega
theorem sh6 {N : Nat} (h : N ≤ 6) : (1 : Int32) <<< (nI N &&& 31) = nI (2 ^ N) := by
  rcases (show N = 0 ∨ N = 1 ∨ N = 2 ∨ N = 3 ∨ N = 4 ∨ N = 5 ∨ N = 6 by omega) with rfl | rfl | rfl | rfl | rfl | rfl | rfl <;> decide
theorem p6 {N : Nat} (h : N ≤ 6) : 2 ^ N ≤ 64 := Nat.pow_le_pow_right (by decide) h (n := 2)
theorem c_bitCount {d : Nat} (hd : 1 ≤ d) {σ : qm_Sg} {Q : qm_Po} {b : Nat} (hb : b < 64) (h : Q σ (some (vI (nI (bS b 6))))) : qm_M d 0 [vI (nI b)] σ Q := by
  obtain ⟨d, rfl, hd⟩ := qm_dn hd
  show qm_Wp (qm_M d) qk_0 Q 0 [some (vI (nI b))] [] σ
  refine qm_go 42 (fun P hP => ?_)
  show Q σ (some (vI (bc5 (bc4 (bc3 (bc2 (bc1 (nI b))))))))
  rw [bc_all b hb]
  exact h
theorem m_bits_l {d : Nat} (hd : 1 ≤ d) {σ : qm_Sg} {Q : qm_Po} {b : Nat} (h : Q σ (some (vI (nI (bS b 6))))) : ∀ (k q : Nat), q + k = 6 → qm_Wp (qm_M d) qk_112 Q 4 [some (vR 50 0), some (vI (nI b)), some (vI (nI (bS b q))), some (vI (nI q))] [] σ
  | 0, q, e => by
    have : q = 6 := by omega
    subst this
    refine qm_go 3 (fun P hP => And.intro (fun _ => hP ?_) (fun c => absurd (by decide) c))
    refine qm_go 2 (fun P hP => h)
  | k + 1, q, e => by
    refine qm_go 3 (fun P hP => And.intro (fun c => absurd c (nI_ge (b := 6) (by omega) (by omega))) (fun _ => hP ?_))
    refine qm_go 5 (fun P hP => m_has hd (fun c => hP ?_) (fun c => hP ?_))
    · refine qm_go 1 (fun P hP => And.intro (fun c => absurd c (by decide)) (fun _ => hP ?_))
      refine qm_go 6 (fun P hP => hP ?_)
      have kk := m_bits_l hd h k (q + 1) (by omega)
      unfold bS at kk
      rw [nI_1]
      first
        | (rw [if_pos c] at kk; rw [nI_1]; exact kk)
        | (rw [if_neg c] at kk; rw [show nI (bS b q) + 0 = nI (bS b q + 0) from nI_add _ _]; exact kk)
    · refine qm_go 1 (fun P hP => And.intro (fun _ => hP ?_) (fun c => absurd (by decide) c))
      refine qm_go 5 (fun P hP => hP ?_)
      have kk := m_bits_l hd h k (q + 1) (by omega)
      unfold bS at kk
      rw [nI_1]
      first
        | (rw [if_pos c] at kk; rw [nI_1]; exact kk)
        | (rw [if_neg c] at kk; rw [show nI (bS b q) + 0 = nI (bS b q + 0) from nI_add _ _]; exact kk)
theorem m_bits {d : Nat} (hd : 2 ≤ d) {σ : qm_Sg} {Q : qm_Po} {b : Nat} (h : Q σ (some (vI (nI (bS b 6))))) : qm_M d 112 [vR 50 0, vI (nI b)] σ Q := by
  obtain ⟨d, rfl, hd⟩ := qm_dn hd
  show qm_Wp (qm_M d) qk_112 Q 0 [some (vR 50 0), some (vI (nI b)), none, none] [] σ
  refine qm_go 4 (fun P hP => hP ?_)
  exact m_bits_l (by omega) h 6 0 (by omega)
def stopF (A : AS) (D : DD) (n : Nat) : Nat → Nat → Int32 → Int32 → Int32
  | 0, _, s, _ => s
  | k + 1, b, s, f => if (nI b &&& awO A = 0 ∧ nI (bS b 6) < f ∧ dwA A D (nI b) n ≤ D.2.2.1) then stopF A D n k (b + 1) (nI b) (nI (bS b 6)) else stopF A D n k (b + 1) s f
theorem c_stop_l {d : Nat} (hd : 7 ≤ d) {σ0 : qm_Sg} {Q : qm_Po} {A : AS} {D : DD} {n : Nat} (hs : cS 0 σ0 A) (hv : cV 0 σ0 D) (hn : n < 2 ^ 20) (hm : D.2.2.2 + n < 2 ^ 30) : ∀ (k b : Nat) (s f : Int32) (l5 : Option qm_AV) (σ : qm_Sg), b + k = 2 ^ A.1 → Fr tT σ0 σ → (∀ σ', Fr tT σ0 σ' → Q σ' (some (vI (stopF A D n k b s f)))) → qm_Wp (qm_M d) qk_107 Q 6 [some (vR 0 0), some (vI (nI n)), some (vI s), some (vI f), some (vI (nI b)), l5] [] σ
  | 0, b, s, f, l5, σ, e, f0, h => by
    have hn6 := p6 hs.le
    refine qm_go 7 (fun P hP => And.intro (fun _ => hP ?_) (fun c => absurd (by rw [(hs.tr f0).n, sh6 hs.le]; exact nI_le (by omega) (by omega)) c))
    refine qm_go 2 (fun P hP => h σ f0)
  | k + 1, b, s, f, l5, σ, e, f0, h => by
    have hn6 := p6 hs.le
    have s1 := hs.tr f0
    have v1 := hv.tr f0
    unfold stopF at h
    refine qm_go 7 (fun P hP => And.intro (fun c => absurd c (by rw [s1.n, sh6 hs.le]; exact nI_ge (by omega) (by omega))) (fun _ => hP ?_))
    refine qm_go 2 (fun P hP => c_bitCount (by omega) (show b < 64 by omega) (hP ?_))
    refine qm_go 7 (fun P hP => And.intro (fun c21 => hP ?_) (fun c21 => hP ?_))
    · refine qm_go 2 (fun P hP => hP ?_)
      rw [nI_1]
      rw [s1.aw] at c21
      first
        | (rw [if_neg (fun z => c21 z.1)] at h; exact c_stop_l hd hs hv hn hm k (b + 1) s f _ σ (by omega) f0 h)
        | (rw [if_neg (fun z => i_nle z.2.1 c24)] at h; exact c_stop_l hd hs hv hn hm k (b + 1) s f _ σ (by omega) f0 h)
        | (rw [(v1.tr f2).d] at c32
           first
             | (rw [if_neg (fun z => i_nle c32 z.2.2)] at h; exact c_stop_l hd hs hv hn hm k (b + 1) s f _ σ2 (by omega) (f0.tr f2) h)
             | (rw [if_pos ⟨c21, i_lt_of c24, i_le_of c32⟩] at h; exact c_stop_l hd hs hv hn hm k (b + 1) _ _ _ σ2 (by omega) (f0.tr f2) h))
    · refine qm_go 3 (fun P hP => And.intro (fun c24 => hP ?_) (fun c24 => hP ?_))
      · refine qm_go 2 (fun P hP => hP ?_)
        rw [nI_1]
        rw [s1.aw] at c21
        first
          | (rw [if_neg (fun z => c21 z.1)] at h; exact c_stop_l hd hs hv hn hm k (b + 1) s f _ σ (by omega) f0 h)
          | (rw [if_neg (fun z => i_nle z.2.1 c24)] at h; exact c_stop_l hd hs hv hn hm k (b + 1) s f _ σ (by omega) f0 h)
          | (rw [(v1.tr f2).d] at c32
             first
               | (rw [if_neg (fun z => i_nle c32 z.2.2)] at h; exact c_stop_l hd hs hv hn hm k (b + 1) s f _ σ2 (by omega) (f0.tr f2) h)
               | (rw [if_pos ⟨c21, i_lt_of c24, i_le_of c32⟩] at h; exact c_stop_l hd hs hv hn hm k (b + 1) _ _ _ σ2 (by omega) (f0.tr f2) h))
      · refine qm_go 4 (fun P hP => c_dw (by omega) s1 v1 hn hm (fun σ2 f2 => hP ?_))
        refine qm_go 4 (fun P hP => And.intro (fun c32 => hP ?_) (fun c32 => hP ?_))
        · refine qm_go 2 (fun P hP => hP ?_)
          rw [nI_1]
          rw [s1.aw] at c21
          first
            | (rw [if_neg (fun z => c21 z.1)] at h; exact c_stop_l hd hs hv hn hm k (b + 1) s f _ σ (by omega) f0 h)
            | (rw [if_neg (fun z => i_nle z.2.1 c24)] at h; exact c_stop_l hd hs hv hn hm k (b + 1) s f _ σ (by omega) f0 h)
            | (rw [(v1.tr f2).d] at c32
               first
                 | (rw [if_neg (fun z => i_nle c32 z.2.2)] at h; exact c_stop_l hd hs hv hn hm k (b + 1) s f _ σ2 (by omega) (f0.tr f2) h)
                 | (rw [if_pos ⟨c21, i_lt_of c24, i_le_of c32⟩] at h; exact c_stop_l hd hs hv hn hm k (b + 1) _ _ _ σ2 (by omega) (f0.tr f2) h))
        · refine qm_go 6 (fun P hP => hP ?_)
          rw [nI_1]
          rw [s1.aw] at c21
          first
            | (rw [if_neg (fun z => c21 z.1)] at h; exact c_stop_l hd hs hv hn hm k (b + 1) s f _ σ (by omega) f0 h)
            | (rw [if_neg (fun z => i_nle z.2.1 c24)] at h; exact c_stop_l hd hs hv hn hm k (b + 1) s f _ σ (by omega) f0 h)
            | (rw [(v1.tr f2).d] at c32
               first
                 | (rw [if_neg (fun z => i_nle c32 z.2.2)] at h; exact c_stop_l hd hs hv hn hm k (b + 1) s f _ σ2 (by omega) (f0.tr f2) h)
                 | (rw [if_pos ⟨c21, i_lt_of c24, i_le_of c32⟩] at h; exact c_stop_l hd hs hv hn hm k (b + 1) _ _ _ σ2 (by omega) (f0.tr f2) h))
theorem c_stop {d : Nat} (hd : 8 ≤ d) {σ : qm_Sg} {Q : qm_Po} {A : AS} {D : DD} {n : Nat} (hs : cS 0 σ A) (hv : cV 0 σ D) (hn : n < 2 ^ 20) (hm : D.2.2.2 + n < 2 ^ 30) (h : ∀ σ', Fr tT σ σ' → Q σ' (some (vI (stopF A D n (2 ^ A.1) 0 (-5) 7)))) : qm_M d 107 [vR 0 0, vI (nI n)] σ Q := by
  obtain ⟨d, rfl, hd⟩ := qm_dn hd
  show qm_Wp (qm_M d) qk_107 Q 0 [some (vR 0 0), some (vI (nI n)), none, none, none, none] [] σ
  refine qm_go 6 (fun P hP => hP ?_)
  exact c_stop_l (by omega) hs hv hn hm (2 ^ A.1) 0 _ _ _ σ (by omega) Fr.rf h
theorem m_stop_l {d : Nat} (hd : 11 ≤ d) {σ0 : qm_Sg} {Q : qm_Po} {A : AS} {D : DD} {n : Nat} (hn : n < 2 ^ 20) (hm : D.2.2.2 + n < 2 ^ 30) : ∀ (k b : Nat) (s f : Int32) (σ : qm_Sg), b + k = 2 ^ A.1 → ((s = -5 ∧ f = 7) ∨ ∃ c, c < 64 ∧ s = nI c ∧ f = nI (bS c 6)) → Fr tQ σ0 σ → mS σ A → mV σ D → (∀ σ', Fr tQ σ0 σ' → mS σ' A → mV σ' D → Q σ' (some (vI (stopF A D n k b s f)))) → qm_Wp (qm_M d) qk_160 Q 4 [some (vR 50 0), some (vI (nI n)), some (vI s), some (vI (nI b))] [] σ
  | 0, b, s, f, σ, e, hr, f0, hs, hv, h => by
    have hn6 := p6 hs.le
    refine qm_go 6 (fun P hP => And.intro (fun _ => hP ?_) (fun c => absurd (by rw [hs.n, sh6 hs.le]; exact nI_le (by omega) (by omega)) c))
    refine qm_go 2 (fun P hP => h σ f0 hs hv)
  | k + 1, b, s, f, σ, e, hr, f0, hs, hv, h => by
    have hn6 := p6 hs.le
    have hb6 := bS_le b 6
    unfold stopF at h
    rcases hr with ⟨rfl, rfl⟩ | ⟨c, hc, rfl, rfl⟩
    · have lf : nI (bS b 6) < 7 := by rw [i_lt, nI_toInt (by omega)]; show ((bS b 6 : Nat) : Int) < 7; omega
      refine qm_go 6 (fun P hP => And.intro (fun c => absurd c (by rw [hs.n, sh6 hs.le]; exact nI_ge (by omega) (by omega))) (fun _ => hP ?_))
      refine qm_go 5 (fun P hP => And.intro (fun c14 => hP ?_) (fun c14 => hP ?_))
      · refine qm_go 2 (fun P hP => hP ?_)
        rw [nI_1]
        rw [hs.aw] at c14
        first
          | (rw [if_neg (fun z => c14 z.1)] at h; exact m_stop_l hd hn hm k (b + 1) _ _ σ (by omega) (Or.inl ⟨rfl, rfl⟩) f0 hs hv h)
          | (rw [v2.d] at c31
             first
               | (rw [if_neg (fun z => i_nle c31 z.2.2)] at h; exact m_stop_l hd hn hm k (b + 1) _ _ σ2 (by omega) (Or.inl ⟨rfl, rfl⟩) (f0.tr f2) s2 v2 h)
               | (rw [if_pos ⟨c14, lf, i_le_of c31⟩] at h; exact m_stop_l hd hn hm k (b + 1) _ _ σ2 (by omega) (Or.inr ⟨b, by omega, rfl, rfl⟩) (f0.tr f2) s2 v2 h))
      · refine qm_go 2 (fun P hP => And.intro (fun _ => hP ?_) (fun c => absurd (by decide) c))
        refine qm_go 4 (fun P hP => m_dw (by omega) hs hv hn hm (fun σ2 f2 s2 v2 => hP ?_))
        refine qm_go 3 (fun P hP => And.intro (fun c31 => hP ?_) (fun c31 => hP ?_))
        · refine qm_go 4 (fun P hP => hP ?_)
          rw [nI_1]
          rw [hs.aw] at c14
          first
            | (rw [if_neg (fun z => c14 z.1)] at h; exact m_stop_l hd hn hm k (b + 1) _ _ σ (by omega) (Or.inl ⟨rfl, rfl⟩) f0 hs hv h)
            | (rw [v2.d] at c31
               first
                 | (rw [if_neg (fun z => i_nle c31 z.2.2)] at h; exact m_stop_l hd hn hm k (b + 1) _ _ σ2 (by omega) (Or.inl ⟨rfl, rfl⟩) (f0.tr f2) s2 v2 h)
                 | (rw [if_pos ⟨c14, lf, i_le_of c31⟩] at h; exact m_stop_l hd hn hm k (b + 1) _ _ σ2 (by omega) (Or.inr ⟨b, by omega, rfl, rfl⟩) (f0.tr f2) s2 v2 h))
        · refine qm_go 5 (fun P hP => hP ?_)
          rw [nI_1]
          rw [hs.aw] at c14
          first
            | (rw [if_neg (fun z => c14 z.1)] at h; exact m_stop_l hd hn hm k (b + 1) _ _ σ (by omega) (Or.inl ⟨rfl, rfl⟩) f0 hs hv h)
            | (rw [v2.d] at c31
               first
                 | (rw [if_neg (fun z => i_nle c31 z.2.2)] at h; exact m_stop_l hd hn hm k (b + 1) _ _ σ2 (by omega) (Or.inl ⟨rfl, rfl⟩) (f0.tr f2) s2 v2 h)
                 | (rw [if_pos ⟨c14, lf, i_le_of c31⟩] at h; exact m_stop_l hd hn hm k (b + 1) _ _ σ2 (by omega) (Or.inr ⟨b, by omega, rfl, rfl⟩) (f0.tr f2) s2 v2 h))
    · have hc6 := bS_le c 6
      refine qm_go 6 (fun P hP => And.intro (fun c => absurd c (by rw [hs.n, sh6 hs.le]; exact nI_ge (by omega) (by omega))) (fun _ => hP ?_))
      refine qm_go 5 (fun P hP => And.intro (fun c14 => hP ?_) (fun c14 => hP ?_))
      · refine qm_go 2 (fun P hP => hP ?_)
        rw [nI_1]
        rw [hs.aw] at c14
        first
          | (rw [if_neg (fun z => c14 z.1)] at h; exact m_stop_l hd hn hm k (b + 1) _ _ σ (by omega) (Or.inr ⟨c, hc, rfl, rfl⟩) f0 hs hv h)
          | (rw [v2.d] at c31
             first
               | (rw [if_neg (fun z => i_nle c31 z.2.2)] at h; exact m_stop_l hd hn hm k (b + 1) _ _ σ2 (by omega) (Or.inr ⟨c, hc, rfl, rfl⟩) (f0.tr f2) s2 v2 h)
               | (rw [if_pos ⟨c14, c23, i_le_of c31⟩] at h; exact m_stop_l hd hn hm k (b + 1) _ _ σ2 (by omega) (Or.inr ⟨b, by omega, rfl, rfl⟩) (f0.tr f2) s2 v2 h))
          | (rw [if_neg (fun z => c23 z.2.1)] at h; exact m_stop_l hd hn hm k (b + 1) _ _ σ (by omega) (Or.inr ⟨c, hc, rfl, rfl⟩) f0 hs hv h)
      · refine qm_go 2 (fun P hP => And.intro (fun c => absurd c (nI_pos (by omega))) (fun _ => hP ?_))
        refine qm_go 3 (fun P hP => m_bits (by omega) (hP ?_))
        refine qm_go 3 (fun P hP => m_bits (by omega) (hP ?_))
        refine qm_go 1 (fun P hP => And.intro (fun c23 => hP ?_) (fun c23 => hP ?_))
        · refine qm_go 4 (fun P hP => m_dw (by omega) hs hv hn hm (fun σ2 f2 s2 v2 => hP ?_))
          refine qm_go 3 (fun P hP => And.intro (fun c31 => hP ?_) (fun c31 => hP ?_))
          · refine qm_go 4 (fun P hP => hP ?_)
            rw [nI_1]
            rw [hs.aw] at c14
            first
              | (rw [if_neg (fun z => c14 z.1)] at h; exact m_stop_l hd hn hm k (b + 1) _ _ σ (by omega) (Or.inr ⟨c, hc, rfl, rfl⟩) f0 hs hv h)
              | (rw [v2.d] at c31
                 first
                   | (rw [if_neg (fun z => i_nle c31 z.2.2)] at h; exact m_stop_l hd hn hm k (b + 1) _ _ σ2 (by omega) (Or.inr ⟨c, hc, rfl, rfl⟩) (f0.tr f2) s2 v2 h)
                   | (rw [if_pos ⟨c14, c23, i_le_of c31⟩] at h; exact m_stop_l hd hn hm k (b + 1) _ _ σ2 (by omega) (Or.inr ⟨b, by omega, rfl, rfl⟩) (f0.tr f2) s2 v2 h))
              | (rw [if_neg (fun z => c23 z.2.1)] at h; exact m_stop_l hd hn hm k (b + 1) _ _ σ (by omega) (Or.inr ⟨c, hc, rfl, rfl⟩) f0 hs hv h)
          · refine qm_go 5 (fun P hP => hP ?_)
            rw [nI_1]
            rw [hs.aw] at c14
            first
              | (rw [if_neg (fun z => c14 z.1)] at h; exact m_stop_l hd hn hm k (b + 1) _ _ σ (by omega) (Or.inr ⟨c, hc, rfl, rfl⟩) f0 hs hv h)
              | (rw [v2.d] at c31
                 first
                   | (rw [if_neg (fun z => i_nle c31 z.2.2)] at h; exact m_stop_l hd hn hm k (b + 1) _ _ σ2 (by omega) (Or.inr ⟨c, hc, rfl, rfl⟩) (f0.tr f2) s2 v2 h)
                   | (rw [if_pos ⟨c14, c23, i_le_of c31⟩] at h; exact m_stop_l hd hn hm k (b + 1) _ _ σ2 (by omega) (Or.inr ⟨b, by omega, rfl, rfl⟩) (f0.tr f2) s2 v2 h))
              | (rw [if_neg (fun z => c23 z.2.1)] at h; exact m_stop_l hd hn hm k (b + 1) _ _ σ (by omega) (Or.inr ⟨c, hc, rfl, rfl⟩) f0 hs hv h)
        · refine qm_go 3 (fun P hP => hP ?_)
          rw [nI_1]
          rw [hs.aw] at c14
          first
            | (rw [if_neg (fun z => c14 z.1)] at h; exact m_stop_l hd hn hm k (b + 1) _ _ σ (by omega) (Or.inr ⟨c, hc, rfl, rfl⟩) f0 hs hv h)
            | (rw [v2.d] at c31
               first
                 | (rw [if_neg (fun z => i_nle c31 z.2.2)] at h; exact m_stop_l hd hn hm k (b + 1) _ _ σ2 (by omega) (Or.inr ⟨c, hc, rfl, rfl⟩) (f0.tr f2) s2 v2 h)
                 | (rw [if_pos ⟨c14, c23, i_le_of c31⟩] at h; exact m_stop_l hd hn hm k (b + 1) _ _ σ2 (by omega) (Or.inr ⟨b, by omega, rfl, rfl⟩) (f0.tr f2) s2 v2 h))
            | (rw [if_neg (fun z => c23 z.2.1)] at h; exact m_stop_l hd hn hm k (b + 1) _ _ σ (by omega) (Or.inr ⟨c, hc, rfl, rfl⟩) f0 hs hv h)
theorem m_stop {d : Nat} (hd : 12 ≤ d) {σ : qm_Sg} {Q : qm_Po} {A : AS} {D : DD} {n : Nat} (hs : mS σ A) (hv : mV σ D) (hn : n < 2 ^ 20) (hm : D.2.2.2 + n < 2 ^ 30) (h : ∀ σ', Fr tQ σ σ' → mS σ' A → mV σ' D → Q σ' (some (vI (stopF A D n (2 ^ A.1) 0 (-5) 7)))) : qm_M d 160 [vR 50 0, vI (nI n)] σ Q := by
  obtain ⟨d, rfl, hd⟩ := qm_dn hd
  show qm_Wp (qm_M d) qk_160 Q 0 [some (vR 50 0), some (vI (nI n)), none, none] [] σ
  refine qm_go 4 (fun P hP => hP ?_)
  exact m_stop_l (by omega) hn hm (2 ^ A.1) 0 _ _ σ (by omega) (Or.inl ⟨rfl, rfl⟩) Fr.rf hs hv h
