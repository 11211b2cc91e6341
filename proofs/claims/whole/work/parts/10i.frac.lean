theorem n0 {b : Nat} (h : 0 < b) (h2 : b < 2 ^ 31) : ¬ nI b = 0 := fun z => absurd ((nI_eq (b := 0) h2 (by decide)).mp z) (by omega)
def frR (a b : Nat) (part : Int32) : Int64 := if part = 0 then (nI a / nI (Nat.gcd a b)).toInt64 else (nI b / nI (Nat.gcd a b)).toInt64
def frL (a b : Nat) (part : Int32) : Int64 := if b = 0 then -9223372036854775808 else frR a b part
theorem gcd_is {a b y : Nat} (hb : 0 < b) (h1 : a % y = 0) (h2 : b % y = 0) (hy : ∀ c, y < c → c ≤ b → ¬ (a % c = 0 ∧ b % c = 0)) : Nat.gcd a b = y := by
  have g1 : y ∣ Nat.gcd a b := Nat.dvd_gcd (Nat.dvd_of_mod_eq_zero h1) (Nat.dvd_of_mod_eq_zero h2)
  have gp : 0 < Nat.gcd a b := Nat.gcd_pos_of_pos_right a hb
  have g2 := Nat.le_of_dvd gp g1
  have g3 := Nat.le_of_dvd hb (Nat.gcd_dvd_right a b)
  by_cases e : y < Nat.gcd a b
  · exact absurd ⟨Nat.mod_eq_zero_of_dvd (Nat.gcd_dvd_left a b), Nat.mod_eq_zero_of_dvd (Nat.gcd_dvd_right a b)⟩ (hy _ e g3)
  · omega
theorem c_frac_e {d : Nat} {σ : qm_Sg} {Q : qm_Po} {a b y : Nat} {part : Int32} (hy : y + 1 < 2 ^ 31) (h : Q σ (some (vL (if part = 0 then (nI a / nI (y + 1)).toInt64 else (nI b / nI (y + 1)).toInt64)))) : qm_Wp (qm_M d) qk_101 Q 20 [some (vI (nI a)), some (vI (nI b)), some (vI part), some (vI (nI (y + 1)))] [] σ := by
  refine qm_go 2 (fun P hP => And.intro (fun c21 => hP ?_) (fun c21 => hP ?_))
  · refine qm_go 3 (fun P hP => And.intro (n0 (by omega) hy) (hP ?_))
    refine qm_go 2 (fun P hP => ?_)
    first
      | (rw [if_neg c21] at h; exact h)
      | (rw [if_pos c21] at h; exact h)
  · refine qm_go 3 (fun P hP => And.intro (n0 (by omega) hy) (hP ?_))
    refine qm_go 3 (fun P hP => ?_)
    first
      | (rw [if_neg c21] at h; exact h)
      | (rw [if_pos c21] at h; exact h)
theorem c_frac_l {d : Nat} {σ : qm_Sg} {Q : qm_Po} {a b : Nat} {part : Int32} (ha : a < 2 ^ 31) (hb : b < 2 ^ 31) (hb0 : 0 < b) (h : Q σ (some (vL (frR a b part)))) : ∀ (y : Nat), y + 1 ≤ b → (∀ c, y + 1 < c → c ≤ b → ¬ (a % c = 0 ∧ b % c = 0)) → qm_Wp (qm_M d) qk_101 Q 7 [some (vI (nI a)), some (vI (nI b)), some (vI part), some (vI (nI (y + 1)))] [] σ
  | 0, hy, hc => by
    refine qm_go 3 (fun P hP => And.intro (fun _ => hP ?_) (fun c => absurd (by decide) c))
    have eg : Nat.gcd a b = 0 + 1 := gcd_is hb0 (Nat.mod_one a) (Nat.mod_one b) hc
    have h : Q σ (some (vL (if part = 0 then (nI a / nI (0 + 1)).toInt64 else (nI b / nI (0 + 1)).toInt64))) := by
      unfold frR at h
      rw [eg] at h
      exact h
    exact c_frac_e (by omega) h
  | y + 1, hy, hc => by
    have r1 : nI a - nI a / nI (y + 2) * nI (y + 2) = nI (a % (y + 2)) := pk_rem ha (by omega) (by omega)
    have r2 : nI b - nI b / nI (y + 2) * nI (y + 2) = nI (b % (y + 2)) := pk_rem hb (by omega) (by omega)
    have l1 : a % (y + 2) < y + 2 := Nat.mod_lt _ (by omega)
    have l2 : b % (y + 2) < y + 2 := Nat.mod_lt _ (by omega)
    refine qm_go 3 (fun P hP => And.intro (fun c => absurd c (by rw [i_le, nI_toInt (by omega)]; show ¬ (((y + 2 : Nat) : Int) ≤ 1); omega)) (fun _ => hP ?_))
    refine qm_go 3 (fun P hP => And.intro (n0 (by omega) (by omega)) (hP ?_))
    refine qm_go 1 (fun P hP => And.intro (fun c13 => hP ?_) (fun c13 => hP ?_))
    · refine qm_go 2 (fun P hP => hP ?_)
      rw [pk_m1]
      refine c_frac_l ha hb hb0 h y (by omega) (fun c h1 h2 => ?_)
      by_cases e : c = y + 2
      · intro z
        rw [e] at z
        first
          | (rw [r1] at c13; exact c13 (by rw [z.1]; rfl))
          | (rw [r2] at c17; exact c17 (by rw [z.2]; rfl))
      · exact hc c (by omega) h2
    · refine qm_go 3 (fun P hP => And.intro (n0 (by omega) (by omega)) (hP ?_))
      refine qm_go 1 (fun P hP => And.intro (fun c17 => hP ?_) (fun c17 => hP ?_))
      · rw [r1] at c13
        rw [r2] at c17
        have z1 := (nI_eq (b := 0) (by omega) (by decide)).mp c13
        have z2 := (nI_eq (b := 0) (by omega) (by decide)).mp c17
        have eg : Nat.gcd a b = y + 1 + 1 := gcd_is hb0 z1 z2 hc
        have h : Q σ (some (vL (if part = 0 then (nI a / nI (y + 1 + 1)).toInt64 else (nI b / nI (y + 1 + 1)).toInt64))) := by
          unfold frR at h
          rw [eg] at h
          exact h
        exact c_frac_e (by omega) h
      · refine qm_go 2 (fun P hP => hP ?_)
        rw [pk_m1]
        refine c_frac_l ha hb hb0 h y (by omega) (fun c h1 h2 => ?_)
        by_cases e : c = y + 2
        · intro z
          rw [e] at z
          first
            | (rw [r1] at c13; exact c13 (by rw [z.1]; rfl))
            | (rw [r2] at c17; exact c17 (by rw [z.2]; rfl))
        · exact hc c (by omega) h2
theorem c_frac {d : Nat} (hd : 1 ≤ d) {σ : qm_Sg} {Q : qm_Po} {a b : Nat} {part : Int32} (ha : a < 2 ^ 31) (hb : b < 2 ^ 31) (h : Q σ (some (vL (frL a b part)))) : qm_M d 101 [vI (nI a), vI (nI b), vI part] σ Q := by
  obtain ⟨d, rfl, hd⟩ := qm_dn hd
  show qm_Wp (qm_M d) qk_101 Q 0 [some (vI (nI a)), some (vI (nI b)), some (vI part), none] [] σ
  by_cases hb0 : b = 0
  · subst hb0
    refine qm_go 3 (fun P hP => And.intro (fun c => absurd c (by decide)) (fun _ => hP ?_))
    refine qm_go 2 (fun P hP => h)
  · obtain ⟨y, rfl⟩ : ∃ y, b = y + 1 := ⟨b - 1, by omega⟩
    unfold frL at h
    rw [if_neg hb0] at h
    refine qm_go 3 (fun P hP => And.intro (fun _ => hP ?_) (fun c => absurd (by rw [i_le, nI_toInt hb]; show ((1 : Int) ≤ ((y + 1 : Nat) : Int)); omega) c))
    refine qm_go 2 (fun P hP => hP ?_)
    exact c_frac_l ha hb (by omega) h y (by omega) (fun c h1 h2 => absurd h1 (by omega))
theorem m_div_l {d : Nat} {σ : qm_Sg} {Q : qm_Po} {x y : Int32} : ∀ (N q p : Nat) (l5 : Option qm_AV), q ≤ N → p < 2 ^ 31 → q < 2 ^ 31 → Q σ (some (vI (nI (Nat.gcd p q)))) → qm_Wp (qm_M d) qk_167 Q 4 [some (vR 50 0), some (vI x), some (vI y), some (vI (nI p)), some (vI (nI q)), l5] [] σ
  | N, 0, p, l5, hN, hp, hq, h => by
    rw [Nat.gcd_zero_right] at h
    refine qm_go 2 (fun P hP => And.intro (fun _ => hP ?_) (fun c => absurd rfl c))
    refine qm_go 2 (fun P hP => h)
  | 0, q + 1, p, l5, hN, hp, hq, h => absurd hN (by omega)
  | N + 1, q + 1, p, l5, hN, hp, hq, h => by
    have r1 : nI p - nI p / nI (q + 1) * nI (q + 1) = nI (p % (q + 1)) := pk_rem hp (by omega) hq
    have l1 : p % (q + 1) < q + 1 := Nat.mod_lt _ (by omega)
    have eg : Nat.gcd p (q + 1) = Nat.gcd (q + 1) (p % (q + 1)) := by rw [Nat.gcd_comm, Nat.gcd_rec, Nat.gcd_comm]
    rw [eg] at h
    refine qm_go 2 (fun P hP => And.intro (fun c => absurd c (n0 (by omega) hq)) (fun _ => hP ?_))
    refine qm_go 3 (fun P hP => And.intro (n0 (by omega) hq) (hP ?_))
    refine qm_go 6 (fun P hP => hP ?_)
    rw [r1]
    exact m_div_l N (p % (q + 1)) (q + 1) _ (by omega) (by omega) (by omega) h
theorem m_div {d : Nat} (hd : 1 ≤ d) {σ : qm_Sg} {Q : qm_Po} {a b : Nat} (ha : a < 2 ^ 31) (hb : b < 2 ^ 31) (h : Q σ (some (vI (nI (Nat.gcd a b))))) : qm_M d 167 [vR 50 0, vI (nI a), vI (nI b)] σ Q := by
  obtain ⟨d, rfl, hd⟩ := qm_dn hd
  show qm_Wp (qm_M d) qk_167 Q 0 [some (vR 50 0), some (vI (nI a)), some (vI (nI b)), none, none, none] [] σ
  refine qm_go 4 (fun P hP => hP ?_)
  exact m_div_l b b a _ (Nat.le_refl _) ha hb h
theorem m_lowest {d : Nat} (hd : 2 ≤ d) {σ : qm_Sg} {Q : qm_Po} {a b : Nat} {part : Int32} (ha : a < 2 ^ 31) (hb : b < 2 ^ 31) (hb0 : 0 < b) (h : Q σ (some (vL (frR a b part)))) : qm_M d 168 [vR 50 0, vI (nI a), vI (nI b), vI part] σ Q := by
  obtain ⟨d, rfl, hd⟩ := qm_dn hd
  show qm_Wp (qm_M d) qk_168 Q 0 [some (vR 50 0), some (vI (nI a)), some (vI (nI b)), some (vI part), none] [] σ
  have gp : 0 < Nat.gcd a b := Nat.gcd_pos_of_pos_right a hb0
  have gl : Nat.gcd a b < 2 ^ 31 := Nat.lt_of_le_of_lt (Nat.le_of_dvd hb0 (Nat.gcd_dvd_right a b)) hb
  unfold frR at h
  refine qm_go 4 (fun P hP => m_div (by omega) ha hb (hP ?_))
  refine qm_go 3 (fun P hP => And.intro (fun c6 => hP ?_) (fun c6 => hP ?_))
  · refine qm_go 3 (fun P hP => And.intro (n0 gp gl) (hP ?_))
    refine qm_go 2 (fun P hP => ?_)
    first
      | (rw [if_neg c6] at h; exact h)
      | (rw [if_pos c6] at h; exact h)
  · refine qm_go 3 (fun P hP => And.intro (n0 gp gl) (hP ?_))
    refine qm_go 3 (fun P hP => ?_)
    first
      | (rw [if_neg c6] at h; exact h)
      | (rw [if_pos c6] at h; exact h)
