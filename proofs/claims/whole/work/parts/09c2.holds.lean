def bn : List Bool → Nat
  | [] => 0
  | b :: s => 2 * bn s + b.toNat
theorem bn_c (b : Bool) (s : List Bool) : bn (b :: s) = 2 * bn s + b.toNat := rfl
theorem bn_lt : ∀ s : List Bool, bn s < 2 ^ s.length
  | [] => by decide
  | b :: s => by
    have h1 := bn_lt s
    have h2 : b.toNat ≤ 1 := Bool.toNat_le b
    rw [bn_c, List.length_cons, Nat.pow_succ]
    omega
theorem bn_le {s : List Bool} (h : s.length ≤ 26) : bn s < 2 ^ 26 := Nat.lt_of_lt_of_le (bn_lt s) (Nat.pow_le_pow_right (by decide) h)
theorem i_bv {a b : Int32} (h : a.toBitVec.toNat = b.toBitVec.toNat) : a = b := Int32.toBitVec_inj.mp (BitVec.eq_of_toNat_eq h)
theorem bx_n (n : Nat) : n = 2 * (n / 2) + n % 2 := by omega
theorem bx_one {b : Bool} {s : List Bool} (h : (b :: s).length ≤ 26) : nI (bn (b :: s)) &&& 1 = nI b.toNat := by
  have := bn_le h
  rw [pk_andN (by omega) (m := 1) 1 rfl]
  congr 1
  rw [bn_c]
  cases b <;> simp <;> omega
theorem bx_not {b : Bool} {s : List Bool} (h : (b :: s).length ≤ 26) : nI (bn (b :: s)) ^^^ 1 = nI (bn ((!b) :: s)) := by
  have h1 := bn_le h
  have h2 := bn_le (s := (!b) :: s) h
  apply i_bv
  rw [Int32.toBitVec_xor, BitVec.toNat_xor, pk_tn (by omega), pk_tn (by omega), show (1 : Int32).toBitVec.toNat = 1 from rfl]
  rw [bx_n (bn (b :: s) ^^^ 1), Nat.xor_div_two]
  have e1 : (bn (b :: s)) / 2 = bn s := by rw [bn_c]; cases b <;> simp <;> omega
  have e2 : (bn (b :: s) ^^^ 1) % 2 = (!b).toNat := by
    have z := @Nat.xor_mod_two_eq_one (bn (b :: s)) 1
    have z2 : bn (b :: s) % 2 = b.toNat := by rw [bn_c]; cases b <;> simp <;> omega
    have z3 : (bn (b :: s) ^^^ 1) % 2 < 2 := Nat.mod_lt _ (by decide)
    cases b
    · exact Nat.xor_mod_two_eq_one.mpr (by rw [z2]; decide)
    · have z4 : ¬ (bn (true :: s) ^^^ 1) % 2 = 1 := fun q => absurd (Nat.xor_mod_two_eq_one.mp q) (by rw [z2]; decide)
      show (bn (true :: s) ^^^ 1) % 2 = 0
      omega
  rw [e1, e2, show (1 : Nat) / 2 = 0 from rfl, Nat.xor_zero]
  rfl
theorem bx_shr {b : Bool} {s : List Bool} (h : (b :: s).length ≤ 26) : nI (bn (b :: s)) >>> (1 &&& 31) = nI (bn s) := by
  have h1 := bn_le h
  rw [pk_shrN (by omega) (1 &&& 31) 1 (by decide)]
  congr 1
  rw [bn_c]
  cases b <;> simp <;> omega
theorem bx_m1 {n : Nat} (h : n < 2 ^ 31) : nI n &&& (-1) = nI n := by
  rw [pk_andN (by omega) (m := -1) 32 (by decide), Nat.mod_eq_of_lt (by omega)]
theorem bx_m2 {a : Bool} {s : List Bool} (h : (a :: s).length ≤ 26) : nI (bn (a :: s)) &&& (-2) = nI (bn (false :: s)) := by
  have h1 := bn_le h
  have h2 := bn_le (s := false :: s) h
  apply i_bv
  rw [Int32.toBitVec_and, BitVec.toNat_and, pk_tn (by omega), pk_tn (by omega), show (-2 : Int32).toBitVec.toNat = 2 * (2 ^ 31 - 1) from by decide]
  rw [bx_n (bn (a :: s) &&& _), Nat.and_div_two]
  have e1 : (bn (a :: s)) / 2 = bn s := by rw [bn_c]; cases a <;> simp <;> omega
  have e2 : (bn (a :: s) &&& 2 * (2 ^ 31 - 1)) % 2 = 0 := by
    have z := @Nat.and_mod_two_eq_one (bn (a :: s)) (2 * (2 ^ 31 - 1))
    have z3 : (bn (a :: s) &&& 2 * (2 ^ 31 - 1)) % 2 < 2 := Nat.mod_lt _ (by decide)
    have z4 : ¬ (2 * (2 ^ 31 - 1)) % 2 = 1 := by decide
    have z5 : ¬ (bn (a :: s) &&& 2 * (2 ^ 31 - 1)) % 2 = 1 := fun q => z4 (z.mp q).2
    omega
  have h3 : bn s < 2 ^ 31 := by rw [List.length_cons] at h; have := bn_le (s := s) (by omega); omega
  rw [e1, e2, Nat.mul_div_cancel_left _ (by decide), Nat.and_two_pow_sub_one_eq_mod, Nat.mod_eq_of_lt h3]
  rfl
theorem bx_or {a b : Bool} {s : List Bool} (h : (a :: s).length ≤ 26) : nI (bn (a :: s)) ||| nI b.toNat = nI (bn ((a || b) :: s)) := by
  have h1 := bn_le h
  have h2 := bn_le (s := (a || b) :: s) h
  have hb : b.toNat ≤ 1 := Bool.toNat_le b
  apply i_bv
  rw [Int32.toBitVec_or, BitVec.toNat_or, pk_tn (by omega), pk_tn (by omega), pk_tn (by omega)]
  rw [bx_n (bn (a :: s) ||| _), Nat.or_div_two]
  have e1 : (bn (a :: s)) / 2 = bn s := by rw [bn_c]; cases a <;> simp <;> omega
  have e2 : (bn (a :: s) ||| b.toNat) % 2 = (a || b).toNat := by
    have z := @Nat.or_mod_two_eq_one (bn (a :: s)) b.toNat
    have z2 : bn (a :: s) % 2 = a.toNat := by rw [bn_c]; cases a <;> simp <;> omega
    have z3 : (bn (a :: s) ||| b.toNat) % 2 < 2 := Nat.mod_lt _ (by decide)
    cases a <;> cases b
    · have z4 : ¬ (bn (false :: s) ||| false.toNat) % 2 = 1 := fun q => absurd (Nat.or_mod_two_eq_one.mp q) (by rw [z2]; decide)
      show (bn (false :: s) ||| false.toNat) % 2 = 0
      omega
    · exact Nat.or_mod_two_eq_one.mpr (by rw [z2]; decide)
    · exact Nat.or_mod_two_eq_one.mpr (by rw [z2]; decide)
    · exact Nat.or_mod_two_eq_one.mpr (by rw [z2]; decide)
  have e3 : b.toNat / 2 = 0 := by omega
  rw [e1, e2, e3, Nat.or_zero]
  rfl
theorem bx_push {s : List Bool} (b : Bool) (h : (b :: s).length ≤ 26) : nI (bn s) <<< (1 &&& 31) ||| nI b.toNat = nI (bn (b :: s)) := by
  have h1 := bn_le h
  have e : nI (bn s) <<< (1 &&& 31) = nI (bn (false :: s)) := by
    rw [pk_shlN (1 &&& 31) 1 (by decide) (by rw [bn_c] at h1; omega)]
    congr 1
    rw [bn_c]
    simp
    omega
  rw [e, bx_or (a := false) (b := b) h]
  simp
theorem bx_push1 {s : List Bool} (h : s.length ≤ 25) : nI (bn s) <<< (1 &&& 31) ||| 1 = nI (bn (true :: s)) := bx_push true (by rw [List.length_cons]; omega)
theorem bx_push0 {s : List Bool} (h : s.length ≤ 25) : nI (bn s) <<< (1 &&& 31) ||| 0 = nI (bn (false :: s)) := bx_push false (by rw [List.length_cons]; omega)
theorem tst_lt {k : Nat} {x : Nat → Int32} (h : x (k / 300) < nI (k % 100)) : tstT k x = decide (k / 100 % 3 = 0) := by
  have hne : ¬ x (k / 300) = nI (k % 100) := fun q => by rw [q] at h; rw [i_lt] at h; omega
  have hgt : ¬ nI (k % 100) < x (k / 300) := fun q => by rw [i_lt] at h q; omega
  unfold tstT
  by_cases h0 : k / 100 % 3 = 0
  · rw [if_pos h0]; simp [h0, h]
  · rw [if_neg h0]
    by_cases h1 : k / 100 % 3 = 1
    · rw [if_pos h1]; simp [h0, hne]
    · rw [if_neg h1]; simp [h0, hgt]
theorem tst_eq {k : Nat} {x : Nat → Int32} (h : x (k / 300) = nI (k % 100)) : tstT k x = decide (k / 100 % 3 = 1) := by
  have hlt : ¬ x (k / 300) < nI (k % 100) := fun q => by rw [h, i_lt] at q; omega
  have hgt : ¬ nI (k % 100) < x (k / 300) := fun q => by rw [h, i_lt] at q; omega
  unfold tstT
  by_cases h0 : k / 100 % 3 = 0
  · rw [if_pos h0]; simp [h0, hlt]
  · rw [if_neg h0]
    by_cases h1 : k / 100 % 3 = 1
    · rw [if_pos h1]; simp [h1, h]
    · rw [if_neg h1]; simp [h1, hgt]
theorem tst_gt {k : Nat} {x : Nat → Int32} (h1 : ¬ x (k / 300) < nI (k % 100)) (h2 : ¬ x (k / 300) = nI (k % 100)) : tstT k x = decide (k / 100 % 3 = 2) := by
  have hgt : nI (k % 100) < x (k / 300) := by
    rw [i_lt] at h1 ⊢
    rw [i_eq] at h2
    omega
  unfold tstT
  by_cases h0 : k / 100 % 3 = 0
  · rw [if_pos h0]; simp [h0, h1]
  · rw [if_neg h0]
    by_cases h3 : k / 100 % 3 = 1
    · rw [if_pos h3]; simp [h3, h2]
    · rw [if_neg h3]
      have : k / 100 % 3 = 2 := by omega
      simp [this, hgt]
theorem k_div {k : Nat} (d : Nat) (h : k < 1800) (h0 : 0 < d) (hd : d < 2 ^ 31) : nI k / nI d = nI (k / d) := pk_div (by omega) h0 hd
set_option maxHeartbeats 2000000 in
theorem c_holds_l {d : Nat} {σ : qm_Sg} {Q : qm_Po} {s e9 : Nat} {x : Nat → Int32} (hs : s < 6) (he : e9 ≤ 100) (hx : ∀ j, j < 6 → σ.1 33 s j = x j) {a9 : qm_AV} : ∀ (ts : List Nat) (st : List Bool) (c : Nat) (l5 l6 l7 l8 l9 : Option qm_AV), c + ts.length = e9 → (∀ k t, ts[k]? = some t → σ.1 32 s (c + k) = cEn t) → wfT ts st.length 1 → st.length ≤ 25 → ((evT x ts st).headD false = true → Q σ (some (vI 1))) → ((evT x ts st).headD false = false → Q σ (some (vI 0))) → qm_Wp (qm_M d) qk_58 Q 4 [some (vR 28 s), some a9, some (vI (nI e9)), some (vI (nI (bn st))), some (vI (nI c)), l5, l6, l7, l8, l9] [] σ
  | [], st, c, l5, l6, l7, l8, l9, hc, hk, hw, hl, h1, h0 => by
    obtain ⟨b, rfl⟩ : ∃ b, st = [b] := by
      have hw : st.length = 1 := hw
      match st, hw with
      | [b], _ => exact ⟨b, rfl⟩
    refine qm_go 3 (fun P hP => And.intro (fun _ => hP ?_) (fun c => absurd (nI_le (by simp only [List.length_nil] at hc; omega) (by omega)) c))
    refine qm_go 5 (fun P hP => And.intro (fun c93 => hP ?_) (fun c93 => hP ?_))
    · refine qm_go 2 (fun P hP => And.intro rfl ?_)
      rw [bx_one (by simp)] at c93
      cases b
      · first | exact h0 rfl | exact absurd c93 (by decide)
      · first | exact h1 rfl | exact absurd rfl c93
    · refine qm_go 3 (fun P hP => And.intro rfl ?_)
      rw [bx_one (by simp)] at c93
      cases b
      · first | exact h0 rfl | exact absurd c93 (by decide)
      · first | exact h1 rfl | exact absurd rfl c93
  | 0 :: ts, st, c, l5, l6, l7, l8, l9, hc, hk, hw, hl, h1, h0 => by
    have ec : σ.1 32 s c = -3 := hk 0 0 rfl
    rw [List.length_cons] at hc
    match st, hw, hl, h1, h0 with
    | [], hw, hl, h1, h0 => exact absurd hw.1 (by decide)
    | b :: st, hw, hl, h1, h0 =>
      refine qm_go 3 (fun P hP => And.intro (fun c => absurd c (nI_ge (by omega) (by omega))) (fun _ => hP ?_))
      refine qm_go 4 (fun P hP => Exists.intro (c) (And.intro (And.intro (rfl) ((show c < 100 by omega))) (hP ?_)))
      rw [ec]
      refine qm_go 8 (fun P hP => And.intro (fun c => absurd rfl c) (fun _ => hP ?_))
      refine qm_go 7 (fun P hP => hP ?_)
      rw [nI_1, bx_not (by omega)]
      exact c_holds_l hs he hx ts ((!b) :: st) (c + 1) _ _ _ _ _ (by omega) (fun k t ht => by rw [show c + 1 + k = c + (k + 1) by omega]; exact hk (k + 1) t ht) hw.2 (by rw [List.length_cons] at hl ⊢; omega) h1 h0
  | 1 :: ts, st, c, l5, l6, l7, l8, l9, hc, hk, hw, hl, h1, h0 => by
    have ec : σ.1 32 s c = -1 := hk 0 1 rfl
    rw [List.length_cons] at hc
    match st, hw, hl, h1, h0 with
    | [], hw, hl, h1, h0 => exact absurd hw.1 (by decide)
    | [_], hw, hl, h1, h0 => exact absurd hw.1 (by simp)
    | b :: a :: st, hw, hl, h1, h0 =>
      have ha : (a :: st).length ≤ 26 := by rw [List.length_cons] at hl; omega
      refine qm_go 3 (fun P hP => And.intro (fun c => absurd c (nI_ge (by omega) (by omega))) (fun _ => hP ?_))
      refine qm_go 4 (fun P hP => Exists.intro (c) (And.intro (And.intro (rfl) ((show c < 100 by omega))) (hP ?_)))
      rw [ec]
      refine qm_go 8 (fun P hP => And.intro (fun _ => hP ?_) (fun c => absurd c (by decide)))
      refine qm_go 3 (fun P hP => And.intro (fun c => absurd rfl c) (fun _ => hP ?_))
      refine qm_go 6 (fun P hP => And.intro (fun c32 => hP ?_) (fun c32 => hP ?_))
      · refine qm_go 6 (fun P hP => hP ?_)
        rw [nI_1, bx_shr (by omega)]
        rw [bx_one (by omega)] at c32
        cases b
        · first
            | exact absurd c32 (by decide)
            | (rw [bx_m2 ha]
               have e9' : (a && false) = false := by cases a <;> rfl
               have h1 : (evT x ts (false :: st)).headD false = true → Q σ (some (vI 1)) := fun q => h1 (by show (evT x ts ((a && false) :: st)).headD false = true; rw [e9']; exact q)
               have h0 : (evT x ts (false :: st)).headD false = false → Q σ (some (vI 0)) := fun q => h0 (by show (evT x ts ((a && false) :: st)).headD false = false; rw [e9']; exact q)
               exact c_holds_l hs he hx ts (false :: st) (c + 1) _ _ _ _ _ (by omega) (fun k t ht => by rw [show c + 1 + k = c + (k + 1) by omega]; exact hk (k + 1) t ht) hw.2 (by rw [List.length_cons] at hl ⊢; rw [List.length_cons] at hl; omega) h1 h0)
        · first
            | exact absurd rfl c32
            | (rw [bx_m1 (by have := bn_le ha; omega)]
               have e9' : (a && true) = a := by cases a <;> rfl
               have h1 : (evT x ts (a :: st)).headD false = true → Q σ (some (vI 1)) := fun q => h1 (by show (evT x ts ((a && true) :: st)).headD false = true; rw [e9']; exact q)
               have h0 : (evT x ts (a :: st)).headD false = false → Q σ (some (vI 0)) := fun q => h0 (by show (evT x ts ((a && true) :: st)).headD false = false; rw [e9']; exact q)
               exact c_holds_l hs he hx ts (a :: st) (c + 1) _ _ _ _ _ (by omega) (fun k t ht => by rw [show c + 1 + k = c + (k + 1) by omega]; exact hk (k + 1) t ht) hw.2 (by rw [List.length_cons] at hl ⊢; rw [List.length_cons] at hl; omega) h1 h0)
      · refine qm_go 7 (fun P hP => hP ?_)
        rw [nI_1, bx_shr (by omega)]
        rw [bx_one (by omega)] at c32
        cases b
        · first
            | exact absurd c32 (by decide)
            | (rw [bx_m2 ha]
               have e9' : (a && false) = false := by cases a <;> rfl
               have h1 : (evT x ts (false :: st)).headD false = true → Q σ (some (vI 1)) := fun q => h1 (by show (evT x ts ((a && false) :: st)).headD false = true; rw [e9']; exact q)
               have h0 : (evT x ts (false :: st)).headD false = false → Q σ (some (vI 0)) := fun q => h0 (by show (evT x ts ((a && false) :: st)).headD false = false; rw [e9']; exact q)
               exact c_holds_l hs he hx ts (false :: st) (c + 1) _ _ _ _ _ (by omega) (fun k t ht => by rw [show c + 1 + k = c + (k + 1) by omega]; exact hk (k + 1) t ht) hw.2 (by rw [List.length_cons] at hl ⊢; rw [List.length_cons] at hl; omega) h1 h0)
        · first
            | exact absurd rfl c32
            | (rw [bx_m1 (by have := bn_le ha; omega)]
               have e9' : (a && true) = a := by cases a <;> rfl
               have h1 : (evT x ts (a :: st)).headD false = true → Q σ (some (vI 1)) := fun q => h1 (by show (evT x ts ((a && true) :: st)).headD false = true; rw [e9']; exact q)
               have h0 : (evT x ts (a :: st)).headD false = false → Q σ (some (vI 0)) := fun q => h0 (by show (evT x ts ((a && true) :: st)).headD false = false; rw [e9']; exact q)
               exact c_holds_l hs he hx ts (a :: st) (c + 1) _ _ _ _ _ (by omega) (fun k t ht => by rw [show c + 1 + k = c + (k + 1) by omega]; exact hk (k + 1) t ht) hw.2 (by rw [List.length_cons] at hl ⊢; rw [List.length_cons] at hl; omega) h1 h0)
  | 2 :: ts, st, c, l5, l6, l7, l8, l9, hc, hk, hw, hl, h1, h0 => by
    have ec : σ.1 32 s c = -2 := hk 0 2 rfl
    rw [List.length_cons] at hc
    match st, hw, hl, h1, h0 with
    | [], hw, hl, h1, h0 => exact absurd hw.1 (by decide)
    | [_], hw, hl, h1, h0 => exact absurd hw.1 (by simp)
    | b :: a :: st, hw, hl, h1, h0 =>
      have ha : (a :: st).length ≤ 26 := by rw [List.length_cons] at hl; omega
      refine qm_go 3 (fun P hP => And.intro (fun c => absurd c (nI_ge (by omega) (by omega))) (fun _ => hP ?_))
      refine qm_go 4 (fun P hP => Exists.intro (c) (And.intro (And.intro (rfl) ((show c < 100 by omega))) (hP ?_)))
      rw [ec]
      refine qm_go 8 (fun P hP => And.intro (fun _ => hP ?_) (fun c => absurd c (by decide)))
      refine qm_go 3 (fun P hP => And.intro (fun _ => hP ?_) (fun c => absurd c (by decide)))
      refine qm_go 3 (fun P hP => And.intro (fun c => absurd rfl c) (fun _ => hP ?_))
      refine qm_go 9 (fun P hP => hP ?_)
      rw [nI_1, bx_shr (by omega), bx_one (by omega), bx_or ha]
      exact c_holds_l hs he hx ts ((a || b) :: st) (c + 1) _ _ _ _ _ (by omega) (fun k t ht => by rw [show c + 1 + k = c + (k + 1) by omega]; exact hk (k + 1) t ht) hw.2 (by rw [List.length_cons] at hl ⊢; rw [List.length_cons] at hl; omega) h1 h0
  | (k + 3) :: ts, st, c, l5, l6, l7, l8, l9, hc, hk, hw, hl, h1, h0 => by
    have ec : σ.1 32 s c = nI k := hk 0 (k + 3) rfl
    rw [List.length_cons] at hc
    obtain ⟨w1, w2, w3⟩ := hw
    have n3 : ∀ z : Int, z < 0 → ∀ y : Int32, y.toInt = z → ¬ nI k = y := fun z hz y hy q => by rw [i_eq, nI_toInt (by omega), hy] at q; omega
    refine qm_go 3 (fun P hP => And.intro (fun c => absurd c (nI_ge (by omega) (by omega))) (fun _ => hP ?_))
    refine qm_go 4 (fun P hP => Exists.intro (c) (And.intro (And.intro (rfl) ((show c < 100 by omega))) (hP ?_)))
    rw [ec]
    refine qm_go 8 (fun P hP => And.intro (fun _ => hP ?_) (fun c => absurd c (n3 (-3) (by decide) _ rfl)))
    refine qm_go 3 (fun P hP => And.intro (fun _ => hP ?_) (fun c => absurd c (n3 (-1) (by decide) _ rfl)))
    refine qm_go 3 (fun P hP => And.intro (fun _ => hP ?_) (fun c => absurd c (n3 (-2) (by decide) _ rfl)))
    refine qm_go 5 (fun P hP => And.intro (by decide) (hP ?_))
    refine qm_go 1 (fun P hP => Exists.intro (k / 300) (And.intro (And.intro (k_div 300 w1 (by decide) (by decide)) ((show k / 300 < 6 by omega))) (hP ?_)))
    refine qm_go 4 (fun P hP => And.intro (by decide) (hP ?_))
    refine qm_go 4 (fun P hP => And.intro (fun c62 => hP ?_) (fun c62 => hP ?_))
    · refine qm_go 3 (fun P hP => And.intro (fun c67 => hP ?_) (fun c67 => hP ?_))
      · refine qm_go 9 (fun P hP => And.intro (by decide) (hP ?_))
        refine qm_go 2 (fun P hP => And.intro (by decide) (hP ?_))
        refine qm_go 1 (fun P hP => And.intro (fun c81 => hP ?_) (fun c81 => hP ?_))
        · refine qm_go 5 (fun P hP => hP ?_)
          have q1 : nI k - nI k / 100 * 100 = nI (k % 100) := pk_rem (d := 100) (by omega) (by decide) (by decide)
          have q2 : nI k / 100 - nI k / 100 / 3 * 3 = nI (k / 100 % 3) := by
            have z1 : nI k / 100 = nI (k / 100) := k_div 100 w1 (by decide) (by decide)
            rw [z1]
            exact pk_rem (d := 3) (by omega) (by decide) (by decide)
          rw [hx _ (by omega), q1] at c62
          rw [q2] at c81
          first
            | (rw [hx _ (by omega), q1] at c67; rw [nI_1]; first
                | (rw [bx_push1 hl]
                   have et : tstT k x = true := by first | (rw [tst_eq c67]; exact decide_eq_true ((nI_eq (a := 1) (by decide) (by omega)).mp c81).symm) | (rw [tst_gt (i_nlt c62) c67]; exact decide_eq_true ((nI_eq (a := 2) (by decide) (by omega)).mp c81).symm)
                   rw [show evT x ((k + 3) :: ts) st = evT x ts (true :: st) by show evT x ts (tstT k x :: st) = _; rw [et]] at h1 h0
                   exact c_holds_l hs he hx ts (true :: st) (c + 1) _ _ _ _ _ (by omega) (fun k t ht => by rw [show c + 1 + k = c + (k + 1) by omega]; exact hk (k + 1) t ht) w3 (by rw [List.length_cons]; omega) h1 h0)
                | (rw [bx_push0 hl]
                   have et : tstT k x = false := by first | (rw [tst_eq c67]; exact decide_eq_false (fun z => c81 (by rw [z]; rfl))) | (rw [tst_gt (i_nlt c62) c67]; exact decide_eq_false (fun z => c81 (by rw [z]; rfl)))
                   rw [show evT x ((k + 3) :: ts) st = evT x ts (false :: st) by show evT x ts (tstT k x :: st) = _; rw [et]] at h1 h0
                   exact c_holds_l hs he hx ts (false :: st) (c + 1) _ _ _ _ _ (by omega) (fun k t ht => by rw [show c + 1 + k = c + (k + 1) by omega]; exact hk (k + 1) t ht) w3 (by rw [List.length_cons]; omega) h1 h0))
            | (rw [nI_1]; first
                | (rw [bx_push1 hl]
                   have et : tstT k x = true := by rw [tst_lt (i_lt_of c62)]; exact decide_eq_true ((nI_eq (a := 0) (by decide) (by omega)).mp c81).symm
                   rw [show evT x ((k + 3) :: ts) st = evT x ts (true :: st) by show evT x ts (tstT k x :: st) = _; rw [et]] at h1 h0
                   exact c_holds_l hs he hx ts (true :: st) (c + 1) _ _ _ _ _ (by omega) (fun k t ht => by rw [show c + 1 + k = c + (k + 1) by omega]; exact hk (k + 1) t ht) w3 (by rw [List.length_cons]; omega) h1 h0)
                | (rw [bx_push0 hl]
                   have et : tstT k x = false := by rw [tst_lt (i_lt_of c62)]; exact decide_eq_false (fun z => c81 (by rw [z]; rfl))
                   rw [show evT x ((k + 3) :: ts) st = evT x ts (false :: st) by show evT x ts (tstT k x :: st) = _; rw [et]] at h1 h0
                   exact c_holds_l hs he hx ts (false :: st) (c + 1) _ _ _ _ _ (by omega) (fun k t ht => by rw [show c + 1 + k = c + (k + 1) by omega]; exact hk (k + 1) t ht) w3 (by rw [List.length_cons]; omega) h1 h0))
        · refine qm_go 6 (fun P hP => hP ?_)
          have q1 : nI k - nI k / 100 * 100 = nI (k % 100) := pk_rem (d := 100) (by omega) (by decide) (by decide)
          have q2 : nI k / 100 - nI k / 100 / 3 * 3 = nI (k / 100 % 3) := by
            have z1 : nI k / 100 = nI (k / 100) := k_div 100 w1 (by decide) (by decide)
            rw [z1]
            exact pk_rem (d := 3) (by omega) (by decide) (by decide)
          rw [hx _ (by omega), q1] at c62
          rw [q2] at c81
          first
            | (rw [hx _ (by omega), q1] at c67; rw [nI_1]; first
                | (rw [bx_push1 hl]
                   have et : tstT k x = true := by first | (rw [tst_eq c67]; exact decide_eq_true ((nI_eq (a := 1) (by decide) (by omega)).mp c81).symm) | (rw [tst_gt (i_nlt c62) c67]; exact decide_eq_true ((nI_eq (a := 2) (by decide) (by omega)).mp c81).symm)
                   rw [show evT x ((k + 3) :: ts) st = evT x ts (true :: st) by show evT x ts (tstT k x :: st) = _; rw [et]] at h1 h0
                   exact c_holds_l hs he hx ts (true :: st) (c + 1) _ _ _ _ _ (by omega) (fun k t ht => by rw [show c + 1 + k = c + (k + 1) by omega]; exact hk (k + 1) t ht) w3 (by rw [List.length_cons]; omega) h1 h0)
                | (rw [bx_push0 hl]
                   have et : tstT k x = false := by first | (rw [tst_eq c67]; exact decide_eq_false (fun z => c81 (by rw [z]; rfl))) | (rw [tst_gt (i_nlt c62) c67]; exact decide_eq_false (fun z => c81 (by rw [z]; rfl)))
                   rw [show evT x ((k + 3) :: ts) st = evT x ts (false :: st) by show evT x ts (tstT k x :: st) = _; rw [et]] at h1 h0
                   exact c_holds_l hs he hx ts (false :: st) (c + 1) _ _ _ _ _ (by omega) (fun k t ht => by rw [show c + 1 + k = c + (k + 1) by omega]; exact hk (k + 1) t ht) w3 (by rw [List.length_cons]; omega) h1 h0))
            | (rw [nI_1]; first
                | (rw [bx_push1 hl]
                   have et : tstT k x = true := by rw [tst_lt (i_lt_of c62)]; exact decide_eq_true ((nI_eq (a := 0) (by decide) (by omega)).mp c81).symm
                   rw [show evT x ((k + 3) :: ts) st = evT x ts (true :: st) by show evT x ts (tstT k x :: st) = _; rw [et]] at h1 h0
                   exact c_holds_l hs he hx ts (true :: st) (c + 1) _ _ _ _ _ (by omega) (fun k t ht => by rw [show c + 1 + k = c + (k + 1) by omega]; exact hk (k + 1) t ht) w3 (by rw [List.length_cons]; omega) h1 h0)
                | (rw [bx_push0 hl]
                   have et : tstT k x = false := by rw [tst_lt (i_lt_of c62)]; exact decide_eq_false (fun z => c81 (by rw [z]; rfl))
                   rw [show evT x ((k + 3) :: ts) st = evT x ts (false :: st) by show evT x ts (tstT k x :: st) = _; rw [et]] at h1 h0
                   exact c_holds_l hs he hx ts (false :: st) (c + 1) _ _ _ _ _ (by omega) (fun k t ht => by rw [show c + 1 + k = c + (k + 1) by omega]; exact hk (k + 1) t ht) w3 (by rw [List.length_cons]; omega) h1 h0))
      · refine qm_go 10 (fun P hP => And.intro (by decide) (hP ?_))
        refine qm_go 2 (fun P hP => And.intro (by decide) (hP ?_))
        refine qm_go 1 (fun P hP => And.intro (fun c81 => hP ?_) (fun c81 => hP ?_))
        · refine qm_go 5 (fun P hP => hP ?_)
          have q1 : nI k - nI k / 100 * 100 = nI (k % 100) := pk_rem (d := 100) (by omega) (by decide) (by decide)
          have q2 : nI k / 100 - nI k / 100 / 3 * 3 = nI (k / 100 % 3) := by
            have z1 : nI k / 100 = nI (k / 100) := k_div 100 w1 (by decide) (by decide)
            rw [z1]
            exact pk_rem (d := 3) (by omega) (by decide) (by decide)
          rw [hx _ (by omega), q1] at c62
          rw [q2] at c81
          first
            | (rw [hx _ (by omega), q1] at c67; rw [nI_1]; first
                | (rw [bx_push1 hl]
                   have et : tstT k x = true := by first | (rw [tst_eq c67]; exact decide_eq_true ((nI_eq (a := 1) (by decide) (by omega)).mp c81).symm) | (rw [tst_gt (i_nlt c62) c67]; exact decide_eq_true ((nI_eq (a := 2) (by decide) (by omega)).mp c81).symm)
                   rw [show evT x ((k + 3) :: ts) st = evT x ts (true :: st) by show evT x ts (tstT k x :: st) = _; rw [et]] at h1 h0
                   exact c_holds_l hs he hx ts (true :: st) (c + 1) _ _ _ _ _ (by omega) (fun k t ht => by rw [show c + 1 + k = c + (k + 1) by omega]; exact hk (k + 1) t ht) w3 (by rw [List.length_cons]; omega) h1 h0)
                | (rw [bx_push0 hl]
                   have et : tstT k x = false := by first | (rw [tst_eq c67]; exact decide_eq_false (fun z => c81 (by rw [z]; rfl))) | (rw [tst_gt (i_nlt c62) c67]; exact decide_eq_false (fun z => c81 (by rw [z]; rfl)))
                   rw [show evT x ((k + 3) :: ts) st = evT x ts (false :: st) by show evT x ts (tstT k x :: st) = _; rw [et]] at h1 h0
                   exact c_holds_l hs he hx ts (false :: st) (c + 1) _ _ _ _ _ (by omega) (fun k t ht => by rw [show c + 1 + k = c + (k + 1) by omega]; exact hk (k + 1) t ht) w3 (by rw [List.length_cons]; omega) h1 h0))
            | (rw [nI_1]; first
                | (rw [bx_push1 hl]
                   have et : tstT k x = true := by rw [tst_lt (i_lt_of c62)]; exact decide_eq_true ((nI_eq (a := 0) (by decide) (by omega)).mp c81).symm
                   rw [show evT x ((k + 3) :: ts) st = evT x ts (true :: st) by show evT x ts (tstT k x :: st) = _; rw [et]] at h1 h0
                   exact c_holds_l hs he hx ts (true :: st) (c + 1) _ _ _ _ _ (by omega) (fun k t ht => by rw [show c + 1 + k = c + (k + 1) by omega]; exact hk (k + 1) t ht) w3 (by rw [List.length_cons]; omega) h1 h0)
                | (rw [bx_push0 hl]
                   have et : tstT k x = false := by rw [tst_lt (i_lt_of c62)]; exact decide_eq_false (fun z => c81 (by rw [z]; rfl))
                   rw [show evT x ((k + 3) :: ts) st = evT x ts (false :: st) by show evT x ts (tstT k x :: st) = _; rw [et]] at h1 h0
                   exact c_holds_l hs he hx ts (false :: st) (c + 1) _ _ _ _ _ (by omega) (fun k t ht => by rw [show c + 1 + k = c + (k + 1) by omega]; exact hk (k + 1) t ht) w3 (by rw [List.length_cons]; omega) h1 h0))
        · refine qm_go 6 (fun P hP => hP ?_)
          have q1 : nI k - nI k / 100 * 100 = nI (k % 100) := pk_rem (d := 100) (by omega) (by decide) (by decide)
          have q2 : nI k / 100 - nI k / 100 / 3 * 3 = nI (k / 100 % 3) := by
            have z1 : nI k / 100 = nI (k / 100) := k_div 100 w1 (by decide) (by decide)
            rw [z1]
            exact pk_rem (d := 3) (by omega) (by decide) (by decide)
          rw [hx _ (by omega), q1] at c62
          rw [q2] at c81
          first
            | (rw [hx _ (by omega), q1] at c67; rw [nI_1]; first
                | (rw [bx_push1 hl]
                   have et : tstT k x = true := by first | (rw [tst_eq c67]; exact decide_eq_true ((nI_eq (a := 1) (by decide) (by omega)).mp c81).symm) | (rw [tst_gt (i_nlt c62) c67]; exact decide_eq_true ((nI_eq (a := 2) (by decide) (by omega)).mp c81).symm)
                   rw [show evT x ((k + 3) :: ts) st = evT x ts (true :: st) by show evT x ts (tstT k x :: st) = _; rw [et]] at h1 h0
                   exact c_holds_l hs he hx ts (true :: st) (c + 1) _ _ _ _ _ (by omega) (fun k t ht => by rw [show c + 1 + k = c + (k + 1) by omega]; exact hk (k + 1) t ht) w3 (by rw [List.length_cons]; omega) h1 h0)
                | (rw [bx_push0 hl]
                   have et : tstT k x = false := by first | (rw [tst_eq c67]; exact decide_eq_false (fun z => c81 (by rw [z]; rfl))) | (rw [tst_gt (i_nlt c62) c67]; exact decide_eq_false (fun z => c81 (by rw [z]; rfl)))
                   rw [show evT x ((k + 3) :: ts) st = evT x ts (false :: st) by show evT x ts (tstT k x :: st) = _; rw [et]] at h1 h0
                   exact c_holds_l hs he hx ts (false :: st) (c + 1) _ _ _ _ _ (by omega) (fun k t ht => by rw [show c + 1 + k = c + (k + 1) by omega]; exact hk (k + 1) t ht) w3 (by rw [List.length_cons]; omega) h1 h0))
            | (rw [nI_1]; first
                | (rw [bx_push1 hl]
                   have et : tstT k x = true := by rw [tst_lt (i_lt_of c62)]; exact decide_eq_true ((nI_eq (a := 0) (by decide) (by omega)).mp c81).symm
                   rw [show evT x ((k + 3) :: ts) st = evT x ts (true :: st) by show evT x ts (tstT k x :: st) = _; rw [et]] at h1 h0
                   exact c_holds_l hs he hx ts (true :: st) (c + 1) _ _ _ _ _ (by omega) (fun k t ht => by rw [show c + 1 + k = c + (k + 1) by omega]; exact hk (k + 1) t ht) w3 (by rw [List.length_cons]; omega) h1 h0)
                | (rw [bx_push0 hl]
                   have et : tstT k x = false := by rw [tst_lt (i_lt_of c62)]; exact decide_eq_false (fun z => c81 (by rw [z]; rfl))
                   rw [show evT x ((k + 3) :: ts) st = evT x ts (false :: st) by show evT x ts (tstT k x :: st) = _; rw [et]] at h1 h0
                   exact c_holds_l hs he hx ts (false :: st) (c + 1) _ _ _ _ _ (by omega) (fun k t ht => by rw [show c + 1 + k = c + (k + 1) by omega]; exact hk (k + 1) t ht) w3 (by rw [List.length_cons]; omega) h1 h0))
    · refine qm_go 10 (fun P hP => And.intro (by decide) (hP ?_))
      refine qm_go 2 (fun P hP => And.intro (by decide) (hP ?_))
      refine qm_go 1 (fun P hP => And.intro (fun c81 => hP ?_) (fun c81 => hP ?_))
      · refine qm_go 5 (fun P hP => hP ?_)
        have q1 : nI k - nI k / 100 * 100 = nI (k % 100) := pk_rem (d := 100) (by omega) (by decide) (by decide)
        have q2 : nI k / 100 - nI k / 100 / 3 * 3 = nI (k / 100 % 3) := by
          have z1 : nI k / 100 = nI (k / 100) := k_div 100 w1 (by decide) (by decide)
          rw [z1]
          exact pk_rem (d := 3) (by omega) (by decide) (by decide)
        rw [hx _ (by omega), q1] at c62
        rw [q2] at c81
        first
          | (rw [hx _ (by omega), q1] at c67; rw [nI_1]; first
              | (rw [bx_push1 hl]
                 have et : tstT k x = true := by first | (rw [tst_eq c67]; exact decide_eq_true ((nI_eq (a := 1) (by decide) (by omega)).mp c81).symm) | (rw [tst_gt (i_nlt c62) c67]; exact decide_eq_true ((nI_eq (a := 2) (by decide) (by omega)).mp c81).symm)
                 rw [show evT x ((k + 3) :: ts) st = evT x ts (true :: st) by show evT x ts (tstT k x :: st) = _; rw [et]] at h1 h0
                 exact c_holds_l hs he hx ts (true :: st) (c + 1) _ _ _ _ _ (by omega) (fun k t ht => by rw [show c + 1 + k = c + (k + 1) by omega]; exact hk (k + 1) t ht) w3 (by rw [List.length_cons]; omega) h1 h0)
              | (rw [bx_push0 hl]
                 have et : tstT k x = false := by first | (rw [tst_eq c67]; exact decide_eq_false (fun z => c81 (by rw [z]; rfl))) | (rw [tst_gt (i_nlt c62) c67]; exact decide_eq_false (fun z => c81 (by rw [z]; rfl)))
                 rw [show evT x ((k + 3) :: ts) st = evT x ts (false :: st) by show evT x ts (tstT k x :: st) = _; rw [et]] at h1 h0
                 exact c_holds_l hs he hx ts (false :: st) (c + 1) _ _ _ _ _ (by omega) (fun k t ht => by rw [show c + 1 + k = c + (k + 1) by omega]; exact hk (k + 1) t ht) w3 (by rw [List.length_cons]; omega) h1 h0))
          | (rw [nI_1]; first
              | (rw [bx_push1 hl]
                 have et : tstT k x = true := by rw [tst_lt (i_lt_of c62)]; exact decide_eq_true ((nI_eq (a := 0) (by decide) (by omega)).mp c81).symm
                 rw [show evT x ((k + 3) :: ts) st = evT x ts (true :: st) by show evT x ts (tstT k x :: st) = _; rw [et]] at h1 h0
                 exact c_holds_l hs he hx ts (true :: st) (c + 1) _ _ _ _ _ (by omega) (fun k t ht => by rw [show c + 1 + k = c + (k + 1) by omega]; exact hk (k + 1) t ht) w3 (by rw [List.length_cons]; omega) h1 h0)
              | (rw [bx_push0 hl]
                 have et : tstT k x = false := by rw [tst_lt (i_lt_of c62)]; exact decide_eq_false (fun z => c81 (by rw [z]; rfl))
                 rw [show evT x ((k + 3) :: ts) st = evT x ts (false :: st) by show evT x ts (tstT k x :: st) = _; rw [et]] at h1 h0
                 exact c_holds_l hs he hx ts (false :: st) (c + 1) _ _ _ _ _ (by omega) (fun k t ht => by rw [show c + 1 + k = c + (k + 1) by omega]; exact hk (k + 1) t ht) w3 (by rw [List.length_cons]; omega) h1 h0))
      · refine qm_go 6 (fun P hP => hP ?_)
        have q1 : nI k - nI k / 100 * 100 = nI (k % 100) := pk_rem (d := 100) (by omega) (by decide) (by decide)
        have q2 : nI k / 100 - nI k / 100 / 3 * 3 = nI (k / 100 % 3) := by
          have z1 : nI k / 100 = nI (k / 100) := k_div 100 w1 (by decide) (by decide)
          rw [z1]
          exact pk_rem (d := 3) (by omega) (by decide) (by decide)
        rw [hx _ (by omega), q1] at c62
        rw [q2] at c81
        first
          | (rw [hx _ (by omega), q1] at c67; rw [nI_1]; first
              | (rw [bx_push1 hl]
                 have et : tstT k x = true := by first | (rw [tst_eq c67]; exact decide_eq_true ((nI_eq (a := 1) (by decide) (by omega)).mp c81).symm) | (rw [tst_gt (i_nlt c62) c67]; exact decide_eq_true ((nI_eq (a := 2) (by decide) (by omega)).mp c81).symm)
                 rw [show evT x ((k + 3) :: ts) st = evT x ts (true :: st) by show evT x ts (tstT k x :: st) = _; rw [et]] at h1 h0
                 exact c_holds_l hs he hx ts (true :: st) (c + 1) _ _ _ _ _ (by omega) (fun k t ht => by rw [show c + 1 + k = c + (k + 1) by omega]; exact hk (k + 1) t ht) w3 (by rw [List.length_cons]; omega) h1 h0)
              | (rw [bx_push0 hl]
                 have et : tstT k x = false := by first | (rw [tst_eq c67]; exact decide_eq_false (fun z => c81 (by rw [z]; rfl))) | (rw [tst_gt (i_nlt c62) c67]; exact decide_eq_false (fun z => c81 (by rw [z]; rfl)))
                 rw [show evT x ((k + 3) :: ts) st = evT x ts (false :: st) by show evT x ts (tstT k x :: st) = _; rw [et]] at h1 h0
                 exact c_holds_l hs he hx ts (false :: st) (c + 1) _ _ _ _ _ (by omega) (fun k t ht => by rw [show c + 1 + k = c + (k + 1) by omega]; exact hk (k + 1) t ht) w3 (by rw [List.length_cons]; omega) h1 h0))
          | (rw [nI_1]; first
              | (rw [bx_push1 hl]
                 have et : tstT k x = true := by rw [tst_lt (i_lt_of c62)]; exact decide_eq_true ((nI_eq (a := 0) (by decide) (by omega)).mp c81).symm
                 rw [show evT x ((k + 3) :: ts) st = evT x ts (true :: st) by show evT x ts (tstT k x :: st) = _; rw [et]] at h1 h0
                 exact c_holds_l hs he hx ts (true :: st) (c + 1) _ _ _ _ _ (by omega) (fun k t ht => by rw [show c + 1 + k = c + (k + 1) by omega]; exact hk (k + 1) t ht) w3 (by rw [List.length_cons]; omega) h1 h0)
              | (rw [bx_push0 hl]
                 have et : tstT k x = false := by rw [tst_lt (i_lt_of c62)]; exact decide_eq_false (fun z => c81 (by rw [z]; rfl))
                 rw [show evT x ((k + 3) :: ts) st = evT x ts (false :: st) by show evT x ts (tstT k x :: st) = _; rw [et]] at h1 h0
                 exact c_holds_l hs he hx ts (false :: st) (c + 1) _ _ _ _ _ (by omega) (fun k t ht => by rw [show c + 1 + k = c + (k + 1) by omega]; exact hk (k + 1) t ht) w3 (by rw [List.length_cons]; omega) h1 h0))
