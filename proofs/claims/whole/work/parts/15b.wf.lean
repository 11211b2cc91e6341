def kpD (n : Nat) (D E : DD) : Prop := ∀ j, n ≤ j → E.1 j = D.1 j ∧ E.2.1 j = D.2.1 j
theorem kpD.rf {n : Nat} (D : DD) : kpD n D D := fun _ _ => ⟨rfl, rfl⟩
theorem kpD.tr {n : Nat} {D E F : DD} (h : kpD n D E) (h2 : kpD n E F) : kpD n D F := fun j hj => ⟨(h2 j hj).1.trans (h j hj).1, (h2 j hj).2.trans (h j hj).2⟩
theorem comeD_kp {n p : Nat} {aw x : Int32} {D : DD} : kpD n D (comeD n aw p x D) := by
  unfold comeD
  cases hz : nxtA aw (n - (p + 1)) (p + 1) with
  | none => exact fun j hj => ⟨rfl, rfl⟩
  | some r =>
    have hr := nxtA_lt _ _ _ hz
    exact fun j hj => ⟨upd_ne (by omega), rfl⟩
theorem workD_kp {n p : Nat} {D : DD} (hp : p < n) : kpD n D (workD p D) := fun j hj => ⟨upd_ne (by omega), upd_ne (by omega)⟩
theorem restD_kp {n p : Nat} {aw br : Int32} {D : DD} (hp : p < n) : kpD n D (restD n aw br p D) := by
  unfold restD
  split
  · exact kpD.rf D
  · exact fun j hj => ⟨(upd_ne (by omega)).trans (comeD_kp j hj).1, (comeD_kp j hj).2⟩
theorem wakeD_kp {n p : Nat} {kd vv rw9 : Nat → Int32} {aw : Int32} {S : (Nat → Int32) → Int32} {br : Int32} {D : DD} (hp : p < n) : kpD n D (wakeD n kd vv rw9 aw S br p D) := by
  unfold wakeD
  exact (comeD_kp.tr (workD_kp hp)).tr (restD_kp hp)
theorem dayD_kp {n : Nat} {kd vv rw9 : Nat → Int32} {aw : Int32} {S : (Nat → Int32) → Int32} {br : Int32} : ∀ (k p : Nat) (D : DD), p + k ≤ n → kpD n D (dayD n kd vv rw9 aw S br k p D)
  | 0, _, D, _ => kpD.rf D
  | k + 1, p, D, h => by
    unfold dayD
    split
    · exact dayD_kp k (p + 1) _ (by omega)
    · exact (wakeD_kp (by omega)).tr (dayD_kp k (p + 1) _ (by omega))
theorem goA_kp {A : AS} : ∀ (k : Nat) (D : DD), kpD A.1 D (goA A k D)
  | 0, D => kpD.rf D
  | k + 1, D => by
    have h1 : kpD A.1 D (oneD A.1 A.2.1 A.2.2.1 A.2.2.2.1 A.2.2.2.2.1 A.2.2.2.2.2.1 A.2.2.2.2.2.2 D) := fun j hj => dayD_kp A.1 0 D (by omega) j hj
    exact h1.tr (goA_kp k _)
theorem rolF_len (k p : Nat) (v x : Int32) : (rolF k p v x).2.length ≤ 2 := by
  unfold rolF
  split <;> (simp only [List.length_cons, List.length_nil]; omega)
theorem oyF_len (k p : Nat) (v x : Int32) : (oyF k p v x).2.length ≤ 3 := Nat.succ_le_succ (rolF_len k p v x)
theorem lyF_len (k p : Nat) (v x : Int32) : (lyF k p v x).2.length ≤ 4 := Nat.succ_le_succ (oyF_len k p v x)
theorem yawF_len (k p : Nat) (v x : Int32) : (yawF k p v x).2.length ≤ 5 := by
  unfold yawF
  split
  · exact Nat.le_succ_of_le (lyF_len _ _ _ _)
  · exact Nat.succ_le_succ (lyF_len _ _ _ _)
  · have := oyF_len 6 p v x
    simp only [List.length_cons, List.length_append, List.length_nil]
    omega
  · have := oyF_len k p v x
    omega
theorem otF_len (k p : Nat) (v x : Int32) : (otF k p v x).2.length ≤ 6 := Nat.succ_le_succ (yawF_len k p v x)
theorem telF_len (k p : Nat) (v x : Int32) : (telF k p v x).2.length ≤ 12 := by
  unfold telF
  split
  · have := otF_len 3 p v x
    have := yawF_len 3 p v 1
    simp only [List.length_cons, List.length_append]
    omega
  · have := otF_len 6 p v x
    have := yawF_len 6 p v 1
    simp only [List.length_cons, List.length_append]
    omega
  · have := otF_len 5 p v (x - nI p)
    simp only [List.length_cons]
    omega
  · have := otF_len k p v x
    omega
theorem actR_len (A : AS) (s a x : Int32) : (actR A s a x).2.length < 1000 := by
  unfold actR
  split
  · unfold actV
    split
    · have := rolF_len (tN (A.2.1 (tN s))) (tN s) (A.2.2.1 (tN s)) x
      omega
    · split
      · have := yawF_len (tN (A.2.1 (tN s))) (tN s) (A.2.2.1 (tN s)) x
        omega
      · split
        · have := telF_len (tN (A.2.1 (tN s))) (tN s) (A.2.2.1 (tN s)) x
          omega
        · decide
  · decide
theorem aw_bits : ∀ n, n < 7 → ∀ p, p < n → ∀ a, a < 2 ^ n → (nI a ||| 1 <<< (nI p &&& 31) = nI (a ||| 2 ^ p) ∧ a ||| 2 ^ p < 2 ^ n) ∧ ∃ b, b < 2 ^ n ∧ nI a &&& ((1 <<< (nI p &&& 31)) ^^^ (-1)) = nI b := by decide +kernel
theorem wS.N {Z : SS9} (h : wS Z) {N : DN9} (hN : wDN Z.2.2.1 N) : wS (N, Z.2) := ⟨hN, h.2⟩
theorem w_slp {Z : SS9} {k9 v9 : Int32} (h : wS Z) : wS ((slpA Z.1.1 k9 v9, Z.1.2), Z.2) := by
  refine h.N ?_
  obtain ⟨⟨⟨h1, h2, h3, h4⟩, ⟨h5, h6, a9, h7, h8⟩, h9, h10, h11, h12⟩, -⟩ := h
  unfold slpA
  by_cases e : slpC Z.1.1 k9 v9 = 0
  · rw [if_pos e]
    unfold slpC at e
    have ek : inR k9 7 := by
      by_cases q : inP k9 7
      · exact q
      · rw [if_neg q] at e; cases e
    rw [if_pos (show inP k9 7 from ek)] at e
    have e6 : ¬ Z.1.1.1 = 6 := fun q => by
      by_cases q2 : inP v9 10
      · rw [if_pos q2, if_pos q] at e; cases e
      · rw [if_neg q2] at e; cases e
    have hp : 2 ^ Z.1.1.1 ≤ 2 ^ (Z.1.1.1 + 1) := Nat.pow_le_pow_right (by omega) (by omega)
    exact ⟨⟨show Z.1.1.1 + 1 ≤ 6 by omega, kd_up h2 ek, h3, h4⟩, ⟨fun j a b => h5 j (show Z.1.1.1 ≤ j by have : Z.1.1.1 + 1 ≤ j := a; omega) b, fun j a b => h6 j (show 4 * Z.1.1.1 ≤ j by have : 4 * (Z.1.1.1 + 1) ≤ j := a; omega) b, a9, h7, show a9 < 2 ^ (Z.1.1.1 + 1) by omega⟩, h9, fun q hq => ⟨show q.1 < Z.1.1.1 + 1 by have := (h10 q hq).1; omega, (h10 q hq).2⟩, fun q hq => ⟨(h11 q hq).1, fun z => show q.2 < Z.1.1.1 + 1 by have := (h11 q hq).2 z; omega⟩, fun q hq => show q.1 < Z.1.1.1 + 1 by have := h12 q hq; omega⟩
  · rw [if_neg e]
    exact ⟨⟨h1, h2, h3, h4⟩, ⟨h5, h6, a9, h7, h8⟩, h9, h10, h11, h12⟩
theorem w_owe {Z : SS9} {s9 n9 : Int32} (h : wS Z) : wS ((Z.1.1, oweD Z.1.1 Z.1.2.1 s9 n9, Z.1.2.2), Z.2) := by
  refine h.N ?_
  obtain ⟨⟨⟨h1, h2, h3, h4⟩, ⟨h5, h6, a9, h7, h8⟩, ⟨h9, h13⟩, h10, h11, h12⟩, -⟩ := h
  unfold oweD
  by_cases e : inP s9 Z.1.1.1
  · rw [if_pos e]
    by_cases e2 : inP n9 10000
    · rw [if_pos e2]
      obtain ⟨p, hp, rfl⟩ := e
      rw [tN_nI (by omega)]
      refine ⟨⟨h1, h2, h3, h4⟩, ⟨fun j a b => ⟨?_, (h5 j a b).2⟩, h6, a9, h7, h8⟩, ⟨h9, rg_oD h13 e2⟩, h10, h11, h12⟩
      have a : Z.1.1.1 ≤ j := a
      show upd Z.1.2.1.1 p n9 j = 0
      rw [upd_ne (by omega)]
      exact (h5 j a b).1
    · rw [if_neg e2]
      exact ⟨⟨h1, h2, h3, h4⟩, ⟨h5, h6, a9, h7, h8⟩, ⟨h9, h13⟩, h10, h11, h12⟩
  · rw [if_neg e]
    exact ⟨⟨h1, h2, h3, h4⟩, ⟨h5, h6, a9, h7, h8⟩, ⟨h9, h13⟩, h10, h11, h12⟩
theorem w_away {Z : SS9} {s9 b9 : Int32} (h : wS Z) : wS ((awayA Z.1.1 s9 b9, Z.1.2), Z.2) := by
  refine h.N ?_
  obtain ⟨⟨⟨h1, h2, h3, h4⟩, ⟨h5, h6, a9, h7, h8⟩, h9, h10, h11, h12⟩, -⟩ := h
  unfold awayA
  by_cases e : inP s9 Z.1.1.1
  · rw [if_pos e]
    obtain ⟨p, hp, rfl⟩ := e
    have z := aw_bits Z.1.1.1 (by omega) p hp a9 h8
    refine ⟨⟨h1, h2, h3, h4⟩, ⟨h5, h6, ?_⟩, h9, h10, h11, h12⟩
    show ∃ a, (if b9 = 0 then awO Z.1.1 &&& ((1 <<< (nI p &&& 31)) ^^^ (-1)) else awO Z.1.1 ||| 1 <<< (nI p &&& 31)) = nI a ∧ a < 2 ^ Z.1.1.1
    rw [h7]
    split
    · obtain ⟨b, hb, eb⟩ := z.2
      exact ⟨b, eb, hb⟩
    · exact ⟨_, z.1.1, z.1.2⟩
  · rw [if_neg e]
    exact ⟨⟨h1, h2, h3, h4⟩, ⟨h5, h6, a9, h7, h8⟩, h9, h10, h11, h12⟩
theorem w_dip {Z : SS9} {n9 : Int32} (h : wS Z) : wS ((Z.1.1, dipD Z.1.2.1 n9, Z.1.2.2), Z.2) := by
  refine h.N ?_
  obtain ⟨⟨⟨h1, h2, h3, h4⟩, ⟨h5, h6, a9, h7, h8⟩, ⟨h9, h13⟩, h10, h11, h12⟩, -⟩ := h
  unfold dipD
  split
  · exact ⟨⟨h1, h2, h3, h4⟩, ⟨h5, h6, a9, h7, h8⟩, ⟨h9, h13⟩, h10, h11, h12⟩
  · exact ⟨⟨h1, h2, h3, h4⟩, ⟨h5, h6, a9, h7, h8⟩, ⟨h9, h13⟩, h10, h11, h12⟩
theorem w_row {Z : SS9} {s9 q9 n9 : Int32} (h : wS Z) : wS ((rowA Z.1.1 s9 q9 n9, Z.1.2), Z.2) := by
  refine h.N ?_
  obtain ⟨⟨⟨h1, h2, h3, h4⟩, ⟨h5, h6, a9, h7, h8⟩, h9, h10, h11, h12⟩, -⟩ := h
  unfold rowA
  by_cases e : rowC Z.1.1 s9 q9 n9 = 0
  · rw [if_pos e]
    unfold rowC at e
    have ek : inP s9 Z.1.1.1 ∧ inP q9 4 := by
      by_cases w : inP s9 Z.1.1.1 ∧ inP q9 4
      · exact w
      · rw [if_neg w] at e; cases e
    obtain ⟨⟨p, hp, rfl⟩, q, hq, rfl⟩ := ek
    rw [tN_nI (by omega), tN_nI (by omega)]
    refine ⟨⟨h1, h2, h3, h4⟩, ⟨h5, fun j a b => ?_, a9, h7, h8⟩, h9, h10, h11, h12⟩
    have a : 4 * Z.1.1.1 ≤ j := a
    show upd Z.1.1.2.2.2.1 (p * 4 + q) n9 j = 0
    rw [upd_ne (by omega)]
    exact h6 j a b
  · rw [if_neg e]
    exact ⟨⟨h1, h2, h3, h4⟩, ⟨h5, h6, a9, h7, h8⟩, h9, h10, h11, h12⟩
theorem w_br {Z : SS9} (h : wS Z) : inR Z.1.1.2.2.2.2.2.2 10000 := by
  obtain ⟨⟨⟨h1, h2, h3, h4⟩, -⟩, -, ⟨h5, h6⟩, -⟩ := h
  rw [h3]
  show inR (hB9 Z.2.2.1.2 Z.1.2.2.2.2.2) 10000
  cases e : Z.1.2.2.2.2.2 with
  | none => exact ⟨40, by omega, rfl⟩
  | some s =>
    have hc := h6 s (h4 s e)
    have key : ∀ (c : CT9) (a : Nat), (∀ q ∈ c, q.2.1 < 100) → a < 100 → bearC c a < 100 := by
      intro c
      induction c with
      | nil => intro a _ ha; exact ha
      | cons q l ih =>
        intro a hq ha
        show bearC l _ < 100
        refine ih _ (fun x hx => hq x (List.mem_cons_of_mem _ hx)) ?_
        split
        · exact hq q List.mem_cons_self
        · exact ha
    have := key (Z.2.2.1.2 s) 40 (fun q hq => (hc.2 q hq).2.1) (by omega)
    exact ⟨bearC (Z.2.2.1.2 s) 40, by omega, rfl⟩
theorem w_pass {Z : SS9} {n9 : Int32} (h : wS Z) : wS ((Z.1.1, passD Z.1.1 Z.1.2.1 n9, Z.1.2.2), Z.2) := by
  have hb := w_br h
  refine h.N ?_
  obtain ⟨⟨⟨h1, h2, h3, h4⟩, ⟨h5, h6, a9, h7, h8⟩, ⟨h9, h13⟩, h10, h11, h12⟩, -⟩ := h
  unfold passD
  by_cases e : inP n9 61
  · rw [if_pos e]
    by_cases e2 : nI Z.1.2.1.2.2.2 + n9 ≤ 9999
    · rw [if_pos e2]
      obtain ⟨p, hp, rfl⟩ := e
      rw [tN_nI (by omega)]
      rw [nI_add] at e2
      have e3 : Z.1.2.1.2.2.2 + p ≤ 9999 := (nI_leI (b := 9999) (by omega) (by omega)).mp e2
      refine ⟨⟨h1, h2, h3, h4⟩, ⟨fun j a b => ?_, h6, a9, h7, h8⟩, ⟨?_, goA_rg h1 hb p _ h13⟩, h10, h11, h12⟩
      · have k := goA_kp (A := Z.1.1) p Z.1.2.1 j a
        exact ⟨k.1.trans (h5 j a b).1, k.2.trans (h5 j a b).2⟩
      · show (goA Z.1.1 p Z.1.2.1).2.2.2 ≤ 9999
        rw [goA_m]
        exact e3
    · rw [if_neg e2]
      exact ⟨⟨h1, h2, h3, h4⟩, ⟨h5, h6, a9, h7, h8⟩, ⟨h9, h13⟩, h10, h11, h12⟩
  · rw [if_neg e]
    exact ⟨⟨h1, h2, h3, h4⟩, ⟨h5, h6, a9, h7, h8⟩, ⟨h9, h13⟩, h10, h11, h12⟩
theorem w_see {Z : SS9} {s9 n9 m9 : Int32} (h : wS Z) : wS ((Z.1.1, Z.1.2.1, seeR Z.1.1 Z.1.2.2.1 s9 n9 m9, Z.1.2.2.2), Z.2) := by
  refine h.N ?_
  obtain ⟨⟨⟨h1, h2, h3, h4⟩, h5, h6, h10, h11, h12⟩, -⟩ := h
  refine ⟨⟨h1, h2, h3, h4⟩, h5, h6, ?_, h11, h12⟩
  show wfR Z.1.1.1 (seeR Z.1.1 Z.1.2.2.1 s9 n9 m9)
  unfold seeR
  by_cases e9 : seeC Z.1.1 Z.1.2.2.1 s9 n9 m9 = 9
  · rw [if_pos e9]
    exact fun q hq => absurd hq List.not_mem_nil
  · rw [if_neg e9]
    by_cases e : seeC Z.1.1 Z.1.2.2.1 s9 n9 m9 = 0
    · rw [if_pos e]
      unfold seeC at e
      by_cases w0 : s9 = -1
      · rw [if_pos w0] at e; cases e
      · rw [if_neg w0] at e
        by_cases w1 : inP s9 Z.1.1.1
        · rw [if_pos w1] at e
          by_cases w2 : inP n9 13 ∧ inP m9 100
          · obtain ⟨p, hp, e1⟩ := w1
            obtain ⟨q, hq, e2⟩ := w2.1
            intro x hx
            rcases List.mem_append.mp hx with hx | hx
            · exact h10 x hx
            · rw [List.mem_singleton.mp hx, e1, e2]
              exact ⟨show tN (nI p) < _ by rw [tN_nI (by omega)]; exact hp, show tN (nI q) ≤ 12 by rw [tN_nI (by omega)]; omega⟩
          · rw [if_neg w2] at e; cases e
        · rw [if_neg w1] at e; cases e
    · rw [if_neg e]
      exact h10
theorem w_plan {Z : SS9} {s9 n9 : Int32} (h : wS Z) : wS ((Z.1.1, Z.1.2.1, Z.1.2.2.1, planR Z.1.1 Z.1.2.2.2.1 s9 n9, Z.1.2.2.2.2), Z.2) := by
  refine h.N ?_
  obtain ⟨⟨⟨h1, h2, h3, h4⟩, h5, h6, h10, h11, h12⟩, -⟩ := h
  refine ⟨⟨h1, h2, h3, h4⟩, h5, h6, h10, ?_, h12⟩
  show wfP Z.1.1.1 (planR Z.1.1 Z.1.2.2.2.1 s9 n9)
  unfold planR
  by_cases e9 : planC Z.1.1 Z.1.2.2.2.1 s9 n9 = 9
  · rw [if_pos e9]
    exact fun q hq => absurd hq List.not_mem_nil
  · rw [if_neg e9]
    by_cases e : planC Z.1.1 Z.1.2.2.2.1 s9 n9 = 0
    · rw [if_pos e]
      unfold planC at e
      by_cases w0 : s9 = -1
      · rw [if_pos w0] at e; cases e
      · rw [if_neg w0] at e
        by_cases w1 : inP s9 4 ∧ (s9 = 0 ∨ inP n9 Z.1.1.1)
        · obtain ⟨⟨p, hp, e1⟩, w2⟩ := w1
          intro x hx
          rcases List.mem_append.mp hx with hx | hx
          · exact h11 x hx
          · rw [List.mem_singleton.mp hx, e1]
            refine ⟨show tN (nI p) < 4 by rw [tN_nI (by omega)]; exact hp, fun z => ?_⟩
            have z : tN (nI p) ≠ 0 := z
            rw [tN_nI (by omega)] at z
            have z2 : ¬ nI p = 0 := fun y => z ((nI_eq (b := 0) (by omega) (by omega)).mp y)
            rw [e1] at w2
            obtain ⟨q, hq, e2⟩ := w2.resolve_left z2
            show (if nI p = 0 then 0 else tN n9) < _
            rw [if_neg z2, e2, tN_nI (by omega)]
            exact hq
        · rw [if_neg w1] at e; cases e
    · rw [if_neg e]
      exact h11
theorem w_book {Z : SS9} {s9 n9 : Int32} (h : wS Z) : wS ((Z.1.1, Z.1.2.1, Z.1.2.2.1, Z.1.2.2.2.1, bookR Z.1.1 Z.1.2.2.2.2.1 s9 n9, Z.1.2.2.2.2.2), Z.2) := by
  refine h.N ?_
  obtain ⟨⟨⟨h1, h2, h3, h4⟩, h5, h6, h10, h11, h12⟩, -⟩ := h
  refine ⟨⟨h1, h2, h3, h4⟩, h5, h6, h10, h11, ?_⟩
  show wfB Z.1.1.1 (bookR Z.1.1 Z.1.2.2.2.2.1 s9 n9)
  unfold bookR
  by_cases e9 : bookC Z.1.1 Z.1.2.2.2.2.1 s9 n9 = 9
  · rw [if_pos e9]
    exact fun q hq => absurd hq List.not_mem_nil
  · rw [if_neg e9]
    by_cases e : bookC Z.1.1 Z.1.2.2.2.2.1 s9 n9 = 0
    · rw [if_pos e]
      unfold bookC at e
      by_cases w0 : s9 = -1
      · rw [if_pos w0] at e; cases e
      · rw [if_neg w0] at e
        by_cases w1 : inP s9 Z.1.1.1
        · obtain ⟨p, hp, e1⟩ := w1
          intro x hx
          rcases List.mem_append.mp hx with hx | hx
          · exact h12 x hx
          · rw [List.mem_singleton.mp hx, e1]
            exact show tN (nI p) < _ by rw [tN_nI (by omega)]; exact hp
        · rw [if_neg w1] at e; cases e
    · rw [if_neg e]
      exact h12
theorem w_image {Z : SS9} (h : wS Z) : wS (Z.1, some Z.1, Z.2.2) := ⟨h.1, fun N e => by cases e; exact h.1, h.2.2⟩
def undZ (Z : SS9) : SS9 := match Z.2.1 with
  | none => Z
  | some N => (N, Z.2)
def undV (Z : SS9) : Int32 := match Z.2.1 with
  | none => -3
  | some N => nI N.1.1
theorem w_undo {Z : SS9} (h : wS Z) : wS (undZ Z) := by
  unfold undZ
  cases e : Z.2.1 with
  | none => exact h
  | some N => exact ⟨h.2.1 N e, h.2⟩
theorem w_act {Z : SS9} {l : List Nat} (h : wS Z) (hl : l.length < 1000) : wS (Z.1, Z.2.1, Z.2.2.1, Z.2.2.2.1, l, Z.2.2.2.2.2) := ⟨h.1, h.2.1, h.2.2.1, h.2.2.2.1, hl, h.2.2.2.2.2⟩
theorem w_tap {Z : SS9} {t9 : TP9} (h : wS Z) (ht : wfTap t9) : wS (Z.1, Z.2.1, Z.2.2.1, Z.2.2.2.1, Z.2.2.2.2.1, t9) := ⟨h.1, h.2.1, h.2.2.1, h.2.2.2.1, h.2.2.2.2.1, ht⟩
theorem wf_it {Z : TP9} {t9 i9 : Int32} {z9 : Int64} (h : wfTap Z) : wfTap (itT Z t9 i9 z9) := by
  unfold itT
  split
  · exact h
  · exact h
theorem wf_sh {Z : TP9} {t9 i9 u9 j9 n9 : Int32} (h : wfTap Z) : wfTap (shT Z t9 i9 u9 j9 n9) := by
  unfold shT
  split
  · exact h
  · exact h
theorem wf_tp {Z : TP9} {t9 s9 n9 : Int32} (h : wfTap Z) : wfTap (tpT Z t9 s9 n9) := by
  unfold tpT
  by_cases e : tpC t9 s9 n9 = 0
  · rw [if_pos e]
    intro a ha
    by_cases ea : a = tN t9
    · unfold tpC at e
      by_cases w1 : inP t9 6
      · rw [if_pos w1] at e
        show (if a = tN t9 then (if s9 = -1 then 0 else tN n9) else Z.2.1 a) ≤ 60 ∧ (upd Z.1 (tN t9) s9 a = -1 → (if a = tN t9 then (if s9 = -1 then 0 else tN n9) else Z.2.1 a) = 0) ∧ (upd Z.1 (tN t9) s9 a = -1 ∨ inR (upd Z.1 (tN t9) s9 a) 5)
        rw [if_pos ea, ea, upd_same]
        by_cases w2 : s9 = -1
        · rw [if_pos w2]
          exact ⟨by omega, fun _ => rfl, Or.inl w2⟩
        · rw [if_neg w2] at e ⊢
          by_cases w3 : inP s9 5 ∧ n9 ≤ 60
          · rw [if_pos w3] at e
            have w4 : ¬ n9 < 0 := fun q => by rw [if_pos q] at e; cases e
            obtain ⟨m9, hm, em⟩ := nI_of w4
            have w5 := w3.2
            rw [em] at w5
            have w6 := (nI_leI (b := 60) hm (by omega)).mp w5
            exact ⟨by rw [em, tN_nI hm]; exact w6, fun q => absurd q w2, Or.inr w3.1⟩
          · rw [if_neg w3] at e; cases e
      · rw [if_neg w1] at e; cases e
    · show (if a = tN t9 then (if s9 = -1 then 0 else tN n9) else Z.2.1 a) ≤ 60 ∧ (upd Z.1 (tN t9) s9 a = -1 → (if a = tN t9 then (if s9 = -1 then 0 else tN n9) else Z.2.1 a) = 0) ∧ (upd Z.1 (tN t9) s9 a = -1 ∨ inR (upd Z.1 (tN t9) s9 a) 5)
      rw [if_neg ea, upd_ne ea]
      exact h a ha
  · rw [if_neg e]
    exact h
