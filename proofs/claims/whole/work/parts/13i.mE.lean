theorem mP.push {f L : Nat} {tx : Nat → Nat} {σ σ' : qm_Sg} {a base c : Nat} {w out : List Nat} {op op' : Int32} (h : mP f L tx σ a w op base out) (F : Fr (fun t _ j => (t = 50 ∧ (j = 12 ∨ j = 23 ∨ j = 24)) ∨ (t = 63 ∧ j = w.length)) σ σ') (ht : mT L tx σ' (a + 1)) (e23 : σ'.1 50 0 23 = nI (w.length + 1)) (e63 : σ'.1 63 0 w.length = nI c) (hc : c < 128) (e24 : σ'.1 50 0 24 = op') : mP f L tx σ' (a + 1) (c :: w) op' base out := by
  obtain ⟨h1, h2, h3, h4, h5, h6, h7, h8, h9⟩ := h
  exact ⟨ht, by rw [F.1 _ _ _ (by omega)]; exact h2, fun i t q => by rw [F.1 _ _ _ (by omega)]; exact h3 i t q, e23, w_push h5 e63 hc (fun j hj => F.1 _ _ _ (by omega)), e24, by simp only [List.length_cons]; omega, h8, h9⟩
set_option maxHeartbeats 1000000 in
theorem m_E_l {d : Nat} (hd : 4 ≤ d) {Q : qm_Po} {f L : Nat} {tx : Nat → Nat} {base c9 : Nat} {σ0 : qm_Sg} {r : PR9} (hc9 : c9 < 60) (h0 : ∀ σ' b, r = (b, none) → Fr (tE c9 base) σ0 σ' → mT L tx σ' b → Q σ' (some (vI 0))) (h1 : ∀ σ' b ts op, r = (b, some ts) → Fr (tE c9 base) σ0 σ' → mP f L tx σ' b [] op base ts → σ'.1 61 0 c9 = nI (base + ts.length) → Q σ' (some (vI 1))) : ∀ (k : Nat) (wt : Bool) (a : Nat) (w : List Nat) (op : Int32) (out : List Nat) (σ : qm_Sg) (l3 : Option qm_AV), pzR (pzS tx L) k wt a w op out = some r → mP f L tx σ a w op base out → Fr (tE c9 base) σ0 σ → qm_Wp (qm_M d) qk_133 Q 14 [some (vR 50 0), some (vI (nI c9)), some (vI (nI wt.toNat)), l3] [] σ := by
  intro k
  induction k with
  | zero => intro wt a w op out σ l3 hr; cases hr
  | succ k ih =>
    intro wt a w op out σ l3 hr hp F
    obtain ⟨h21, h22, h23, h24, h25, h26, h27, h28, h29⟩ := id hp
    have hl := h21.2.2.2
    have hok := h21.ok a
    refine qm_go 2 (fun P hP => m_next (by omega) h21 (hP ?_))
    cases wt with
    | true =>
      refine qm_go 3 (fun P hP => And.intro (fun c => absurd c (by decide)) (fun _ => hP ?_))
      unfold pzR at hr
      by_cases e : pzS tx L a = 33 ∨ pzS tx L a = 40
      · rw [if_pos e] at hr
        have ha : a < L := by rcases e with e | e <;> exact pzS_lt e (by omega)
        have key : qm_Wp (qm_M d) qk_133 Q 25 [some (vR 50 0), some (vI (nI c9)), some (vI (nI true.toNat)), some (vI (mg (pzS tx L a)))] [] σ := by
          by_cases e4 : op = 4
          · rw [if_pos e4] at hr
            refine qm_go 4 (fun P hP => And.intro (fun z => absurd (by rw [h26, e4]) z) (fun _ => hP ?_))
            cases hr
            exact qm_go 2 (fun P hP => And.intro rfl (h0 σ a rfl F h21))
          · rw [if_neg e4] at hr
            refine qm_go 4 (fun P hP => And.intro (fun _ => hP ?_) (fun z => absurd (by rw [← h26]; exact z) e4))
            refine qm_go 6 (fun P hP => hP ?_)
            refine qm_go 6 (fun P hP => Exists.intro (w.length) (And.intro (And.intro (h24) (show w.length < 101 by omega)) (hP ?_)))
            refine qm_go 6 (fun P hP => hP ?_)
            generalize hσ : wF _ 50 0 (upd _ 23 _) = σ2
            have F2 : Fr (fun t _ j => (t = 50 ∧ (j = 23 ∨ j = 24)) ∨ (t = 63 ∧ j = w.length)) σ σ2 := by
              rw [← hσ]
              exact Fr.p1 (Fr.p1 (Fr.w1 (by omega)) (by omega)) (by omega)
            have e23 : σ2.1 50 0 23 = nI (w.length + 1) := by rw [← hσ, wv_same, wF_ne _ _ (by omega), wv_ne (by omega), h24, nI_1]
            have e24 : σ2.1 50 0 24 = op + 1 := by rw [← hσ, wv_ne (by omega), wF_ne _ _ (by omega), wv_same, h26]
            have e63 : σ2.1 63 0 w.length = nI (pzS tx L a) := by rw [← hσ, wF_ne _ _ (by omega), wv_same, mg_in (by omega)]
            have ht2 : mT L tx σ2 a := h21.fr F2 (fun t i j q => by omega)
            refine qm_go 6 (fun P hP => hP ?_)
            generalize hσ3 : wF _ 50 0 (upd _ 12 _) = σ3
            have F3 : Fr (fun t _ j => t = 50 ∧ j = 12) σ2 σ3 := by rw [← hσ3]; exact Fr.w1 ⟨rfl, rfl⟩
            have ht3 : mT L tx σ3 (a + 1) := by rw [← hσ3]; exact ht2.at1 ha
            have FF : Fr (fun t _ j => (t = 50 ∧ (j = 12 ∨ j = 23 ∨ j = 24)) ∨ (t = 63 ∧ j = w.length)) σ σ3 := (F2.mono (fun t i j q => by omega)).tr (F3.mono (fun t i j q => by omega))
            have hp3 := hp.push (op' := op + 1) (c := pzS tx L a) FF ht3 (by rw [F3.1 _ _ _ (by omega)]; exact e23) (by rw [F3.1 _ _ _ (by omega)]; exact e63) (by omega) (by rw [F3.1 _ _ _ (by omega)]; exact e24)
            refine qm_go 1 (fun P hP => hP ?_)
            exact ih true (a + 1) (pzS tx L a :: w) (op + 1) out σ3 _ hr hp3 (F.tr (FF.mono (fun t i j q => by unfold tE; omega)))
        by_cases e33 : pzS tx L a = 33
        · exact qm_go 3 (fun P hP => And.intro (fun _ => hP key) (fun z => absurd ((mg_eq hok (by omega)).mpr e33) z))
        · refine qm_go 3 (fun P hP => And.intro (fun z => absurd ((mg_eq (k := 33) hok (by omega)).mp z) e33) (fun _ => hP ?_))
          exact qm_go 3 (fun P hP => And.intro (fun z => absurd ((mg_eq (k := 40) hok (by omega)).mpr (by omega)) z) (fun _ => hP key))
      · rw [if_neg e] at hr
        refine qm_go 3 (fun P hP => And.intro (fun z => absurd ((mg_eq (k := 33) hok (by omega)).mp z) (fun z => e (Or.inl z))) (fun _ => hP ?_))
        refine qm_go 3 (fun P hP => And.intro (fun _ => hP ?_) (fun z => absurd ((mg_eq (k := 40) hok (by omega)).mp z) (fun z => e (Or.inr z))))
        refine qm_go 2 (fun P hP => m_test (c9 := c9) (by omega) hp (fun σ2 b ht F2 hb => hP ?_) (fun σ2 b t ht F2 hp2 => hP ?_))
        · refine qm_go 1 (fun P hP => And.intro (fun _ => hP ?_) (fun z => absurd rfl z))
          rw [ht] at hr
          cases hr
          exact qm_go 2 (fun P hP => And.intro rfl (h0 σ2 b rfl (F.tr F2) hb))
        · refine qm_go 1 (fun P hP => And.intro (fun z => absurd z (by decide)) (fun _ => hP ?_))
          rw [ht] at hr
          refine qm_go 3 (fun P hP => hP ?_)
          exact ih false b _ _ _ σ2 _ hr hp2 (F.tr F2)
    | false =>
      refine qm_go 3 (fun P hP => And.intro (fun _ => hP ?_) (fun z => absurd rfl z))
      unfold pzR at hr
      by_cases e : pzS tx L a = 38 ∨ pzS tx L a = 124
      · rw [if_pos e] at hr
        have ha : a < L := by rcases e with e | e <;> exact pzS_lt e (by omega)
        have key : qm_Wp (qm_M d) qk_133 Q 70 [some (vR 50 0), some (vI (nI c9)), some (vI (nI false.toNat)), some (vI (nI (pzS tx L a)))] [] σ := by
          refine qm_go 3 (fun P hP => m_settle (c9 := c9) (s := pzS tx L a) (by omega) hp (by omega) (fun σ1 F1 hp1 => hP ?_))
          generalize pzE (pzS tx L a) w out = q9 at hr hp1
          obtain ⟨w, out⟩ := q9
          dsimp only at hr hp1
          obtain ⟨j21, j22, j23, j24, j25, j26, j27, j28, j29⟩ := id hp1
          refine qm_go 6 (fun P hP => Exists.intro (w.length) (And.intro (And.intro (j24) (show w.length < 101 by omega)) (hP ?_)))
          refine qm_go 6 (fun P hP => hP ?_)
          generalize hσ : wF _ 50 0 (upd _ 23 _) = σ2
          have F2 : Fr (fun t _ j => (t = 50 ∧ j = 23) ∨ (t = 63 ∧ j = w.length)) σ1 σ2 := by
            rw [← hσ]
            exact Fr.p1 (Fr.w1 (by omega)) (by omega)
          have e23 : σ2.1 50 0 23 = nI (w.length + 1) := by rw [← hσ, wv_same, wF_ne _ _ (by omega), j24, nI_1]
          have e24 : σ2.1 50 0 24 = op := by rw [F2.1 _ _ _ (by omega)]; exact j26
          have e63 : σ2.1 63 0 w.length = nI (pzS tx L a) := by rw [← hσ, wF_ne _ _ (by omega), wv_same]
          have ht2 : mT L tx σ2 a := j21.fr F2 (fun t i j q => by omega)
          refine qm_go 8 (fun P hP => hP ?_)
          generalize hσ3 : wF _ 50 0 (upd _ 12 _) = σ3
          have F3 : Fr (fun t _ j => t = 50 ∧ j = 12) σ2 σ3 := by rw [← hσ3]; exact Fr.w1 ⟨rfl, rfl⟩
          have ht3 : mT L tx σ3 (a + 1) := by rw [← hσ3]; exact ht2.at1 ha
          have FF : Fr (fun t _ j => (t = 50 ∧ (j = 12 ∨ j = 23 ∨ j = 24)) ∨ (t = 63 ∧ j = w.length)) σ1 σ3 := (F2.mono (fun t i j q => by omega)).tr (F3.mono (fun t i j q => by omega))
          have hp3 := hp1.push (op' := op) (c := pzS tx L a) FF ht3 (by rw [F3.1 _ _ _ (by omega)]; exact e23) (by rw [F3.1 _ _ _ (by omega)]; exact e63) (by omega) (by rw [F3.1 _ _ _ (by omega)]; exact e24)
          refine qm_go 1 (fun P hP => hP ?_)
          exact ih true (a + 1) (pzS tx L a :: w) op out σ3 _ hr hp3 ((F.tr F1).tr (FF.mono (fun t i j q => by unfold tE; omega)))
        rw [mg_in (by omega)]
        by_cases e33 : pzS tx L a = 38
        · exact qm_go 3 (fun P hP => And.intro (fun _ => hP key) (fun z => absurd (by rw [e33]; rfl) z))
        · refine qm_go 3 (fun P hP => And.intro (fun z => absurd ((nI_eq (b := 38) (by omega) (by omega)).mp z) e33) (fun _ => hP ?_))
          exact qm_go 3 (fun P hP => And.intro (fun z => absurd (by rw [show pzS tx L a = 124 by omega]; rfl) z) (fun _ => hP key))
      · rw [if_neg e] at hr
        refine qm_go 3 (fun P hP => And.intro (fun z => absurd ((mg_eq (k := 38) hok (by omega)).mp z) (fun z => e (Or.inl z))) (fun _ => hP ?_))
        refine qm_go 3 (fun P hP => And.intro (fun _ => hP ?_) (fun z => absurd ((mg_eq (k := 124) hok (by omega)).mp z) (fun z => e (Or.inr z))))
        refine qm_go 3 (fun P hP => m_settle (c9 := c9) (s := 124) (by omega) hp (by omega) (fun σ1 F1 hp1 => hP ?_))
        generalize pzE 124 w out = q9 at hr hp1
        obtain ⟨w, out⟩ := q9
        dsimp only at hr hp1
        obtain ⟨j21, j22, j23, j24, j25, j26, j27, j28, j29⟩ := id hp1
        refine qm_go 6 (fun P hP => Exists.intro (c9) (And.intro (And.intro (rfl) (hc9)) (hP ?_)))
        generalize hσ : wF _ 61 0 (upd _ c9 _) = σ2
        have F2 : Fr (fun t _ j => t = 61 ∧ j = c9) σ1 σ2 := by rw [← hσ]; exact Fr.w1 ⟨rfl, rfl⟩
        have e61 : σ2.1 61 0 c9 = nI (base + out.length) := by rw [← hσ, wv_same, j22]
        have hp2 : mP f L tx σ2 a w op base out := ⟨j21.fr F2 (fun t i j q => by omega), by rw [F2.1 _ _ _ (by omega)]; exact j22, fun i t q => by rw [F2.1 _ _ _ (by omega)]; exact j23 i t q, by rw [F2.1 _ _ _ (by omega)]; exact j24, fun i t q => by rw [F2.1 _ _ _ (by omega)]; exact j25 i t q, by rw [F2.1 _ _ _ (by omega)]; exact j26, j27, j28, j29⟩
        have F12 : Fr (tE c9 base) σ0 σ2 := (F.tr F1).tr (F2.mono (fun t i j q => by unfold tE; omega))
        cases w with
        | nil =>
          refine qm_go 3 (fun P hP => And.intro (fun z => absurd hp2.2.2.2.1 z) (fun _ => hP ?_))
          cases hr
          exact qm_go 2 (fun P hP => And.intro rfl (h1 σ2 a out op rfl F12 hp2 e61))
        | cons c w =>
          have q23 : σ2.1 50 0 23 = nI (w.length + 1) := hp2.2.2.2.1
          refine qm_go 3 (fun P hP => And.intro (fun _ => hP ?_) (fun z => absurd (by rw [← q23]; exact z) (nI_ne0 (n := w.length + 1) (by omega) (by simp only [List.length_cons] at j27; omega))))
          have hr : (if pzS tx L a = 41 then pzR (pzS tx L) k false (a + 1) (pzW w (op - 1) out).1 (pzW w (op - 1) out).2.1 (pzW w (op - 1) out).2.2 else some (a, none)) = some r := hr
          by_cases e41 : pzS tx L a = 41
          · rw [if_pos e41] at hr
            have ha : a < L := pzS_lt e41 (by omega)
            refine qm_go 3 (fun P hP => And.intro (fun _ => hP ?_) (fun z => absurd ((mg_eq (k := 41) hok (by omega)).mpr e41) z))
            refine qm_go 12 (fun P hP => hP ?_)
            generalize hσ3 : wF _ 50 0 (upd _ 24 _) = σ3
            have F3 : Fr (fun t _ j => t = 50 ∧ (j = 23 ∨ j = 24)) σ2 σ3 := by
              rw [← hσ3]
              exact Fr.p1 (Fr.w1 (by omega)) (by omega)
            obtain ⟨i21, i22, i23, i24, i25, i26, i27, i28, i29⟩ := hp2
            have n23 : σ3.1 50 0 23 = nI w.length := by rw [← hσ3, wv_ne (by omega), wv_same, q23, nI_pred]
            have n24 : σ3.1 50 0 24 = op - 1 := by rw [← hσ3, wv_same, wv_ne (by omega), i26]
            have ht3 : mT L tx σ3 a := i21.fr F3 (fun t i j q => by omega)
            refine qm_go 6 (fun P hP => hP ?_)
            generalize hσ4 : wF _ 50 0 (upd _ 12 _) = σ4
            have F4 : Fr (fun t _ j => t = 50 ∧ j = 12) σ3 σ4 := by rw [← hσ4]; exact Fr.w1 ⟨rfl, rfl⟩
            have ht4 : mT L tx σ4 (a + 1) := by rw [← hσ4]; exact ht3.at1 ha
            have hp4 : mP f L tx σ4 (a + 1) w (op - 1) base out := ⟨ht4, by rw [F4.1 _ _ _ (by omega), F3.1 _ _ _ (by omega)]; exact i22, fun i t q => by rw [F4.1 _ _ _ (by omega), F3.1 _ _ _ (by omega)]; exact i23 i t q, by rw [F4.1 _ _ _ (by omega)]; exact n23, fun i t q => by rw [F4.1 _ _ _ (by omega), F3.1 _ _ _ (by omega)]; exact (w_hd i25).2 i t q, by rw [F4.1 _ _ _ (by omega)]; exact n24, by simp only [List.length_cons] at i27; omega, i28, i29⟩
            refine qm_go 2 (fun P hP => m_whole (c9 := c9) (by omega) hp4 (fun σ5 F5 hp5 => hP ?_))
            refine qm_go 1 (fun P hP => hP ?_)
            exact ih false (a + 1) _ _ _ σ5 _ hr hp5 (((F12.tr (F3.mono (fun t i j q => by unfold tE; omega))).tr (F4.mono (fun t i j q => by unfold tE; omega))).tr F5)
          · rw [if_neg e41] at hr
            cases hr
            refine qm_go 3 (fun P hP => And.intro (fun z => absurd ((mg_eq (k := 41) hok (by omega)).mp z) e41) (fun _ => hP ?_))
            exact qm_go 2 (fun P hP => And.intro rfl (h0 σ2 a rfl F12 hp2.1))
def tE0 (c b t _ j : Nat) : Prop := (t = 50 ∧ (j = 12 ∨ j = 13 ∨ j = 22 ∨ j = 23 ∨ j = 24)) ∨ t = 63 ∨ (t = 62 ∧ b ≤ j) ∨ ((t = 60 ∨ t = 61) ∧ j = c)
theorem Fr.e0 {c9 base : Nat} {σ σ' : qm_Sg} (h : Fr (tE c9 base) σ σ') : Fr (tE0 c9 base) σ σ' := h.mono (fun t i j q => by unfold tE at q; unfold tE0; omega)
theorem m_E {d : Nat} (hd : 5 ≤ d) {σ : qm_Sg} {Q : qm_Po} {f L : Nat} {tx : Nat → Nat} {a base c9 : Nat} {r : PR9} (ht : mT L tx σ a) (h22 : σ.1 50 0 22 = nI base) (hb : 100 * f ≤ base) (hb2 : base ≤ 100 * f + a) (hf : f < 6) (hc9 : c9 < 60) (hr : pzG (pzS tx L) true a [] (nI 0) [] r) (h0 : ∀ σ' b, r = (b, none) → Fr (tE0 c9 base) σ σ' → mT L tx σ' b → Q σ' (some (vI 0))) (h1 : ∀ σ' b ts, r = (b, some ts) → Fr (tE0 c9 base) σ σ' → mT L tx σ' b → σ'.1 50 0 22 = nI (base + ts.length) → base + ts.length ≤ 100 * f + b → (∀ i t, ts[i]? = some t → σ'.1 62 0 (base + i) = mEn t) → σ'.1 60 0 c9 = nI base → σ'.1 61 0 c9 = nI (base + ts.length) → (∀ j, j < base → σ'.1 62 0 j = σ.1 62 0 j) → Q σ' (some (vI 1))) : qm_M d 133 [vR 50 0, vI (nI c9)] σ Q := by
  obtain ⟨d, rfl, hd⟩ := qm_dn hd
  show qm_Wp (qm_M d) qk_133 Q 0 [some (vR 50 0), some (vI (nI c9)), none, none] [] σ
  obtain ⟨k, hr⟩ := hr
  refine qm_go 6 (fun P hP => hP ?_)
  generalize hσ : wF _ 50 0 (upd _ 24 _) = σ1
  have F1 : Fr (fun t _ j => t = 50 ∧ (j = 23 ∨ j = 24)) σ σ1 := by
    rw [← hσ]
    exact Fr.p1 (Fr.w1 (by omega)) (by omega)
  have k22 : σ1.1 50 0 22 = nI base := by rw [F1.1 _ _ _ (by omega)]; exact h22
  have k23 : σ1.1 50 0 23 = 0 := by rw [← hσ, wv_ne (by omega), wv_same]
  have k24 : σ1.1 50 0 24 = 0 := by rw [← hσ, wv_same]
  refine qm_go 6 (fun P hP => Exists.intro (c9) (And.intro (And.intro (rfl) (hc9)) (hP ?_)))
  generalize hσ2 : wF _ 60 0 (upd _ c9 _) = σ2
  have F2 : Fr (fun t _ j => t = 60 ∧ j = c9) σ1 σ2 := by rw [← hσ2]; exact Fr.w1 ⟨rfl, rfl⟩
  have k60 : σ2.1 60 0 c9 = nI base := by rw [← hσ2, wv_same, k22]
  refine qm_go 2 (fun P hP => hP ?_)
  have F12 : Fr (tE0 c9 base) σ σ2 := (F1.mono (fun t i j q => by unfold tE0; omega)).tr (F2.mono (fun t i j q => by unfold tE0; omega))
  have hp2 : mP f L tx σ2 a [] (nI 0) base [] := ⟨(ht.fr F1 (fun t i j q => by omega)).fr F2 (fun t i j q => by omega), by rw [F2.1 _ _ _ (by omega)]; exact k22, (fun i t q => by cases q), by rw [F2.1 _ _ _ (by omega)]; exact k23, (fun i t q => by cases q), by rw [F2.1 _ _ _ (by omega)]; exact k24, hb2, hf, hb⟩
  refine m_E_l (σ0 := σ2) (by omega) hc9 (fun σ3 b z F3 z2 => h0 σ3 b z (F12.tr (Fr.e0 F3)) z2) (fun σ3 b ts op z F3 z2 z3 => ?_) k true a [] (nI 0) [] σ2 none hr hp2 Fr.rf
  obtain ⟨i21, i22, i23, i24, i25, i26, i27, i28, i29⟩ := z2
  refine h1 σ3 b ts z (F12.tr (Fr.e0 F3)) i21 i22 (by simpa using i27) i23 (by rw [F3.1 _ _ _ (by unfold tE; omega)]; exact k60) z3 (fun j hj => ?_)
  rw [F3.1 _ _ _ (by unfold tE; omega), F2.1 _ _ _ (by omega), F1.1 _ _ _ (by omega)]
