abbrev DN9 : Type := AS × DD × R9 × P9 × B9 × Option Nat
abbrev SS9 : Type := DN9 × Option DN9 × (Nat × (Nat → CT9)) × (Nat × (Nat → Nat)) × List Nat × TP9
def hI (o : Option Nat) : Int32 := match o with
  | none => -1
  | some s => nI s
def hS9 (CL : Nat → CT9) (o : Option Nat) : (Nat → Int32) → Int32 := match o with
  | none => fun _ => 9
  | some s => fun x => sumC x (CL s) 9
def hB9 (CL : Nat → CT9) (o : Option Nat) : Int32 := match o with
  | none => 40
  | some s => nI (bearC (CL s) 40)
def cDN (X : Nat) (σ : qm_Sg) (N : DN9) : Prop := cS X σ N.1 ∧ cV X σ N.2.1 ∧ cSl X σ N.2.2.1 N.2.2.2.1 N.2.2.2.2.1 ∧ σ.1 10 X 11 = hI N.2.2.2.2.2
def mDN (σ : qm_Sg) (N : DN9) : Prop := mS σ N.1 ∧ mV σ N.2.1 ∧ mSeen σ N.2.2.1 ∧ mPlan σ N.2.2.2.1 ∧ mBook σ N.2.2.2.2.1 ∧ σ.1 50 0 10 = hI N.2.2.2.2.2
def mIM (σ : qm_Sg) (N : DN9) : Prop := (σ.1 50 0 43 = hI N.2.2.2.2.2 ∧ σ.1 50 0 44 = nI N.1.1 ∧ σ.1 50 0 45 = awO N.1 ∧ σ.1 50 0 46 = N.2.1.2.2.1 ∧ σ.1 50 0 47 = nI N.2.1.2.2.2) ∧ (Q6 (σ.1 75 0) N.1.2.1 ∧ Q6 (σ.1 76 0) N.1.2.2.1 ∧ Q6 (σ.1 77 0) N.2.1.1 ∧ Q6 (σ.1 78 0) N.2.1.2.1 ∧ Q24 (σ.1 79 0) N.1.2.2.2.1) ∧ (σ.1 50 0 48 = nI N.2.2.1.length ∧ N.2.2.1.length ≤ 5 ∧ ∀ (i : Nat) (q : Nat × Nat × Int32), N.2.2.1[i]? = some q → σ.1 80 0 i = nI q.1 ∧ σ.1 81 0 i = nI q.2.1 ∧ σ.1 82 0 i = q.2.2) ∧ (σ.1 50 0 49 = nI N.2.2.2.1.length ∧ N.2.2.2.1.length ≤ 10 ∧ ∀ (i : Nat) (q : Nat × Nat), N.2.2.2.1[i]? = some q → σ.1 83 0 i = nI q.1 ∧ (q.1 ≠ 0 → σ.1 84 0 i = nI q.2)) ∧ (σ.1 50 0 50 = nI N.2.2.2.2.1.length ∧ N.2.2.2.2.1.length ≤ 8 ∧ ∀ (i : Nat) (q : Nat × Int32), N.2.2.2.2.1[i]? = some q → σ.1 85 0 i = nI q.1 ∧ σ.1 86 0 i = q.2)
def cImg (σ : qm_Sg) (I : Option DN9) : Prop := (I = none ∧ σ.1 0 0 4 = 0) ∨ ∃ N, I = some N ∧ σ.1 0 0 4 = 1 ∧ cDN 1 σ N
def mImg (σ : qm_Sg) (I : Option DN9) : Prop := (I = none ∧ σ.1 50 0 42 = 0) ∨ ∃ N, I = some N ∧ σ.1 50 0 42 = 1 ∧ mIM σ N
def cStr (σ : qm_Sg) (C : Nat × (Nat → CT9)) : Prop := σ.1 0 0 6 = nI C.1 ∧ ∀ s, s < C.1 → cRep σ s (C.2 s)
def mStr (σ : qm_Sg) (C : Nat × (Nat → CT9)) : Prop := σ.1 50 0 9 = nI C.1 ∧ ∀ s, s < C.1 → mRp σ s (C.2 s)
def cTxt (σ : qm_Sg) (X : Nat × (Nat → Nat)) : Prop := σ.1 0 0 8 = nI X.1 ∧ ∀ j, j < X.1 → σ.1 5 0 j = nI (X.2 j)
def mTxt (σ : qm_Sg) (X : Nat × (Nat → Nat)) : Prop := σ.1 50 0 11 = nI X.1 ∧ ∀ j, j < X.1 → σ.1 56 0 j = nI (X.2 j)
def cCon (σ : qm_Sg) : Prop := σ.1 16 0 0 = 5 ∧ σ.1 20 0 0 = 10 ∧ σ.1 24 0 0 = 8 ∧ sE σ
def cI (σ : qm_Sg) (Z : SS9) : Prop := cDN 0 σ Z.1 ∧ cImg σ Z.2.1 ∧ cStr σ Z.2.2.1 ∧ cTxt σ Z.2.2.2.1 ∧ cTr σ Z.2.2.2.2.1 ∧ cTap σ Z.2.2.2.2.2 ∧ cCon σ
def mI (σ : qm_Sg) (Z : SS9) : Prop := mDN σ Z.1 ∧ mImg σ Z.2.1 ∧ mStr σ Z.2.2.1 ∧ mTxt σ Z.2.2.2.1 ∧ mTr σ Z.2.2.2.2.1 ∧ mTap σ Z.2.2.2.2.2 ∧ mLt σ
def wDN (C : Nat × (Nat → CT9)) (N : DN9) : Prop := (N.1.1 ≤ 6 ∧ (∀ p, p < N.1.1 → ∃ k, k < 7 ∧ N.1.2.1 p = nI k) ∧ N.1.2.2.2.2.2 = (hS9 C.2 N.2.2.2.2.2, hB9 C.2 N.2.2.2.2.2) ∧ ∀ s, N.2.2.2.2.2 = some s → s < C.1) ∧ ((∀ j, N.1.1 ≤ j → j < 6 → N.2.1.1 j = 0 ∧ N.2.1.2.1 j = 0) ∧ (∀ j, 4 * N.1.1 ≤ j → j < 24 → N.1.2.2.2.1 j = 0) ∧ ∃ a, awO N.1 = nI a ∧ a < 2 ^ N.1.1) ∧ (N.2.1.2.2.2 ≤ 9999 ∧ rg N.2.1) ∧ wfR N.1.1 N.2.2.1 ∧ wfP N.1.1 N.2.2.2.1 ∧ wfB N.1.1 N.2.2.2.2.1
def wS (Z : SS9) : Prop := wDN Z.2.2.1 Z.1 ∧ (∀ N, Z.2.1 = some N → wDN Z.2.2.1 N) ∧ (Z.2.2.1.1 ≤ 6 ∧ ∀ s, s < Z.2.2.1.1 → wfC (Z.2.2.1.2 s)) ∧ (Z.2.2.2.1.1 ≤ 100 ∧ ∀ j, j < Z.2.2.2.1.1 → Z.2.2.2.1.2 j < 128) ∧ Z.2.2.2.2.1.length < 1000 ∧ wfTap Z.2.2.2.2.2
def FC (σ σ' : qm_Sg) : Prop := ∀ t i j : Nat, 50 ≤ t → σ'.1 t i j = σ.1 t i j ∧ σ'.2 t i j = σ.2 t i j
def FM (σ σ' : qm_Sg) : Prop := ∀ t i j : Nat, (t < 50 ∨ 100 ≤ t) → σ'.1 t i j = σ.1 t i j ∧ σ'.2 t i j = σ.2 t i j
theorem FC.of {T : Nat → Nat → Nat → Prop} {σ σ' : qm_Sg} (F : Fr T σ σ') (h : ∀ t i j, 50 ≤ t → ¬ T t i j) : FC σ σ' := fun t i j q => ⟨F.1 _ _ _ (h _ _ _ q), by rw [F.2]⟩
theorem FM.of {T : Nat → Nat → Nat → Prop} {σ σ' : qm_Sg} (F : Fr T σ σ') (h : ∀ t i j, (t < 50 ∨ 100 ≤ t) → ¬ T t i j) : FM σ σ' := fun t i j q => ⟨F.1 _ _ _ (h _ _ _ q), by rw [F.2]⟩
theorem FC.ofL {T : Nat → Nat → Nat → Prop} {U : Nat → Prop} {σ σ' : qm_Sg} (F : FrL T U σ σ') (h : ∀ t i j, 50 ≤ t → ¬ T t i j) (h2 : ∀ t, 50 ≤ t → ¬ U t) : FC σ σ' := fun t i j q => ⟨F.1 _ _ _ (h _ _ _ q), F.2 _ _ _ (h2 _ q)⟩
theorem FM.ofL {T : Nat → Nat → Nat → Prop} {U : Nat → Prop} {σ σ' : qm_Sg} (F : FrL T U σ σ') (h : ∀ t i j, (t < 50 ∨ 100 ≤ t) → ¬ T t i j) (h2 : ∀ t, (t < 50 ∨ 100 ≤ t) → ¬ U t) : FM σ σ' := fun t i j q => ⟨F.1 _ _ _ (h _ _ _ q), F.2 _ _ _ (h2 _ q)⟩
/-! frames of the pieces; what changed of the longs does not matter to them but to the tapes -/
theorem Fr.ex {T : Nat → Nat → Nat → Prop} {U : Nat → Prop} {σ σ' : qm_Sg} (F : FrL T U σ σ') : Fr T σ (σ'.1, σ.2) := ⟨F.1, rfl⟩
theorem cDN.fr {X : Nat} {σ σ' : qm_Sg} {N : DN9} {T : Nat → Nat → Nat → Prop} {U : Nat → Prop} (h : cDN X σ N) (F : FrL T U σ σ') (hT : ∀ t i j, ((i = X ∧ 10 ≤ t ∧ t ≤ 27) ∨ (28 ≤ t ∧ t ≤ 32)) → ¬ T t i j) : cDN X σ' N := by
  obtain ⟨h1, h2, h3, h4⟩ := h
  have a1 : cS X (σ'.1, σ.2) N.1 := h1.fg (Fr.ex F) (fun t i j q => hT _ _ _ (by unfold pC at q; omega)) (hT _ _ _ (by omega))
  have a2 : cV X (σ'.1, σ.2) N.2.1 := h2.fg (Fr.ex F) (fun t i j q => hT _ _ _ (by omega))
  have a3 : cSl X (σ'.1, σ.2) N.2.2.1 N.2.2.2.1 N.2.2.2.2.1 := h3.fr (Fr.ex F) (fun t i j q a b => hT _ _ _ (by omega))
  exact ⟨a1, a2, a3, by rw [F.1 _ _ _ (hT _ _ _ (by omega))]; exact h4⟩
theorem cImg.fr {σ σ' : qm_Sg} {I : Option DN9} {T : Nat → Nat → Nat → Prop} {U : Nat → Prop} (h : cImg σ I) (F : FrL T U σ σ') (hT : ∀ t i j, ((t = 0 ∧ j = 4) ∨ (i = 1 ∧ 10 ≤ t ∧ t ≤ 27) ∨ (28 ≤ t ∧ t ≤ 32)) → ¬ T t i j) : cImg σ' I := by
  rcases h with ⟨h1, h2⟩ | ⟨N, h1, h2, h3⟩
  · exact Or.inl ⟨h1, by rw [F.1 _ _ _ (hT _ _ _ (by omega))]; exact h2⟩
  · exact Or.inr ⟨N, h1, by rw [F.1 _ _ _ (hT _ _ _ (by omega))]; exact h2, h3.fr F (fun t i j q => hT _ _ _ (by omega))⟩
theorem cStr.fr {σ σ' : qm_Sg} {C : Nat × (Nat → CT9)} {T : Nat → Nat → Nat → Prop} {U : Nat → Prop} (h : cStr σ C) (F : FrL T U σ σ') (hT : ∀ t i j, ((t = 0 ∧ j = 6) ∨ (28 ≤ t ∧ t ≤ 32)) → ¬ T t i j) : cStr σ' C := by
  refine ⟨by rw [F.1 _ _ _ (hT _ _ _ (by omega))]; exact h.1, fun s hs => ?_⟩
  have a : cRep (σ'.1, σ.2) s (C.2 s) := (h.2 s hs).fr (Fr.ex F) (fun t i j a b => hT _ _ _ (by omega))
  exact a
theorem cTxt.fr {σ σ' : qm_Sg} {X : Nat × (Nat → Nat)} {T : Nat → Nat → Nat → Prop} {U : Nat → Prop} (h : cTxt σ X) (F : FrL T U σ σ') (hT : ∀ t i j, ((t = 0 ∧ j = 8) ∨ t = 5) → ¬ T t i j) : cTxt σ' X := ⟨by rw [F.1 _ _ _ (hT _ _ _ (by omega))]; exact h.1, fun j hj => by rw [F.1 _ _ _ (hT _ _ _ (by omega))]; exact h.2 j hj⟩
theorem cTr.fr {σ σ' : qm_Sg} {l : List Nat} {T : Nat → Nat → Nat → Prop} {U : Nat → Prop} (h : cTr σ l) (F : FrL T U σ σ') (hT : ∀ t i j, (t = 1 ∨ t = 2) → ¬ T t i j) : cTr σ' l := ⟨by rw [F.1 _ _ _ (hT _ _ _ (by omega))]; exact h.1, fun i b q a => by rw [F.1 _ _ _ (hT _ _ _ (by omega))]; exact h.2 i b q a⟩
theorem cTap.fr {σ σ' : qm_Sg} {Z : TP9} {T : Nat → Nat → Nat → Prop} {U : Nat → Prop} (h : cTap σ Z) (F : FrL T U σ σ') (hT : ∀ t i j, (t = 8 ∨ t = 9) → ¬ T t i j) (hU : ¬ U 7) : cTap σ' Z := fun t ht => ⟨by rw [F.1 _ _ _ (hT _ _ _ (by omega))]; exact (h t ht).1, by rw [F.1 _ _ _ (hT _ _ _ (by omega))]; exact (h t ht).2.1, fun j hj => by rw [F.2 _ _ _ hU]; exact (h t ht).2.2 j hj⟩
theorem cCon.fr {σ σ' : qm_Sg} {T : Nat → Nat → Nat → Prop} {U : Nat → Prop} (h : cCon σ) (F : FrL T U σ σ') (hT : ∀ t i j, (((t = 16 ∨ t = 20 ∨ t = 24) ∧ j = 0) ∨ 100 ≤ t) → ¬ T t i j) : cCon σ' := by
  obtain ⟨h1, h2, h3, h4⟩ := h
  have a : sE (σ'.1, σ.2) := h4.fr (Fr.ex F) (fun t i j q => hT _ _ _ (by omega))
  exact ⟨by rw [F.1 _ _ _ (hT _ _ _ (by omega))]; exact h1, by rw [F.1 _ _ _ (hT _ _ _ (by omega))]; exact h2, by rw [F.1 _ _ _ (hT _ _ _ (by omega))]; exact h3, a⟩
theorem mDN.fr {σ σ' : qm_Sg} {N : DN9} {T : Nat → Nat → Nat → Prop} {U : Nat → Prop} (h : mDN σ N) (F : FrL T U σ σ') (hT : ∀ t i j, ((t = 50 ∧ (j ≤ 3 ∨ j = 10 ∨ j = 32 ∨ j = 36 ∨ j = 37)) ∨ (51 ≤ t ∧ t ≤ 55) ∨ (57 ≤ t ∧ t ≤ 62) ∨ (68 ≤ t ∧ t ≤ 74)) → ¬ T t i j) : mDN σ' N := by
  obtain ⟨h1, h2, h3, h4, h5, h6⟩ := h
  have a1 : mS (σ'.1, σ.2) N.1 := h1.fg (Fr.ex F) (fun t i j q => hT _ _ _ (by unfold pM at q; omega)) (hT _ _ _ (by omega))
  have a2 : mV (σ'.1, σ.2) N.2.1 := h2.fg (Fr.ex F) (fun t i j q => hT _ _ _ (by omega))
  have a3 : mSeen (σ'.1, σ.2) N.2.2.1 := h3.fg (Fr.ex F) (fun t i j q => hT _ _ _ (by omega))
  have a4 : mPlan (σ'.1, σ.2) N.2.2.2.1 := h4.fg (Fr.ex F) (fun t i j q => hT _ _ _ (by omega))
  have a5 : mBook (σ'.1, σ.2) N.2.2.2.2.1 := h5.fg (Fr.ex F) (fun t i j q => hT _ _ _ (by omega))
  exact ⟨a1, a2, a3, a4, a5, by rw [F.1 _ _ _ (hT _ _ _ (by omega))]; exact h6⟩
theorem mIM.fr {σ σ' : qm_Sg} {N : DN9} {T : Nat → Nat → Nat → Prop} {U : Nat → Prop} (h : mIM σ N) (F : FrL T U σ σ') (hT : ∀ t i j, ((t = 50 ∧ 43 ≤ j ∧ j ≤ 50) ∨ (75 ≤ t ∧ t ≤ 86)) → ¬ T t i j) : mIM σ' N := by
  have f0 : ∀ j, 43 ≤ j → j ≤ 50 → σ'.1 50 0 j = σ.1 50 0 j := fun j a b => F.1 _ _ _ (hT _ _ _ (by omega))
  have f1 : ∀ t, 75 ≤ t → t ≤ 86 → σ'.1 t 0 = σ.1 t 0 := fun t a b => funext fun j => F.1 _ _ _ (hT _ _ _ (by omega))
  unfold mIM at h ⊢
  rw [f0 43 (by omega) (by omega), f0 44 (by omega) (by omega), f0 45 (by omega) (by omega), f0 46 (by omega) (by omega), f0 47 (by omega) (by omega), f0 48 (by omega) (by omega), f0 49 (by omega) (by omega), f0 50 (by omega) (by omega), f1 75 (by omega) (by omega), f1 76 (by omega) (by omega), f1 77 (by omega) (by omega), f1 78 (by omega) (by omega), f1 79 (by omega) (by omega), f1 80 (by omega) (by omega), f1 81 (by omega) (by omega), f1 82 (by omega) (by omega), f1 83 (by omega) (by omega), f1 84 (by omega) (by omega), f1 85 (by omega) (by omega), f1 86 (by omega) (by omega)]
  exact h
theorem mImg.fr {σ σ' : qm_Sg} {I : Option DN9} {T : Nat → Nat → Nat → Prop} {U : Nat → Prop} (h : mImg σ I) (F : FrL T U σ σ') (hT : ∀ t i j, ((t = 50 ∧ 42 ≤ j ∧ j ≤ 50) ∨ (75 ≤ t ∧ t ≤ 86)) → ¬ T t i j) : mImg σ' I := by
  rcases h with ⟨h1, h2⟩ | ⟨N, h1, h2, h3⟩
  · exact Or.inl ⟨h1, by rw [F.1 _ _ _ (hT _ _ _ (by omega))]; exact h2⟩
  · exact Or.inr ⟨N, h1, by rw [F.1 _ _ _ (hT _ _ _ (by omega))]; exact h2, h3.fr F (fun t i j q => hT _ _ _ (by omega))⟩
theorem mStr.fr {σ σ' : qm_Sg} {C : Nat × (Nat → CT9)} {T : Nat → Nat → Nat → Prop} {U : Nat → Prop} (h : mStr σ C) (F : FrL T U σ σ') (hT : ∀ t i j, ((t = 50 ∧ j = 9) ∨ (57 ≤ t ∧ t ≤ 62)) → ¬ T t i j) : mStr σ' C := by
  refine ⟨by rw [F.1 _ _ _ (hT _ _ _ (by omega))]; exact h.1, fun s hs => ?_⟩
  have a : mRp (σ'.1, σ.2) s (C.2 s) := (h.2 s hs).fr (Fr.ex F) (fun t i j a => hT _ _ _ (by omega))
  exact a
theorem mTxt.fr {σ σ' : qm_Sg} {X : Nat × (Nat → Nat)} {T : Nat → Nat → Nat → Prop} {U : Nat → Prop} (h : mTxt σ X) (F : FrL T U σ σ') (hT : ∀ t i j, ((t = 50 ∧ j = 11) ∨ t = 56) → ¬ T t i j) : mTxt σ' X := ⟨by rw [F.1 _ _ _ (hT _ _ _ (by omega))]; exact h.1, fun j hj => by rw [F.1 _ _ _ (hT _ _ _ (by omega))]; exact h.2 j hj⟩
theorem mTr.fr {σ σ' : qm_Sg} {l : List Nat} {T : Nat → Nat → Nat → Prop} {U : Nat → Prop} (h : mTr σ l) (F : FrL T U σ σ') (hT : ∀ t i j, ((t = 50 ∧ j = 63) ∨ t = 87) → ¬ T t i j) : mTr σ' l := ⟨by rw [F.1 _ _ _ (hT _ _ _ (by omega))]; exact h.1, fun i b q a => by rw [F.1 _ _ _ (hT _ _ _ (by omega))]; exact h.2 i b q a⟩
theorem mTap.fr {σ σ' : qm_Sg} {Z : TP9} {T : Nat → Nat → Nat → Prop} {U : Nat → Prop} (h : mTap σ Z) (F : FrL T U σ σ') (hT : ∀ t i j, (t = 88 ∨ t = 89) → ¬ T t i j) (hU : ¬ U 90) : mTap σ' Z := fun t ht => ⟨by rw [F.1 _ _ _ (hT _ _ _ (by omega))]; exact (h t ht).1, by rw [F.1 _ _ _ (hT _ _ _ (by omega))]; exact (h t ht).2.1, fun j hj => by rw [F.2 _ _ _ hU]; exact (h t ht).2.2 j hj⟩
theorem mLt.fl {σ σ' : qm_Sg} {T : Nat → Nat → Nat → Prop} {U : Nat → Prop} (h : mLt σ) (F : FrL T U σ σ') (hT : ∀ t i j, t = 64 → ¬ T t i j) : mLt σ' := fun j c q => by rw [F.1 _ _ _ (hT _ _ _ rfl)]; exact h j c q
theorem mI.fc {σ σ' : qm_Sg} {Z : SS9} (h : mI σ Z) (F : FC σ σ') : mI σ' Z := by
  have G : FrL (fun t _ _ => t < 50) (fun t => t < 50) σ σ' := ⟨fun t i j q => (F t i j (by omega)).1, fun t i j q => (F t i j (by omega)).2⟩
  obtain ⟨h1, h2, h3, h4, h5, h6, h7⟩ := h
  exact ⟨h1.fr G (fun t i j q => by omega), h2.fr G (fun t i j q => by omega), h3.fr G (fun t i j q => by omega), h4.fr G (fun t i j q => by omega), h5.fr G (fun t i j q => by omega), h6.fr G (fun t i j q => by omega) (by omega), h7.fl G (fun t i j q => by omega)⟩
theorem cI.fm {σ σ' : qm_Sg} {Z : SS9} (h : cI σ Z) (F : FM σ σ') : cI σ' Z := by
  have G : FrL (fun t _ _ => 50 ≤ t ∧ t < 100) (fun t => 50 ≤ t ∧ t < 100) σ σ' := ⟨fun t i j q => (F t i j (by omega)).1, fun t i j q => (F t i j (by omega)).2⟩
  obtain ⟨h1, h2, h3, h4, h5, h6, h7⟩ := h
  exact ⟨h1.fr G (fun t i j q => by omega), h2.fr G (fun t i j q => by omega), h3.fr G (fun t i j q => by omega), h4.fr G (fun t i j q => by omega), h5.fr G (fun t i j q => by omega), h6.fr G (fun t i j q => by omega) (by omega), h7.fr G (fun t i j q => by omega)⟩
/-! a call that touches the doors alone -/
def tDo (t i j : Nat) : Prop := t = 33 ∨ (i = 2 ∧ 10 ≤ t ∧ t ≤ 15) ∨ (i = 0 ∧ 10 ≤ t ∧ t ≤ 27 ∧ ¬ ((t = 16 ∨ t = 20 ∨ t = 24) ∧ j = 0))
def tDm (t _ j : Nat) : Prop := (t = 50 ∧ (j ≤ 3 ∨ j = 10 ∨ j = 27 ∨ j = 28 ∨ j = 29 ∨ j = 32 ∨ j = 36 ∨ j = 37)) ∨ (51 ≤ t ∧ t ≤ 55) ∨ (65 ≤ t ∧ t ≤ 74)
theorem cI.up {σ σ' : qm_Sg} {Z : SS9} {N : DN9} {T : Nat → Nat → Nat → Prop} (h : cI σ Z) (F : Fr T σ σ') (hT : ∀ t i j, T t i j → tDo t i j) (hN : cDN 0 σ' N) : FC σ σ' ∧ cI σ' (N, Z.2) := by
  have G : FrL tDo (fun _ => False) σ σ' := FrL.of (F.mono hT)
  obtain ⟨h1, h2, h3, h4, h5, h6, h7⟩ := h
  exact ⟨FC.ofL G (fun t i j q => by unfold tDo; omega) (fun t q a => a), hN, h2.fr G (fun t i j q => by unfold tDo; omega), h3.fr G (fun t i j q => by unfold tDo; omega), h4.fr G (fun t i j q => by unfold tDo; omega), h5.fr G (fun t i j q => by unfold tDo; omega), h6.fr G (fun t i j q => by unfold tDo; omega) (fun a => a), h7.fr G (fun t i j q => by unfold tDo; omega)⟩
theorem mI.up {σ σ' : qm_Sg} {Z : SS9} {N : DN9} {T : Nat → Nat → Nat → Prop} (h : mI σ Z) (F : Fr T σ σ') (hT : ∀ t i j, T t i j → tDm t i j) (hN : mDN σ' N) : FM σ σ' ∧ mI σ' (N, Z.2) := by
  have G : FrL tDm (fun _ => False) σ σ' := FrL.of (F.mono hT)
  obtain ⟨h1, h2, h3, h4, h5, h6, h7⟩ := h
  exact ⟨FM.ofL G (fun t i j q => by unfold tDm; omega) (fun t q a => a), hN, h2.fr G (fun t i j q => by unfold tDm; omega), h3.fr G (fun t i j q => by unfold tDm; omega), h4.fr G (fun t i j q => by unfold tDm; omega), h5.fr G (fun t i j q => by unfold tDm; omega), h6.fr G (fun t i j q => by unfold tDm; omega) (fun a => a), h7.fl G (fun t i j q => by unfold tDm; omega)⟩
theorem cDN.q {σ σ' : qm_Sg} {N : DN9} (h : cDN 0 σ N) (F : Fr tT σ σ') : cDN 0 σ' N := h.fr (U := fun _ => False) (FrL.of F) (fun t i j q => by unfold tT; omega)
theorem mDN.q {σ σ' : qm_Sg} {N : DN9} (h : mDN σ N) (F : Fr tR σ σ') (h1 : mS σ' N.1) (h2 : mV σ' N.2.1) : mDN σ' N := by
  obtain ⟨-, -, h3, h4, h5, h6⟩ := h
  exact ⟨h1, h2, h3.fg F (fun t i j q => by unfold tR tQ; omega), h4.fg F (fun t i j q => by unfold tR tQ; omega), h5.fg F (fun t i j q => by unfold tR tQ; omega), by rw [F.1 _ _ _ (by unfold tR tQ; omega)]; exact h6⟩
theorem cI.q {σ σ' : qm_Sg} {Z : SS9} (h : cI σ Z) (F : Fr tT σ σ') : FC σ σ' ∧ cI σ' Z := h.up F (fun t i j q => by unfold tT at q; unfold tDo; omega) (h.1.q F)
theorem mI.q {σ σ' : qm_Sg} {Z : SS9} (h : mI σ Z) (F : Fr tR σ σ') (h1 : mS σ' Z.1.1) (h2 : mV σ' Z.1.2.1) : FM σ σ' ∧ mI σ' Z := h.up F (fun t i j q => by unfold tR tQ at q; unfold tDm; omega) (h.1.q F h1 h2)
theorem mI.q' {σ σ' : qm_Sg} {Z : SS9} (h : mI σ Z) (F : Fr tQ σ σ') (h1 : mS σ' Z.1.1) (h2 : mV σ' Z.1.2.1) : FM σ σ' ∧ mI σ' Z := h.q (F.mono (fun t i j q => Or.inr q)) h1 h2
theorem FC.rf {σ : qm_Sg} : FC σ σ := fun _ _ _ _ => ⟨rfl, rfl⟩
theorem FM.rf {σ : qm_Sg} : FM σ σ := fun _ _ _ _ => ⟨rfl, rfl⟩
