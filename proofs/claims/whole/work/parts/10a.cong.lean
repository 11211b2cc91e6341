def Q6 (f g : Nat → Int32) : Prop := ∀ j, j < 6 → f j = g j
def Q24 (f g : Nat → Int32) : Prop := ∀ j, j < 24 → f j = g j
def QD (D E : DD) : Prop := Q6 D.1 E.1 ∧ Q6 D.2.1 E.2.1 ∧ D.2.2 = E.2.2
theorem Q6.rf (f : Nat → Int32) : Q6 f f := fun _ _ => rfl
theorem Q24.rf (f : Nat → Int32) : Q24 f f := fun _ _ => rfl
theorem QD.rf (D : DD) : QD D D := ⟨Q6.rf _, Q6.rf _, rfl⟩
theorem Q6.sy {f g : Nat → Int32} (h : Q6 f g) : Q6 g f := fun j hj => (h j hj).symm
theorem Q24.sy {f g : Nat → Int32} (h : Q24 f g) : Q24 g f := fun j hj => (h j hj).symm
theorem QD.sy {D E : DD} (h : QD D E) : QD E D := ⟨h.1.sy, h.2.1.sy, h.2.2.symm⟩
theorem Q6.tr {f g k : Nat → Int32} (h : Q6 f g) (h2 : Q6 g k) : Q6 f k := fun j hj => (h j hj).trans (h2 j hj)
theorem Q24.tr {f g k : Nat → Int32} (h : Q24 f g) (h2 : Q24 g k) : Q24 f k := fun j hj => (h j hj).trans (h2 j hj)
theorem QD.tr {D E F : DD} (h : QD D E) (h2 : QD E F) : QD D F := ⟨h.1.tr h2.1, h.2.1.tr h2.2.1, h.2.2.trans h2.2.2⟩
theorem Q6.up {f g : Nat → Int32} (h : Q6 f g) (k : Nat) (x : Int32) : Q6 (upd f k x) (upd g k x) := by
  intro j hj
  by_cases e : j = k
  · rw [e, upd_same, upd_same]
  · rw [upd_ne e, upd_ne e]; exact h j hj
theorem Q24.up {f g : Nat → Int32} (h : Q24 f g) (k : Nat) (x : Int32) : Q24 (upd f k x) (upd g k x) := by
  intro j hj
  by_cases e : j = k
  · rw [e, upd_same, upd_same]
  · rw [upd_ne e, upd_ne e]; exact h j hj
theorem fxD_cg {kd kd' vv vv' : Nat → Int32} {D E : DD} {p : Nat} (hp : p < 6) (h1 : Q6 kd kd') (h2 : Q6 vv vv') (h : QD D E) : fxD kd vv D p = fxD kd' vv' E p := by
  funext j
  match j with
  | 0 => rfl
  | 1 => exact h1 p hp
  | 2 => exact h2 p hp
  | 3 => show D.1 p / 10 = E.1 p / 10; rw [h.1 p hp]
  | 4 => show D.2.1 p / 10 = E.2.1 p / 10; rw [h.2.1 p hp]
  | j + 5 => show nI D.2.2.2 - nI D.2.2.2 / 10 * 10 = nI E.2.2.2 - nI E.2.2.2 / 10 * 10; rw [h.2.2]
theorem urgD_cg {kd kd' vv vv' rw9 rw9' : Nat → Int32} {D E : DD} {p : Nat} {s : Int32} (hp : p < 6) (h1 : Q6 kd kd') (h2 : Q6 vv vv') (h3 : Q24 rw9 rw9') (h : QD D E) : urgD kd vv rw9 D p s = urgD kd' vv' rw9' E p s := by
  unfold urgD boyD
  rw [h1 p hp, h2 p hp, h.1 p hp, h.2.1 p hp, h.2.2, h3 (p * 4 + E.2.2.2 % 4) (by omega)]
theorem comeD_cg {n p : Nat} {aw x : Int32} {D E : DD} (hn : n ≤ 6) (h : QD D E) : QD (comeD n aw p x D) (comeD n aw p x E) := by
  unfold comeD
  cases hz : nxtA aw (n - (p + 1)) (p + 1) with
  | none => exact ⟨h.1, h.2.1, by show (mn9 (D.2.2.1 + x), D.2.2.2) = (mn9 (E.2.2.1 + x), E.2.2.2); rw [h.2.2]⟩
  | some r =>
    have hr := nxtA_lt _ _ _ hz
    exact ⟨by show Q6 (upd D.1 r (mn9 (D.1 r + x))) (upd E.1 r (mn9 (E.1 r + x))); rw [h.1 r (by omega)]; exact h.1.up _ _, h.2.1, h.2.2⟩
theorem workD_cg {p : Nat} {D E : DD} (hp : p < 6) (h : QD D E) : QD (workD p D) (workD p E) := by
  unfold workD doneD
  rw [h.1 p hp, h.2.1 p hp]
  exact ⟨h.1.up _ _, h.2.1.up _ _, h.2.2⟩
theorem restD_cg {n p : Nat} {aw br : Int32} {D E : DD} (hn : n ≤ 6) (hp : p < 6) (h : QD D E) : QD (restD n aw br p D) (restD n aw br p E) := by
  unfold restD
  rw [h.1 p hp]
  split
  · exact h
  · have k := comeD_cg (p := p) (aw := aw) (x := E.1 p - br) hn h
    exact ⟨k.1.up _ _, k.2.1, k.2.2⟩
theorem wakeD_cg {n p : Nat} {kd kd' vv vv' rw9 rw9' : Nat → Int32} {aw : Int32} {S : (Nat → Int32) → Int32} {br : Int32} {D E : DD} (hn : n ≤ 6) (hp : p < 6) (h1 : Q6 kd kd') (h2 : Q6 vv vv') (h3 : Q24 rw9 rw9') (h : QD D E) : QD (wakeD n kd vv rw9 aw S br p D) (wakeD n kd' vv' rw9' aw S br p E) := by
  unfold wakeD
  rw [fxD_cg hp h1 h2 h, urgD_cg hp h1 h2 h3 h]
  exact restD_cg hn hp (workD_cg hp (comeD_cg hn h))
theorem dayD_cg {n : Nat} {kd kd' vv vv' rw9 rw9' : Nat → Int32} {aw : Int32} {S : (Nat → Int32) → Int32} {br : Int32} (hn : n ≤ 6) (h1 : Q6 kd kd') (h2 : Q6 vv vv') (h3 : Q24 rw9 rw9') : ∀ (k p : Nat) (D E : DD), p + k ≤ 6 → QD D E → QD (dayD n kd vv rw9 aw S br k p D) (dayD n kd' vv' rw9' aw S br k p E)
  | 0, _, _, _, _, h => h
  | k + 1, p, D, E, e, h => by
    unfold dayD
    split
    · exact dayD_cg hn h1 h2 h3 k (p + 1) _ _ (by omega) h
    · exact dayD_cg hn h1 h2 h3 k (p + 1) _ _ (by omega) (wakeD_cg hn (by omega) h1 h2 h3 h)
theorem oneD_cg {n : Nat} {kd kd' vv vv' rw9 rw9' : Nat → Int32} {aw : Int32} {S : (Nat → Int32) → Int32} {br : Int32} {D E : DD} (hn : n ≤ 6) (h1 : Q6 kd kd') (h2 : Q6 vv vv') (h3 : Q24 rw9 rw9') (h : QD D E) : QD (oneD n kd vv rw9 aw S br D) (oneD n kd' vv' rw9' aw S br E) := by
  have k := dayD_cg (aw := aw) (S := S) (br := br) hn h1 h2 h3 n 0 D E (by omega) h
  refine ⟨k.1, k.2.1, ?_⟩
  show ((dayD n kd vv rw9 aw S br n 0 D).2.2.1, D.2.2.2 + 1) = ((dayD n kd' vv' rw9' aw S br n 0 E).2.2.1, E.2.2.2 + 1)
  rw [k.2.2, h.2.2]
theorem goD_cg {n : Nat} {kd kd' vv vv' rw9 rw9' : Nat → Int32} {aw : Int32} {S : (Nat → Int32) → Int32} {br : Int32} (hn : n ≤ 6) (h1 : Q6 kd kd') (h2 : Q6 vv vv') (h3 : Q24 rw9 rw9') : ∀ (k : Nat) (D E : DD), QD D E → QD (goD n kd vv rw9 aw S br k D) (goD n kd' vv' rw9' aw S br k E)
  | 0, _, _, h => h
  | k + 1, D, E, h => goD_cg hn h1 h2 h3 k _ _ (oneD_cg hn h1 h2 h3 h)
/-- n kd vv rw aw S br -/
abbrev AS : Type := Nat × (Nat → Int32) × (Nat → Int32) × (Nat → Int32) × Int32 × ((Nat → Int32) → Int32) × Int32
def goA (A : AS) (k : Nat) (D : DD) : DD := goD A.1 A.2.1 A.2.2.1 A.2.2.2.1 A.2.2.2.2.1 A.2.2.2.2.2.1 A.2.2.2.2.2.2 k D
def cS (X : Nat) (σ : qm_Sg) (A : AS) : Prop := ∃ kd vv rw9, Q6 kd A.2.1 ∧ Q6 vv A.2.2.1 ∧ Q24 rw9 A.2.2.2.1 ∧ sD X σ A.1 kd vv rw9 A.2.2.2.2.1 A.2.2.2.2.2.1 A.2.2.2.2.2.2
def cV (X : Nat) (σ : qm_Sg) (D : DD) : Prop := ∃ E, vD X σ E ∧ QD E D
def mS (σ : qm_Sg) (A : AS) : Prop := ∃ kd vv rw9, Q6 kd A.2.1 ∧ Q6 vv A.2.2.1 ∧ Q24 rw9 A.2.2.2.1 ∧ sM σ A.1 kd vv rw9 A.2.2.2.2.1 A.2.2.2.2.2.1 A.2.2.2.2.2.2
def mV (σ : qm_Sg) (D : DD) : Prop := ∃ E, vM σ E ∧ QD E D
theorem QD.m {D E : DD} (h : QD D E) : D.2.2.2 = E.2.2.2 := by rw [h.2.2]
theorem cS.fr {T : Nat → Nat → Nat → Prop} {X : Nat} {σ σ' : qm_Sg} {A : AS} (h : cS X σ A) (hF : Fr T σ σ') (hT : ∀ t i j, T t i j → tC X t i j) : cS X σ' A := by
  obtain ⟨kd, vv, rw9, h1, h2, h3, h4⟩ := h
  exact ⟨kd, vv, rw9, h1, h2, h3, h4.fr hF hT⟩
theorem mS.fr {T : Nat → Nat → Nat → Prop} {σ σ' : qm_Sg} {A : AS} (h : mS σ A) (hF : Fr T σ σ') (hT : ∀ t i j, T t i j → tM t i j) : mS σ' A := by
  obtain ⟨kd, vv, rw9, h1, h2, h3, h4⟩ := h
  exact ⟨kd, vv, rw9, h1, h2, h3, h4.fr hF hT⟩
theorem c_goA {d : Nat} (hd : 6 ≤ d) {σ : qm_Sg} {Q : qm_Po} {X k9 : Nat} {A : AS} {D : DD} (hk : k9 < 2 ^ 20) (hs : cS X σ A) (hv : cV X σ D) (hm : D.2.2.2 + k9 < 2 ^ 30) (h : ∀ σ', Fr (tC X) σ σ' → cS X σ' A → cV X σ' (goA A k9 D) → Q σ' none) : qm_M d 31 [vR 10 X, vI (nI k9)] σ Q := by
  obtain ⟨kd, vv, rw9, h1, h2, h3, h4⟩ := id hs
  obtain ⟨E, e1, e2⟩ := hv
  exact c_go hd hk h4 e1 (by rw [e2.m]; exact hm) (fun σ' f v => h σ' f (hs.fr f (fun _ _ _ q => q)) ⟨_, v, goD_cg h4.2.1 h1 h2 h3 k9 E D e2⟩)
theorem m_goA {d : Nat} (hd : 10 ≤ d) {σ : qm_Sg} {Q : qm_Po} {k9 : Nat} {A : AS} {D : DD} (hk : k9 < 2 ^ 20) (hs : mS σ A) (hv : mV σ D) (hm : D.2.2.2 + k9 < 2 ^ 30) (h : ∀ σ', Fr tM σ σ' → mS σ' A → mV σ' (goA A k9 D) → Q σ' none) : qm_M d 152 [vR 50 0, vI (nI k9)] σ Q := by
  obtain ⟨kd, vv, rw9, h1, h2, h3, h4⟩ := id hs
  obtain ⟨E, e1, e2⟩ := hv
  exact m_goMornings hd hk h4 e1 (by rw [e2.m]; exact hm) (fun σ' f v => h σ' f (hs.fr f (fun _ _ _ q => q)) ⟨_, v, goD_cg h4.2.1 h1 h2 h3 k9 E D e2⟩)
theorem m_goA1 {d : Nat} (hd : 9 ≤ d) {σ : qm_Sg} {Q : qm_Po} {A : AS} {D : DD} (hs : mS σ A) (hv : mV σ D) (hm : D.2.2.2 < 2 ^ 30) (h : ∀ σ', Fr tM σ σ' → mS σ' A → mV σ' (goA A 1 D) → Q σ' none) : qm_M d 151 [vR 50 0] σ Q := by
  obtain ⟨kd, vv, rw9, h1, h2, h3, h4⟩ := id hs
  obtain ⟨E, e1, e2⟩ := hv
  exact m_goMorning hd h4 e1 (by rw [e2.m]; exact hm) (fun σ' f v => h σ' f (hs.fr f (fun _ _ _ q => q)) ⟨_, v, goD_cg h4.2.1 h1 h2 h3 1 E D e2⟩)
theorem goA_m (A : AS) : ∀ (k : Nat) (D : DD), (goA A k D).2.2.2 = D.2.2.2 + k
  | 0, D => rfl
  | k + 1, D => by
    show (goA A k _).2.2.2 = _
    rw [goA_m A k]
    show D.2.2.2 + 1 + k = _
    omega
theorem goA_add (A : AS) (a : Nat) : ∀ (b : Nat) (D : DD), goA A (a + b) D = goA A a (goA A b D)
  | 0, D => rfl
  | b + 1, D => by
    show goA A (a + b) (goA A 1 D) = goA A a (goA A b (goA A 1 D))
    exact goA_add A a b _
