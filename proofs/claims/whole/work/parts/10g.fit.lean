def lowD (K : Nat → Bool) : Nat → Nat → Int32
  | 0, _ => -5
  | k + 1, x => if K x then nI x else lowD K k (x + 1)
def cntD (K : Nat → Bool) : Nat → Nat → Nat
  | 0, _ => 0
  | k + 1, x => (if K x then 1 else 0) + cntD K k (x + 1)
def oD (D : DD) (p : Nat) (y : Int32) : DD := (upd D.1 p y, D.2)
def vA (A : AS) (p : Nat) (y : Int32) : AS := (A.1, A.2.1, upd A.2.2.1 p y, A.2.2.2)
def kO (A : AS) (D : DD) (R : R9) (p x : Nat) : Bool := decide (okR A (oD D p (nI x)) R)
def kV (A : AS) (D : DD) (R : R9) (p x : Nat) : Bool := decide (okR (vA A p (nI x)) D R)
theorem Q6.uu {f g : Nat → Int32} {p : Nat} {y : Int32} (h : ∀ j, j < 6 → j ≠ p → f j = g j) : Q6 (upd f p y) (upd g p y) := by
  intro j hj
  by_cases e : j = p
  · rw [e, upd_same, upd_same]
  · rw [upd_ne e, upd_ne e]; exact h j hj e
theorem cS.v {X : Nat} {σ : qm_Sg} {A : AS} {p : Nat} {y : Int32} {vv' : Nat → Int32} (h : cS X σ A) (hq : Q6 (upd A.2.2.1 p y) vv') : cS X (wF σ 12 X (upd (σ.1 12 X) p y)) (A.1, A.2.1, vv', A.2.2.2) := by
  obtain ⟨kd, vv, rw9, q1, q2, q3, h1, h2, h3, h4, h5, h6, h7, h8⟩ := h
  have F : Fr (fun t i j => t = 12) σ (wF σ 12 X (upd (σ.1 12 X) p y)) := Fr.w1 rfl
  exact ⟨kd, _, rw9, q1, (by rw [wF_same, h4]; exact (q2.up p y).tr hq), q3, by rw [wF_ne _ _ (by omega)]; exact h1, h2, by rw [wF_ne _ _ (by omega)]; exact h3, rfl, by rw [wF_ne _ _ (by omega)]; exact h5, by rw [wF_ne _ _ (by omega)]; exact h6, h7, h8.fr F (fun t i j a b => by omega) (by omega)⟩
theorem mS.v {σ : qm_Sg} {A : AS} {p : Nat} {y : Int32} {vv' : Nat → Int32} (h : mS σ A) (hq : Q6 (upd A.2.2.1 p y) vv') : mS (wF σ 52 0 (upd (σ.1 52 0) p y)) (A.1, A.2.1, vv', A.2.2.2) := by
  obtain ⟨kd, vv, rw9, q1, q2, q3, h1, h2, h3, h4, h5, h6, h7, h8⟩ := h
  have F : Fr (fun t i j => t = 52) σ (wF σ 52 0 (upd (σ.1 52 0) p y)) := Fr.w1 rfl
  exact ⟨kd, _, rw9, q1, (by rw [wF_same, h4]; exact (q2.up p y).tr hq), q3, by rw [wF_ne _ _ (by omega)]; exact h1, h2, by rw [wF_ne _ _ (by omega)]; exact h3, rfl, by rw [wF_ne _ _ (by omega)]; exact h5, by rw [wF_ne _ _ (by omega)]; exact h6, h7, h8.fr F (fun t i j a b => by omega) (by omega)⟩
theorem mS.vv {σ : qm_Sg} {A : AS} (h : mS σ A) : Q6 (σ.1 52 0) A.2.2.1 := by obtain ⟨kd, vv, rw9, q1, q2, q3, h1, h2, h3, h4, h5, h6, h7, h8⟩ := h; rw [h4]; exact q2
theorem cS.vv {X : Nat} {σ : qm_Sg} {A : AS} (h : cS X σ A) : Q6 (σ.1 12 X) A.2.2.1 := by obtain ⟨kd, vv, rw9, q1, q2, q3, h1, h2, h3, h4, h5, h6, h7, h8⟩ := h; rw [h4]; exact q2
theorem mS.kd {σ : qm_Sg} {A : AS} (h : mS σ A) : Q6 (σ.1 51 0) A.2.1 := by obtain ⟨kd, vv, rw9, q1, q2, q3, h1, h2, h3, h4, h5, h6, h7, h8⟩ := h; rw [h3]; exact q1
theorem cS.kd {X : Nat} {σ : qm_Sg} {A : AS} (h : cS X σ A) : Q6 (σ.1 11 X) A.2.1 := by obtain ⟨kd, vv, rw9, q1, q2, q3, h1, h2, h3, h4, h5, h6, h7, h8⟩ := h; rw [h3]; exact q1
theorem i_m1 (x : Int32) : x + (-1) = x - 1 := by rw [Int32.sub_eq_add_neg]
theorem c_fitO_l {d : Nat} (hd : 7 ≤ d) {σ0 : qm_Sg} {Q : qm_Po} {A : AS} {D : DD} {R : R9} {p : Nat} {le : Int32} (hp : p < A.1) (hr : cSeen σ0 R) (hw : wfR A.1 R) (hs : cS 0 σ0 A) (hv : cV 0 σ0 D) (hm : D.2.2.2 + 20 < 2 ^ 30) : ∀ (k x c : Nat) (σ : qm_Sg), x + k = 100 → Fr tT σ0 σ → (∀ σ', Fr tT σ0 σ' → Q σ' (some (vI (if le = 0 then nI (c + cntD (kO A D R p) k x) else lowD (kO A D R p) k x)))) → qm_Wp (qm_M d) qk_103 Q 4 [some (vR 0 0), some (vI (nI p)), some (vI 1), some (vI le), some (vI (nI c)), some (vI (nI x))] [] σ
  | 0, x, c, σ, e, f0, h => by
    have : x = 100 := by omega
    subst this
    refine qm_go 3 (fun P hP => And.intro (fun c => absurd c (by decide)) (fun _ => hP ?_))
    refine qm_go 3 (fun P hP => And.intro (fun _ => hP ?_) (fun c => absurd (by decide) c))
    refine qm_go 2 (fun P hP => And.intro (fun c42 => hP ?_) (fun c42 => hP ?_))
    · refine qm_go 2 (fun P hP => ?_)
      have h := h σ f0
      first
        | (rw [if_pos c42] at h; exact h)
        | (rw [if_neg c42] at h; exact h)
    · refine qm_go 3 (fun P hP => ?_)
      have h := h σ f0
      first
        | (rw [if_pos c42] at h; exact h)
        | (rw [if_neg c42] at h; exact h)
  | k + 1, x, c, σ, e, f0, h => by
    have hn6 := hs.le
    have hp6 : p < 6 := by omega
    unfold cntD lowD at h
    refine qm_go 3 (fun P hP => And.intro (fun c => absurd c (by decide)) (fun _ => hP ?_))
    refine qm_go 3 (fun P hP => And.intro (fun c => absurd c (nI_ge (b := 100) (by omega) (by omega))) (fun _ => hP ?_))
    refine qm_go 5 (fun P hP => c_takes20 (by omega) (hs.tr f0) (hv.tr f0) (fun σ1 f1 s1 v1 => hP ?_))
    refine qm_go 2 (fun P hP => And.intro (fun c => absurd c (by decide)) (fun _ => hP ?_))
    refine qm_go 6 (fun P hP => Exists.intro (p) (And.intro (And.intro (rfl) (hp6)) (hP ?_)))
    refine qm_go 2 (fun P hP => hP ?_)
    generalize hσ : wF _ 13 2 (upd _ p _) = σ2
    have F : Fr (fun t i j => t = 13 ∧ i = 2) σ1 σ2 := by
      rw [← hσ]
      exact Fr.w1 ⟨rfl, rfl⟩
    have s2 : cS 2 σ2 A := s1.fg F (fun t i j q => by unfold pC at q; omega) (by omega)
    have v2 : cV 2 σ2 (oD D p (nI x)) := cV.of (by rw [← hσ, wF_same]; exact v1.o.up p (nI x)) (by rw [F.row (fun j => by omega)]; exact v1.l) (by rw [F.1 _ _ _ (by omega)]; exact v1.d) (by rw [F.1 _ _ _ (by omega)]; exact v1.m)
    have F2 : Fr tT σ0 σ2 := (f0.tr (f1.mono (fun _ _ _ q => tK_T q))).tr (F.mono (fun t i j q => by unfold tT; omega))
    refine qm_go 1 (fun P hP => c_asSeen (A := A) (D := oD D p (nI x)) (by omega) (hr.tr F2) hw s2 v2 hm (fun σ3 f3 z => hP ?_) (fun σ3 f3 z => hP ?_))
    · refine qm_go 1 (fun P hP => And.intro (fun c => absurd c (by decide)) (fun _ => hP ?_))
      refine qm_go 2 (fun P hP => And.intro (fun c35 => hP ?_) (fun c35 => hP ?_))
      · refine qm_go 3 (fun P hP => hP ?_)
        first
          | (have hz : kO A D R p x = true := decide_eq_true z
             rw [nI_1, nI_1]
             exact c_fitO_l hd hp hr hw hs hv hm k (x + 1) (c + 1) σ3 (by omega) (F2.tr f3) (fun σ' f' => by
               have h := h σ' f'
               rw [if_pos c35, if_pos hz] at h
               rw [if_pos c35, show c + 1 + cntD (kO A D R p) k (x + 1) = c + (1 + cntD (kO A D R p) k (x + 1)) by omega]
               exact h))
          | (have hz : kO A D R p x = false := decide_eq_false z
             rw [nI_1]
             exact c_fitO_l hd hp hr hw hs hv hm k (x + 1) c σ3 (by omega) (F2.tr f3) (fun σ' f' => by
               have h := h σ' f'
               rw [if_neg (c := kO A D R p x = true) (by rw [hz]; decide), if_neg (c := kO A D R p x = true) (by rw [hz]; decide), Nat.zero_add] at h
               exact h))
      · refine qm_go 2 (fun P hP => ?_)
        have h := h σ3 (F2.tr f3)
        rw [if_neg c35, if_pos (show kO A D R p x = true from decide_eq_true z)] at h
        exact h
    · refine qm_go 1 (fun P hP => And.intro (fun _ => hP ?_) (fun c => absurd (by decide) c))
      refine qm_go 2 (fun P hP => hP ?_)
      first
        | (have hz : kO A D R p x = true := decide_eq_true z
           rw [nI_1, nI_1]
           exact c_fitO_l hd hp hr hw hs hv hm k (x + 1) (c + 1) σ3 (by omega) (F2.tr f3) (fun σ' f' => by
             have h := h σ' f'
             rw [if_pos c35, if_pos hz] at h
             rw [if_pos c35, show c + 1 + cntD (kO A D R p) k (x + 1) = c + (1 + cntD (kO A D R p) k (x + 1)) by omega]
             exact h))
        | (have hz : kO A D R p x = false := decide_eq_false z
           rw [nI_1]
           exact c_fitO_l hd hp hr hw hs hv hm k (x + 1) c σ3 (by omega) (F2.tr f3) (fun σ' f' => by
             have h := h σ' f'
             rw [if_neg (c := kO A D R p x = true) (by rw [hz]; decide), if_neg (c := kO A D R p x = true) (by rw [hz]; decide), Nat.zero_add] at h
             exact h))
theorem c_fitO {d : Nat} (hd : 8 ≤ d) {σ : qm_Sg} {Q : qm_Po} {A : AS} {D : DD} {R : R9} {p : Nat} {le : Int32} (hp : p < A.1) (hr : cSeen σ R) (hw : wfR A.1 R) (hs : cS 0 σ A) (hv : cV 0 σ D) (hm : D.2.2.2 + 20 < 2 ^ 30) (h : ∀ σ', Fr tT σ σ' → Q σ' (some (vI (if le = 0 then nI (cntD (kO A D R p) 100 0) else lowD (kO A D R p) 100 0)))) : qm_M d 103 [vR 0 0, vI (nI p), vI 1, vI le] σ Q := by
  obtain ⟨d, rfl, hd⟩ := qm_dn hd
  show qm_Wp (qm_M d) qk_103 Q 0 [some (vR 0 0), some (vI (nI p)), some (vI 1), some (vI le), none, none] [] σ
  refine qm_go 4 (fun P hP => hP ?_)
  exact c_fitO_l (by omega) hp hr hw hs hv hm 100 0 0 σ (by omega) Fr.rf (fun σ' f' => by rw [Nat.zero_add]; exact h σ' f')
theorem c_fitV_l {d : Nat} (hd : 7 ≤ d) {σ0 : qm_Sg} {Q : qm_Po} {A : AS} {D : DD} {R : R9} {p : Nat} {le : Int32} (hp : p < A.1) (hr : cSeen σ0 R) (hw : wfR A.1 R) (hs : cS 0 σ0 A) (hv : cV 0 σ0 D) (hm : D.2.2.2 + 20 < 2 ^ 30) : ∀ (k x c : Nat) (σ : qm_Sg), x + k = 10 → Fr tT σ0 σ → (∀ σ', Fr tT σ0 σ' → Q σ' (some (vI (if le = 0 then nI (c + cntD (kV A D R p) k x) else lowD (kV A D R p) k x)))) → qm_Wp (qm_M d) qk_103 Q 4 [some (vR 0 0), some (vI (nI p)), some (vI 0), some (vI le), some (vI (nI c)), some (vI (nI x))] [] σ
  | 0, x, c, σ, e, f0, h => by
    have : x = 10 := by omega
    subst this
    refine qm_go 3 (fun P hP => And.intro (fun _ => hP ?_) (fun c => absurd rfl c))
    refine qm_go 2 (fun P hP => And.intro (fun _ => hP ?_) (fun c => absurd (by decide) c))
    refine qm_go 2 (fun P hP => And.intro (fun c42 => hP ?_) (fun c42 => hP ?_))
    · refine qm_go 2 (fun P hP => ?_)
      have h := h σ f0
      first
        | (rw [if_pos c42] at h; exact h)
        | (rw [if_neg c42] at h; exact h)
    · refine qm_go 3 (fun P hP => ?_)
      have h := h σ f0
      first
        | (rw [if_pos c42] at h; exact h)
        | (rw [if_neg c42] at h; exact h)
  | k + 1, x, c, σ, e, f0, h => by
    have hn6 := hs.le
    have hp6 : p < 6 := by omega
    unfold cntD lowD at h
    refine qm_go 3 (fun P hP => And.intro (fun _ => hP ?_) (fun c => absurd rfl c))
    refine qm_go 2 (fun P hP => And.intro (fun c => absurd c (nI_ge (b := 10) (by omega) (by omega))) (fun _ => hP ?_))
    refine qm_go 5 (fun P hP => c_takes20 (by omega) (hs.tr f0) (hv.tr f0) (fun σ1 f1 s1 v1 => hP ?_))
    refine qm_go 2 (fun P hP => And.intro (fun _ => hP ?_) (fun c => absurd rfl c))
    refine qm_go 6 (fun P hP => Exists.intro (p) (And.intro (And.intro (rfl) (hp6)) (hP ?_)))
    refine qm_go 1 (fun P hP => hP ?_)
    generalize hσ : wF _ 12 2 (upd _ p _) = σ2
    have F : Fr (fun t i j => t = 12 ∧ i = 2) σ1 σ2 := by
      rw [← hσ]
      exact Fr.w1 ⟨rfl, rfl⟩
    have s2 : cS 2 σ2 (vA A p (nI x)) := by
      rw [← hσ]
      exact s1.v (Q6.rf _)
    have v2 : cV 2 σ2 D := v1.fg F (fun t i j q => by omega)
    have F2 : Fr tT σ0 σ2 := (f0.tr (f1.mono (fun _ _ _ q => tK_T q))).tr (F.mono (fun t i j q => by unfold tT; omega))
    refine qm_go 1 (fun P hP => c_asSeen (A := vA A p (nI x)) (D := D) (by omega) (hr.tr F2) hw s2 v2 hm (fun σ3 f3 z => hP ?_) (fun σ3 f3 z => hP ?_))
    · refine qm_go 1 (fun P hP => And.intro (fun c => absurd c (by decide)) (fun _ => hP ?_))
      refine qm_go 2 (fun P hP => And.intro (fun c35 => hP ?_) (fun c35 => hP ?_))
      · refine qm_go 3 (fun P hP => hP ?_)
        first
          | (have hz : kV A D R p x = true := decide_eq_true z
             rw [nI_1, nI_1]
             exact c_fitV_l hd hp hr hw hs hv hm k (x + 1) (c + 1) σ3 (by omega) (F2.tr f3) (fun σ' f' => by
               have h := h σ' f'
               rw [if_pos c35, if_pos hz] at h
               rw [if_pos c35, show c + 1 + cntD (kV A D R p) k (x + 1) = c + (1 + cntD (kV A D R p) k (x + 1)) by omega]
               exact h))
          | (have hz : kV A D R p x = false := decide_eq_false z
             rw [nI_1]
             exact c_fitV_l hd hp hr hw hs hv hm k (x + 1) c σ3 (by omega) (F2.tr f3) (fun σ' f' => by
               have h := h σ' f'
               rw [if_neg (c := kV A D R p x = true) (by rw [hz]; decide), if_neg (c := kV A D R p x = true) (by rw [hz]; decide), Nat.zero_add] at h
               exact h))
      · refine qm_go 2 (fun P hP => ?_)
        have h := h σ3 (F2.tr f3)
        rw [if_neg c35, if_pos (show kV A D R p x = true from decide_eq_true z)] at h
        exact h
    · refine qm_go 1 (fun P hP => And.intro (fun _ => hP ?_) (fun c => absurd (by decide) c))
      refine qm_go 2 (fun P hP => hP ?_)
      first
        | (have hz : kV A D R p x = true := decide_eq_true z
           rw [nI_1, nI_1]
           exact c_fitV_l hd hp hr hw hs hv hm k (x + 1) (c + 1) σ3 (by omega) (F2.tr f3) (fun σ' f' => by
             have h := h σ' f'
             rw [if_pos c35, if_pos hz] at h
             rw [if_pos c35, show c + 1 + cntD (kV A D R p) k (x + 1) = c + (1 + cntD (kV A D R p) k (x + 1)) by omega]
             exact h))
        | (have hz : kV A D R p x = false := decide_eq_false z
           rw [nI_1]
           exact c_fitV_l hd hp hr hw hs hv hm k (x + 1) c σ3 (by omega) (F2.tr f3) (fun σ' f' => by
             have h := h σ' f'
             rw [if_neg (c := kV A D R p x = true) (by rw [hz]; decide), if_neg (c := kV A D R p x = true) (by rw [hz]; decide), Nat.zero_add] at h
             exact h))
theorem c_fitV {d : Nat} (hd : 8 ≤ d) {σ : qm_Sg} {Q : qm_Po} {A : AS} {D : DD} {R : R9} {p : Nat} {le : Int32} (hp : p < A.1) (hr : cSeen σ R) (hw : wfR A.1 R) (hs : cS 0 σ A) (hv : cV 0 σ D) (hm : D.2.2.2 + 20 < 2 ^ 30) (h : ∀ σ', Fr tT σ σ' → Q σ' (some (vI (if le = 0 then nI (cntD (kV A D R p) 10 0) else lowD (kV A D R p) 10 0)))) : qm_M d 103 [vR 0 0, vI (nI p), vI 0, vI le] σ Q := by
  obtain ⟨d, rfl, hd⟩ := qm_dn hd
  show qm_Wp (qm_M d) qk_103 Q 0 [some (vR 0 0), some (vI (nI p)), some (vI 0), some (vI le), none, none] [] σ
  refine qm_go 4 (fun P hP => hP ?_)
  exact c_fitV_l (by omega) hp hr hw hs hv hm 10 0 0 σ (by omega) Fr.rf (fun σ' f' => by rw [Nat.zero_add]; exact h σ' f')
