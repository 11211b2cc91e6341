def mn9 (x : Int32) : Int32 := if x < 9999 then x else 9999
def nxtA (aw : Int32) : Nat → Nat → Option Nat
  | 0, _ => none
  | k + 1, q => if isAw aw q then nxtA aw k (q + 1) else some q
def nxI (o : Option Nat) : Int32 := match o with
  | none => -5
  | some q => nI q
theorem nxtA_lt {aw : Int32} : ∀ (k q r : Nat), nxtA aw k q = some r → q ≤ r ∧ r < q + k
  | 0, _, _, h => by cases h
  | k + 1, q, r, h => by
    unfold nxtA at h
    split at h
    · have := nxtA_lt k (q + 1) r h
      omega
    · cases h
      omega
/-- owed, lived, deep, morning -/
abbrev DD : Type := (Nat → Int32) × (Nat → Int32) × Int32 × Nat
def fxD (kd vv : Nat → Int32) (D : DD) (p : Nat) : Nat → Int32
  | 0 => nI p
  | 1 => kd p
  | 2 => vv p
  | 3 => D.1 p / 10
  | 4 => D.2.1 p / 10
  | _ => nI D.2.2.2 - nI D.2.2.2 / 10 * 10
def boyD (D : DD) (p : Nat) (s : Int32) : Int32 := s - (if D.2.1 p / 10 < 9 then D.2.1 p / 10 else 9)
def urgD (kd vv rw9 : Nat → Int32) (D : DD) (p : Nat) (s : Int32) : Int32 :=
  if kd p = 1 then s + vv p else if kd p = 2 then s / 2 else if kd p = 3 then boyD D p s
  else if kd p = 4 then (if D.1 p = 0 then (s + vv p) * 2 else s + vv p)
  else if kd p = 5 then (if nI D.2.2.2 - nI D.2.2.2 / 7 * 7 = 6 then 0 else s / 2)
  else if kd p = 6 then boyD D p s + rw9 (p * 4 + D.2.2.2 % 4) else s
def snz (u : Int32) : Int32 := if u < 0 then 0 else if u < 60 then u else 60
def comeD (n : Nat) (aw : Int32) (p : Nat) (x : Int32) (D : DD) : DD := match nxtA aw (n - (p + 1)) (p + 1) with
  | none => (D.1, D.2.1, mn9 (D.2.2.1 + x), D.2.2.2)
  | some q => (upd D.1 q (mn9 (D.1 q + x)), D.2.1, D.2.2.1, D.2.2.2)
def doneD (D : DD) (p : Nat) : Int32 := if D.1 p < 30 then D.1 p else 30
def workD (p : Nat) (D : DD) : DD := (upd D.1 p (D.1 p - doneD D p), upd D.2.1 p (mn9 (D.2.1 p + doneD D p)), D.2.2.1, D.2.2.2)
def restD (n : Nat) (aw br : Int32) (p : Nat) (D : DD) : DD := if D.1 p ≤ br then D else
  (upd (comeD n aw p (D.1 p - br) D).1 p br, (comeD n aw p (D.1 p - br) D).2)
def wakeD (n : Nat) (kd vv rw9 : Nat → Int32) (aw : Int32) (S : (Nat → Int32) → Int32) (br : Int32) (p : Nat) (D : DD) : DD :=
  restD n aw br p (workD p (comeD n aw p (snz (urgD kd vv rw9 D p (S (fxD kd vv D p)))) D))
def dayD (n : Nat) (kd vv rw9 : Nat → Int32) (aw : Int32) (S : (Nat → Int32) → Int32) (br : Int32) : Nat → Nat → DD → DD
  | 0, _, D => D
  | k + 1, p, D => dayD n kd vv rw9 aw S br k (p + 1) (if isAw aw p then D else wakeD n kd vv rw9 aw S br p D)
def oneD (n : Nat) (kd vv rw9 : Nat → Int32) (aw : Int32) (S : (Nat → Int32) → Int32) (br : Int32) (D : DD) : DD :=
  ((dayD n kd vv rw9 aw S br n 0 D).1, (dayD n kd vv rw9 aw S br n 0 D).2.1, (dayD n kd vv rw9 aw S br n 0 D).2.2.1, D.2.2.2 + 1)
def goD (n : Nat) (kd vv rw9 : Nat → Int32) (aw : Int32) (S : (Nat → Int32) → Int32) (br : Int32) : Nat → DD → DD
  | 0, D => D
  | k + 1, D => goD n kd vv rw9 aw S br k (oneD n kd vv rw9 aw S br D)
theorem comeD_m (n : Nat) (aw : Int32) (p : Nat) (x : Int32) (D : DD) : (comeD n aw p x D).2.2.2 = D.2.2.2 := by unfold comeD; split <;> rfl
theorem restD_m (n : Nat) (aw br : Int32) (p : Nat) (D : DD) : (restD n aw br p D).2.2.2 = D.2.2.2 := by
  unfold restD
  split
  · rfl
  · exact comeD_m _ _ _ _ _
theorem wakeD_m {n : Nat} {kd vv rw9 : Nat → Int32} {aw : Int32} {S : (Nat → Int32) → Int32} {br : Int32} (p : Nat) (D : DD) : (wakeD n kd vv rw9 aw S br p D).2.2.2 = D.2.2.2 := by
  unfold wakeD
  rw [restD_m]
  exact comeD_m _ _ _ _ _
theorem dayD_m {n : Nat} {kd vv rw9 : Nat → Int32} {aw : Int32} {S : (Nat → Int32) → Int32} {br : Int32} : ∀ (k p : Nat) (D : DD), (dayD n kd vv rw9 aw S br k p D).2.2.2 = D.2.2.2
  | 0, _, _ => rfl
  | k + 1, p, D => by
    unfold dayD
    rw [dayD_m k]
    split
    · rfl
    · exact wakeD_m p D
theorem goD_m {n : Nat} {kd vv rw9 : Nat → Int32} {aw : Int32} {S : (Nat → Int32) → Int32} {br : Int32} : ∀ (k : Nat) (D : DD), (goD n kd vv rw9 aw S br k D).2.2.2 = D.2.2.2 + k
  | 0, _ => rfl
  | k + 1, D => by
    unfold goD
    rw [goD_m k]
    show D.2.2.2 + 1 + k = _
    omega
theorem goD_add {n : Nat} {kd vv rw9 : Nat → Int32} {aw : Int32} {S : (Nat → Int32) → Int32} {br : Int32} : ∀ (a b : Nat) (D : DD), goD n kd vv rw9 aw S br (a + b) D = goD n kd vv rw9 aw S br b (goD n kd vv rw9 aw S br a D)
  | 0, b, D => by rw [Nat.zero_add]; rfl
  | a + 1, b, D => by
    rw [show a + 1 + b = (a + b) + 1 by omega]
    show goD n kd vv rw9 aw S br (a + b) (oneD n kd vv rw9 aw S br D) = _
    rw [goD_add a b]
    rfl
theorem snz_eq (u : Int32) : (if 0 < (if u < 60 then u else 60) then (if u < 60 then u else 60) else 0) = snz u := by
  have z0 : (0 : Int32).toInt = 0 := rfl
  have z6 : (60 : Int32).toInt = 60 := rfl
  unfold snz
  by_cases h : u < 0
  · have h2 : u < 60 := by rw [i_lt] at h ⊢; omega
    rw [if_pos h, if_pos h2, if_neg (by rw [i_lt] at h ⊢; omega)]
  · rw [if_neg h]
    by_cases h2 : u < 60
    · rw [if_pos h2]
      by_cases h3 : 0 < u
      · rw [if_pos h3]
      · rw [if_neg h3]
        exact i_eq.mpr (by rw [i_lt] at h h3; omega)
    · rw [if_neg h2, if_pos (by decide)]
/-- clauses: word, number, tokens; a token: 0 not, 1 and, 2 or, 3 and more a test -/
abbrev CT9 : Type := List (Nat × Nat × List Nat)
def tstT (k : Nat) (x : Nat → Int32) : Bool :=
  if k / 100 % 3 = 0 then decide (x (k / 300) < nI (k % 100)) else if k / 100 % 3 = 1 then decide (x (k / 300) = nI (k % 100)) else decide (nI (k % 100) < x (k / 300))
def ev1 (x : Nat → Int32) : Nat → List Bool → List Bool
  | 0, b :: s => (!b) :: s
  | 1, b :: a :: s => (a && b) :: s
  | 2, b :: a :: s => (a || b) :: s
  | k + 3, s => tstT k x :: s
  | _, s => s
def evT (x : Nat → Int32) : List Nat → List Bool → List Bool
  | [], s => s
  | t :: ts, s => evT x ts (ev1 x t s)
def wfT : List Nat → Nat → Nat → Prop
  | [], h, e => h = e
  | 0 :: ts, h, e => 1 ≤ h ∧ wfT ts h e
  | 1 :: ts, h, e => 2 ≤ h ∧ wfT ts (h - 1) e
  | 2 :: ts, h, e => 2 ≤ h ∧ wfT ts (h - 1) e
  | (k + 3) :: ts, h, e => k < 1800 ∧ h < 25 ∧ wfT ts (h + 1) e
def holdT (x : Nat → Int32) (ts : List Nat) : Bool := (evT x ts []).headD false
def sumC (x : Nat → Int32) : CT9 → Int32 → Int32
  | [], a => a
  | (w, n, ts) :: l, a => sumC x l (if w = 2 then a else if holdT x ts then (if w = 0 then a + nI n else a + -nI n) else a)
def bearC : CT9 → Nat → Nat
  | [], a => a
  | (w, n, _) :: l, a => bearC l (if w = 2 then n else a)
def wfC (c : CT9) : Prop := c.length ≤ 10 ∧ ∀ q ∈ c, q.1 < 3 ∧ q.2.1 < 100 ∧ (q.1 ≠ 2 → wfT q.2.2 0 1)
def endC : CT9 → Nat → Nat
  | _, 0 => 0
  | [], _ => 0
  | q :: l, k + 1 => q.2.2.length + endC l k
def cEn : Nat → Int32
  | 0 => -3
  | 1 => -1
  | 2 => -2
  | k + 3 => nI k
def mEn : Nat → Int32
  | 0 => -33
  | 1 => -38
  | 2 => -124
  | k + 3 => nI (1000 * (k / 300) + 100 * (k / 100 % 3) + k % 100)
/-- the class's street s is these clauses -/
def cRep (σ : qm_Sg) (s : Nat) (c : CT9) : Prop := σ.1 28 s 3 = nI c.length ∧ σ.1 28 s 6 = nI (bearC c 40) ∧ endC c c.length ≤ 100 ∧
  ∀ (i : Nat) (q : Nat × Nat × List Nat), c[i]? = some q → σ.1 29 s i = nI q.1 ∧ σ.1 30 s i = nI q.2.1 ∧ σ.1 31 s i = nI (endC c (i + 1)) ∧ ∀ (k t : Nat), q.2.2[k]? = some t → σ.1 32 s (endC c i + k) = cEn t
