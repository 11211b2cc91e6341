-- class mornings
theorem rowIx {p m : Nat} (hm : m < 2 ^ 30) : nI p * 4 + (nI m - nI m / 4 * 4) = nI (p * 4 + m % 4) := by
  have h1 : (4 : Int32) = nI 4 := rfl
  rw [h1, pk_rem (by omega) (by decide) (by decide), pk_mul, nI_add]
theorem c_nextOf_l {d : Nat} (hd : 1 ≤ d) {σ : qm_Sg} {Q : qm_Po} {n X : Nat} {aw : Int32} (hn : n ≤ 6) (hs : σ.1 10 X 2 = nI n) (ha : σ.1 10 X 7 = aw) {a : Int32} : ∀ (k q : Nat), q + k = n → Q σ (some (vI (nxI (nxtA aw k q)))) → qm_Wp (qm_M d) qk_29 Q 4 [some (vR 10 X), some (vI a), some (vI (nI q))] [] σ
  | 0, q, e, h => by
    refine qm_go 4 (fun P hP => And.intro (fun _ => hP ?_) (fun c => absurd (by rw [hs]; exact nI_le (by omega) (by omega)) c))
    refine qm_go 2 (fun P hP => h)
  | k + 1, q, e, h => by
    unfold nxtA at h
    refine qm_go 4 (fun P hP => And.intro (fun c => absurd c (by rw [hs]; exact nI_ge (by omega) (by omega))) (fun _ => hP ?_))
    refine qm_go 3 (fun P hP => c_isAway hd (fun c => hP ?_) (fun c => hP ?_))
    · refine qm_go 1 (fun P hP => And.intro (fun _ => hP ?_) (fun c => absurd c (by decide)))
      refine qm_go 2 (fun P hP => hP ?_)
      rw [ha] at c; rw [if_pos c] at h; rw [nI_1]; exact c_nextOf_l hd hn hs ha k (q + 1) (by omega) h
    · refine qm_go 1 (fun P hP => And.intro (fun c => absurd (by decide) c) (fun _ => hP ?_))
      refine qm_go 2 (fun P hP => ?_)
      rw [ha] at c; rw [if_neg c] at h; exact h
theorem c_nextOf {d : Nat} (hd : 2 ≤ d) {σ : qm_Sg} {Q : qm_Po} {n X p : Nat} {aw : Int32} (hn : n ≤ 6) (hp : p < n) (hs : σ.1 10 X 2 = nI n) (ha : σ.1 10 X 7 = aw) (h : Q σ (some (vI (nxI (nxtA aw (n - (p + 1)) (p + 1)))))) : qm_M d 29 [vR 10 X, vI (nI p)] σ Q := by
  obtain ⟨d, rfl, hd⟩ := qm_dn hd
  show qm_Wp (qm_M d) qk_29 Q 0 [some (vR 10 X), some (vI (nI p)), none] [] σ
  refine qm_go 4 (fun P hP => hP ?_)
  rw [nI_1]; exact c_nextOf_l (by omega) hn hs ha (n - (p + 1)) (p + 1) (by omega) h
theorem c_comesFrom {d : Nat} (hd : 3 ≤ d) {σ : qm_Sg} {Q : qm_Po} {n X p : Nat} {aw x : Int32} {D : DD} (hn : n ≤ 6) (hp : p < n) (hs : σ.1 10 X 2 = nI n) (ha : σ.1 10 X 7 = aw) (hv : vD X σ D) (h : ∀ σ', Fr (tC X) σ σ' → vD X σ' (comeD n aw p x D) → Q σ' none) : qm_M d 30 [vR 10 X, vI (nI p), vI x] σ Q := by
  obtain ⟨d, rfl, hd⟩ := qm_dn hd
  show qm_Wp (qm_M d) qk_30 Q 0 [some (vR 10 X), some (vI (nI p)), some (vI x), none] [] σ
  refine qm_go 3 (fun P hP => c_nextOf (by omega) hn hp hs ha (hP ?_))
  unfold comeD at h
  cases hz : nxtA aw (n - (p + 1)) (p + 1) with
  | none =>
    rw [hz] at h
    refine qm_go 4 (fun P hP => And.intro (fun c => absurd rfl c) (fun _ => hP ?_))
    refine qm_go 10 (fun P hP => h _ (Fr.w1 (Or.inr ⟨rfl, Or.inr (Or.inr ⟨rfl, Or.inl rfl⟩)⟩)) ⟨by rw [wF_ne _ _ (by omega)]; exact hv.1, by rw [wF_ne _ _ (by omega)]; exact hv.2.1, by rw [wv_same, hv.2.2.1]; rfl, by rw [wv_ne (by decide)]; exact hv.2.2.2⟩)
  | some r =>
    rw [hz] at h
    have hr := nxtA_lt _ _ _ hz
    refine qm_go 4 (fun P hP => And.intro (fun _ => hP ?_) (fun c => absurd c (show ¬ nI r = -5 by rw [i_eq, nI_toInt (by omega)]; show ¬ ((r : Int) = -5); omega)))
    refine qm_go 8 (fun P hP => Exists.intro (r) (And.intro (And.intro (rfl) ((show r < 6 by omega))) (hP ?_)))
    refine qm_go 4 (fun P hP => Exists.intro (r) (And.intro (And.intro (rfl) ((show r < 6 by omega))) (hP ?_)))
    refine qm_go 1 (fun P hP => h _ (Fr.w1 (Or.inr ⟨rfl, Or.inl rfl⟩)) ⟨by rw [wF_same, hv.1]; rfl, by rw [wF_ne _ _ (by omega)]; exact hv.2.1, by rw [wF_ne _ _ (by omega)]; exact hv.2.2.1, by rw [wF_ne _ _ (by omega)]; exact hv.2.2.2⟩)
theorem c_bear {d : Nat} (hd : 1 ≤ d) {σ : qm_Sg} {Q : qm_Po} {X : Nat} {S : (Nat → Int32) → Int32} {br : Int32} (hc : cSt X σ S br) (h : Q σ (some (vI br))) : qm_M d 27 [vR 10 X] σ Q := by
  obtain ⟨d, rfl, hd⟩ := qm_dn hd
  show qm_Wp (qm_M d) qk_27 Q 0 [some (vR 10 X)] [] σ
  rcases hc with ⟨h1, h2, rfl⟩ | ⟨s, c, h1, h2, h3, h4, h5, rfl⟩
  · refine qm_go 4 (fun P hP => And.intro (fun c => absurd h1 c) (fun _ => hP ?_))
    refine qm_go 3 (fun P hP => h)
  · refine qm_go 4 (fun P hP => And.intro (fun _ => hP ?_) (fun c => absurd (h2.symm.trans c) (by rw [i_eq, nI_toInt (by omega)]; show ¬ ((s : Int) = -1); omega)))
    refine qm_go 5 (fun P hP => Exists.intro s (And.intro (And.intro h2 (show s < 6 from h1)) (hP ?_)))
    refine qm_go 2 (fun P hP => ?_)
    show Q σ (some (vI (σ.1 28 s 6)))
    rw [h3.2.1]
    exact h
theorem c_urge6 {d : Nat} (hd : 1 ≤ d) {σ : qm_Sg} {Q : qm_Po} {t X : Nat} {a s : Int32} (h : Q σ (some (vI s))) : qm_M d 41 [vR t 0, vR 10 X, vI a, vI s] σ Q := by
  obtain ⟨d, rfl, hd⟩ := qm_dn hd
  show qm_Wp (qm_M d) qk_41 Q 0 [some (vR t 0), some (vR 10 X), some (vI a), some (vI s)] [] σ
  refine qm_go 2 (fun P hP => h)
theorem c_urge3 {d : Nat} (hd : 1 ≤ d) {σ : qm_Sg} {Q : qm_Po} {t X p : Nat} {s : Int32} (hp : p < 6) (h : Q σ (some (vI (s + σ.1 12 X p)))) : qm_M d 34 [vR t 0, vR 10 X, vI (nI p), vI s] σ Q := by
  obtain ⟨d, rfl, hd⟩ := qm_dn hd
  show qm_Wp (qm_M d) qk_34 Q 0 [some (vR t 0), some (vR 10 X), some (vI (nI p)), some (vI s)] [] σ
  refine qm_go 5 (fun P hP => Exists.intro (_) (And.intro (And.intro (rfl) (hp)) (hP ?_)))
  refine qm_go 2 (fun P hP => h)
theorem c_urge1 {d : Nat} (hd : 1 ≤ d) {σ : qm_Sg} {Q : qm_Po} {t X : Nat} {a s : Int32} (h : Q σ (some (vI (s / 2)))) : qm_M d 19 [vR t 0, vR 10 X, vI a, vI s] σ Q := by
  obtain ⟨d, rfl, hd⟩ := qm_dn hd
  show qm_Wp (qm_M d) qk_19 Q 0 [some (vR t 0), some (vR 10 X), some (vI a), some (vI s)] [] σ
  refine qm_go 3 (fun P hP => And.intro (by decide) (hP ?_))
  refine qm_go 1 (fun P hP => h)
theorem c_urge0 {d : Nat} (hd : 1 ≤ d) {σ : qm_Sg} {Q : qm_Po} {t X p : Nat} {s : Int32} (hp : p < 6) (h : Q σ (some (vI (s - (if σ.1 14 X p / 10 < 9 then σ.1 14 X p / 10 else 9))))) : qm_M d 17 [vR t 0, vR 10 X, vI (nI p), vI s] σ Q := by
  obtain ⟨d, rfl, hd⟩ := qm_dn hd
  show qm_Wp (qm_M d) qk_17 Q 0 [some (vR t 0), some (vR 10 X), some (vI (nI p)), some (vI s), none] [] σ
  refine qm_go 4 (fun P hP => Exists.intro (_) (And.intro (And.intro (rfl) (hp)) (hP ?_)))
  refine qm_go 2 (fun P hP => And.intro (by decide) (hP ?_))
  refine qm_go 5 (fun P hP => And.intro (fun c10 => hP ?_) (fun c10 => hP ?_))
  · refine qm_go 3 (fun P hP => ?_)
    first | (rw [if_neg (i_nlt c10)] at h; exact h) | (rw [if_pos (i_lt_of c10)] at h; exact h)
  · refine qm_go 4 (fun P hP => ?_)
    first | (rw [if_neg (i_nlt c10)] at h; exact h) | (rw [if_pos (i_lt_of c10)] at h; exact h)
theorem c_urge4 {d : Nat} (hd : 2 ≤ d) {σ : qm_Sg} {Q : qm_Po} {X p : Nat} {s : Int32} (hp : p < 6) (h : Q σ (some (vI (if σ.1 13 X p = 0 then (s + σ.1 12 X p) * 2 else s + σ.1 12 X p)))) : qm_M d 36 [vR 38 0, vR 10 X, vI (nI p), vI s] σ Q := by
  obtain ⟨d, rfl, hd⟩ := qm_dn hd
  show qm_Wp (qm_M d) qk_36 Q 0 [some (vR 38 0), some (vR 10 X), some (vI (nI p)), some (vI s), none] [] σ
  refine qm_go 5 (fun P hP => c_urge3 (by omega) hp (hP ?_))
  refine qm_go 5 (fun P hP => Exists.intro (_) (And.intro (And.intro (rfl) (hp)) (hP ?_)))
  refine qm_go 1 (fun P hP => And.intro (fun c10 => hP ?_) (fun c10 => hP ?_))
  · refine qm_go 2 (fun P hP => ?_)
    first | (rw [if_neg c10] at h; exact h) | (rw [if_pos c10] at h; exact h)
  · refine qm_go 5 (fun P hP => ?_)
    first | (rw [if_neg c10] at h; exact h) | (rw [if_pos c10] at h; exact h)
theorem c_urge5 {d : Nat} (hd : 2 ≤ d) {σ : qm_Sg} {Q : qm_Po} {X : Nat} {a s : Int32} (h : Q σ (some (vI (if σ.1 10 X 10 - σ.1 10 X 10 / 7 * 7 = 6 then 0 else s / 2)))) : qm_M d 39 [vR 39 0, vR 10 X, vI a, vI s] σ Q := by
  obtain ⟨d, rfl, hd⟩ := qm_dn hd
  show qm_Wp (qm_M d) qk_39 Q 0 [some (vR 39 0), some (vR 10 X), some (vI a), some (vI s)] [] σ
  refine qm_go 4 (fun P hP => And.intro (by decide) (hP ?_))
  refine qm_go 2 (fun P hP => And.intro (fun c5 => hP ?_) (fun c5 => hP ?_))
  · refine qm_go 5 (fun P hP => c_urge1 (by omega) (hP ?_))
    refine qm_go 1 (fun P hP => ?_)
    first | (rw [if_neg c5] at h; exact h) | (rw [if_pos c5] at h; exact h)
  · refine qm_go 3 (fun P hP => ?_)
    first | (rw [if_neg c5] at h; exact h) | (rw [if_pos c5] at h; exact h)
theorem c_urge9 {d : Nat} (hd : 2 ≤ d) {σ : qm_Sg} {Q : qm_Po} {X p m : Nat} {s : Int32} (hp : p < 6) (hm : m < 2 ^ 30) (he : σ.1 10 X 10 = nI m) (h : Q σ (some (vI (s - (if σ.1 14 X p / 10 < 9 then σ.1 14 X p / 10 else 9) + σ.1 15 X (p * 4 + m % 4))))) : qm_M d 59 [vR 40 0, vR 10 X, vI (nI p), vI s] σ Q := by
  obtain ⟨d, rfl, hd⟩ := qm_dn hd
  show qm_Wp (qm_M d) qk_59 Q 0 [some (vR 40 0), some (vR 10 X), some (vI (nI p)), some (vI s)] [] σ
  refine qm_go 5 (fun P hP => c_urge0 (by omega) hp (hP ?_))
  refine qm_go 9 (fun P hP => And.intro (by decide) (hP ?_))
  refine qm_go 2 (fun P hP => Exists.intro (p * 4 + m % 4) (And.intro (And.intro (by rw [he]; exact rowIx hm) ((show p * 4 + m % 4 < 24 by omega))) (hP ?_)))
  refine qm_go 2 (fun P hP => h)
