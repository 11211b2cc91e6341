theorem c_holds {d : Nat} (hd : 1 ≤ d) {σ : qm_Sg} {Q : qm_Po} {s a b : Nat} {x : Nat → Int32} {ts : List Nat} (hs : s < 6) (hb : b ≤ 100) (hx : ∀ j, j < 6 → σ.1 33 s j = x j) (hab : a + ts.length = b) (hk : ∀ k t, ts[k]? = some t → σ.1 32 s (a + k) = cEn t) (hw : wfT ts 0 1) (h1 : holdT x ts = true → Q σ (some (vI 1))) (h0 : holdT x ts = false → Q σ (some (vI 0))) : qm_M d 58 [vR 28 s, vI (nI a), vI (nI b)] σ Q := by
  obtain ⟨d, rfl, hd⟩ := qm_dn hd
  show qm_Wp (qm_M d) qk_58 Q 0 [some (vR 28 s), some (vI (nI a)), some (vI (nI b)), none, none, none, none, none, none, none] [] σ
  refine qm_go 4 (fun P hP => hP ?_)
  exact c_holds_l hs hb hx ts [] a _ _ _ _ _ hab hk hw (by simp) h1 h0
theorem endC_succ : ∀ (c : CT9) (i : Nat) (q : Nat × Nat × List Nat), c[i]? = some q → endC c (i + 1) = endC c i + q.2.2.length
  | [], _, _, h => by cases h
  | q :: l, 0, r, h => by
    cases h
    show q.2.2.length + endC l 0 = endC (q :: l) 0 + q.2.2.length
    have : endC l 0 = 0 := by cases l <;> rfl
    rw [this]
    show _ = 0 + _
    omega
  | q :: l, i + 1, r, h => by
    have := endC_succ l i r h
    show q.2.2.length + endC l (i + 1) = q.2.2.length + endC l i + r.2.2.length
    omega
theorem endC_mono : ∀ (c : CT9) (i k : Nat), i ≤ k → endC c i ≤ endC c k
  | [], i, k, _ => by
    have : endC [] i = 0 := by cases i <;> rfl
    omega
  | q :: l, 0, k, _ => Nat.zero_le _
  | q :: l, i + 1, k + 1, h => by
    have := endC_mono l i k (by omega)
    show q.2.2.length + endC l i ≤ q.2.2.length + endC l k
    omega
theorem c_sumOf_l {d : Nat} (hd : 1 ≤ d) {σ : qm_Sg} {Q : qm_Po} {s : Nat} {a1' : qm_AV} {a2' : Int32} {x : Nat → Int32} {c : CT9} (hs : s < 6) (hr : cRep σ s c) (hw : wfC c) (hx : ∀ j, j < 6 → σ.1 33 s j = x j) : ∀ (l : CT9) (i : Nat) (a : Int32), c.drop i = l → i ≤ c.length → Q σ (some (vI (sumC x l a))) → qm_Wp (qm_M d) qk_57 Q 55 [some (vR 28 s), some a1', some (vI a2'), some (vI a), some (vI (nI (endC c i))), some (vI (nI i))] [] σ
  | [], i, a, e, hi, h => by
    have hl : c.length = i := by have := List.drop_eq_nil_iff.mp e; omega
    have h10 := hw.1
    refine qm_go 4 (fun P hP => And.intro (fun _ => hP ?_) (fun c => absurd (by rw [hr.1]; exact nI_le (by omega) (by omega)) c))
    refine qm_go 2 (fun P hP => h)
  | q :: l, i, a, e, hi, h => by
    have hq : c[i]? = some q := by rw [← List.head?_drop, e]; rfl
    have hl : i < c.length := (List.getElem?_eq_some_iff.mp hq).1
    have h10 := hw.1
    obtain ⟨b1, b2, b3, b4⟩ := hr.2.2.2 i q hq
    have e2 : c.drop (i + 1) = l := by rw [← List.drop_drop, e]; rfl
    obtain ⟨w1, w2, w3⟩ := hw.2 q (List.mem_of_getElem? hq)
    have es := endC_succ c i q hq
    have em := endC_mono c (i + 1) c.length (by omega)
    have e100 := hr.2.2.1
    obtain ⟨w, nn, ts⟩ := q
    unfold sumC at h
    simp only at b1 b2 b3 b4 w1 w2 w3 es
    refine qm_go 4 (fun P hP => And.intro (fun c => absurd c (by rw [hr.1]; exact nI_ge (by omega) (by omega))) (fun _ => hP ?_))
    refine qm_go 4 (fun P hP => Exists.intro (i) (And.intro (And.intro (rfl) ((show i < 10 by omega))) (hP ?_)))
    refine qm_go 2 (fun P hP => And.intro (fun c64 => hP ?_) (fun c64 => hP ?_))
    · refine qm_go 4 (fun P hP => Exists.intro (i) (And.intro (And.intro (rfl) ((show i < 10 by omega))) (hP ?_)))
      refine qm_go 3 (fun P hP => hP ?_)
      rw [nI_1, b3]
      first
        | (rw [b1] at c64; rw [if_pos ((nI_eq (by omega) (by decide)).mp c64)] at h; exact c_sumOf_l hd hs hr hw hx l (i + 1) a e2 (by omega) h)
        | (rw [b1] at c64; rw [if_neg (fun z => c64 (by rw [z]; rfl)), cf] at h; exact c_sumOf_l hd hs hr hw hx l (i + 1) a e2 (by omega) h)
        | (rw [b1] at c64; rw [if_neg (fun z => c64 (by rw [z]; rfl)), ct] at h
           rw [b1] at c78
           first
             | (rw [b2]; have h : Q σ (some (vI (sumC x l (a + -nI nn)))) := by
                  rw [if_pos rfl, if_neg (fun z => c78 (by rw [z]; rfl))] at h
                  exact h
                exact c_sumOf_l hd hs hr hw hx l (i + 1) _ e2 (by omega) h)
             | (rw [b2]; have h : Q σ (some (vI (sumC x l (a + nI nn)))) := by
                  rw [if_pos rfl, if_pos ((nI_eq (by omega) (by decide)).mp c78)] at h
                  exact h
                exact c_sumOf_l hd hs hr hw hx l (i + 1) _ e2 (by omega) h))
    · refine qm_go 6 (fun P hP => Exists.intro (i) (And.intro (And.intro (rfl) ((show i < 10 by omega))) (hP ?_)))
      rw [b3]
      refine qm_go 1 (fun P hP => c_holds (ts := ts) (x := x) hd hs (by omega) hx (by omega) b4 (w3 (fun z => c64 (by rw [b1, z]; rfl))) (fun ct => hP ?_) (fun cf => hP ?_))
      · refine qm_go 1 (fun P hP => And.intro (fun c => absurd c (by decide)) (fun _ => hP ?_))
        refine qm_go 5 (fun P hP => Exists.intro (i) (And.intro (And.intro (rfl) ((show i < 10 by omega))) (hP ?_)))
        refine qm_go 1 (fun P hP => And.intro (fun c78 => hP ?_) (fun c78 => hP ?_))
        · refine qm_go 4 (fun P hP => Exists.intro (i) (And.intro (And.intro (rfl) ((show i < 10 by omega))) (hP ?_)))
          refine qm_go 7 (fun P hP => Exists.intro (i) (And.intro (And.intro (rfl) ((show i < 10 by omega))) (hP ?_)))
          refine qm_go 3 (fun P hP => hP ?_)
          rw [nI_1, b3]
          first
            | (rw [b1] at c64; rw [if_pos ((nI_eq (by omega) (by decide)).mp c64)] at h; exact c_sumOf_l hd hs hr hw hx l (i + 1) a e2 (by omega) h)
            | (rw [b1] at c64; rw [if_neg (fun z => c64 (by rw [z]; rfl)), cf] at h; exact c_sumOf_l hd hs hr hw hx l (i + 1) a e2 (by omega) h)
            | (rw [b1] at c64; rw [if_neg (fun z => c64 (by rw [z]; rfl)), ct] at h
               rw [b1] at c78
               first
                 | (rw [b2]; have h : Q σ (some (vI (sumC x l (a + -nI nn)))) := by
                      rw [if_pos rfl, if_neg (fun z => c78 (by rw [z]; rfl))] at h
                      exact h
                    exact c_sumOf_l hd hs hr hw hx l (i + 1) _ e2 (by omega) h)
                 | (rw [b2]; have h : Q σ (some (vI (sumC x l (a + nI nn)))) := by
                      rw [if_pos rfl, if_pos ((nI_eq (by omega) (by decide)).mp c78)] at h
                      exact h
                    exact c_sumOf_l hd hs hr hw hx l (i + 1) _ e2 (by omega) h))
        · refine qm_go 4 (fun P hP => Exists.intro (i) (And.intro (And.intro (rfl) ((show i < 10 by omega))) (hP ?_)))
          refine qm_go 7 (fun P hP => Exists.intro (i) (And.intro (And.intro (rfl) ((show i < 10 by omega))) (hP ?_)))
          refine qm_go 3 (fun P hP => hP ?_)
          rw [nI_1, b3]
          first
            | (rw [b1] at c64; rw [if_pos ((nI_eq (by omega) (by decide)).mp c64)] at h; exact c_sumOf_l hd hs hr hw hx l (i + 1) a e2 (by omega) h)
            | (rw [b1] at c64; rw [if_neg (fun z => c64 (by rw [z]; rfl)), cf] at h; exact c_sumOf_l hd hs hr hw hx l (i + 1) a e2 (by omega) h)
            | (rw [b1] at c64; rw [if_neg (fun z => c64 (by rw [z]; rfl)), ct] at h
               rw [b1] at c78
               first
                 | (rw [b2]; have h : Q σ (some (vI (sumC x l (a + -nI nn)))) := by
                      rw [if_pos rfl, if_neg (fun z => c78 (by rw [z]; rfl))] at h
                      exact h
                    exact c_sumOf_l hd hs hr hw hx l (i + 1) _ e2 (by omega) h)
                 | (rw [b2]; have h : Q σ (some (vI (sumC x l (a + nI nn)))) := by
                      rw [if_pos rfl, if_pos ((nI_eq (by omega) (by decide)).mp c78)] at h
                      exact h
                    exact c_sumOf_l hd hs hr hw hx l (i + 1) _ e2 (by omega) h))
      · refine qm_go 1 (fun P hP => And.intro (fun _ => hP ?_) (fun c => absurd (by decide) c))
        refine qm_go 4 (fun P hP => Exists.intro (i) (And.intro (And.intro (rfl) ((show i < 10 by omega))) (hP ?_)))
        refine qm_go 3 (fun P hP => hP ?_)
        rw [nI_1, b3]
        first
          | (rw [b1] at c64; rw [if_pos ((nI_eq (by omega) (by decide)).mp c64)] at h; exact c_sumOf_l hd hs hr hw hx l (i + 1) a e2 (by omega) h)
          | (rw [b1] at c64; rw [if_neg (fun z => c64 (by rw [z]; rfl)), cf] at h; exact c_sumOf_l hd hs hr hw hx l (i + 1) a e2 (by omega) h)
          | (rw [b1] at c64; rw [if_neg (fun z => c64 (by rw [z]; rfl)), ct] at h
             rw [b1] at c78
             first
               | (rw [b2]; have h : Q σ (some (vI (sumC x l (a + -nI nn)))) := by
                    rw [if_pos rfl, if_neg (fun z => c78 (by rw [z]; rfl))] at h
                    exact h
                  exact c_sumOf_l hd hs hr hw hx l (i + 1) _ e2 (by omega) h)
               | (rw [b2]; have h : Q σ (some (vI (sumC x l (a + nI nn)))) := by
                    rw [if_pos rfl, if_pos ((nI_eq (by omega) (by decide)).mp c78)] at h
                    exact h
                  exact c_sumOf_l hd hs hr hw hx l (i + 1) _ e2 (by omega) h))
theorem c_sumOf {d : Nat} (hd : 3 ≤ d) {σ : qm_Sg} {Q : qm_Po} {s X p : Nat} {c : CT9} (hs : s < 6) (hp : p < 6) (hr : cRep σ s c) (hw : wfC c) {kd vv : Nat → Int32} {D : DD} (hkd : σ.1 11 X = kd) (hvv : σ.1 12 X = vv) (hv : vD X σ D) (h : ∀ σ', Fr (fun t _ _ => t = 33) σ σ' → Q σ' (some (vI (sumC (fxD kd vv D p) c 9)))) : qm_M d 57 [vR 28 s, vR 10 X, vI (nI p)] σ Q := by
  obtain ⟨d, rfl, hd⟩ := qm_dn hd
  show qm_Wp (qm_M d) qk_57 Q 0 [some (vR 28 s), some (vR 10 X), some (vI (nI p)), none, none, none] [] σ
  refine qm_go 5 (fun P hP => Exists.intro (0) (And.intro (And.intro (rfl) ((show 0 < 6 by decide))) (hP ?_)))
  refine qm_go 7 (fun P hP => Exists.intro (_) (And.intro (And.intro (rfl) (hp)) (hP ?_)))
  refine qm_go 1 (fun P hP => Exists.intro (1) (And.intro (And.intro (rfl) ((show 1 < 6 by decide))) (hP ?_)))
  refine qm_go 7 (fun P hP => Exists.intro (_) (And.intro (And.intro (rfl) (hp)) (hP ?_)))
  refine qm_go 1 (fun P hP => Exists.intro (2) (And.intro (And.intro (rfl) ((show 2 < 6 by decide))) (hP ?_)))
  refine qm_go 7 (fun P hP => Exists.intro (_) (And.intro (And.intro (rfl) (hp)) (hP ?_)))
  refine qm_go 2 (fun P hP => And.intro (by decide) (hP ?_))
  refine qm_go 1 (fun P hP => Exists.intro (3) (And.intro (And.intro (rfl) ((show 3 < 6 by decide))) (hP ?_)))
  refine qm_go 7 (fun P hP => Exists.intro (_) (And.intro (And.intro (rfl) (hp)) (hP ?_)))
  refine qm_go 2 (fun P hP => And.intro (by decide) (hP ?_))
  refine qm_go 1 (fun P hP => Exists.intro (4) (And.intro (And.intro (rfl) ((show 4 < 6 by decide))) (hP ?_)))
  refine qm_go 7 (fun P hP => And.intro (by decide) (hP ?_))
  refine qm_go 1 (fun P hP => Exists.intro (5) (And.intro (And.intro (rfl) ((show 5 < 6 by decide))) (hP ?_)))
  refine qm_go 6 (fun P hP => hP ?_)
  generalize hσ5 : wF _ 33 s _ = σ5
  have F5 : Fr (fun t _ _ => t = 33) σ σ5 := by
    rw [← hσ5]
    exact (((((Fr.wA (fun _ => rfl)).tr (Fr.wA (fun _ => rfl))).tr (Fr.wA (fun _ => rfl))).tr (Fr.wA (fun _ => rfl))).tr (Fr.wA (fun _ => rfl))).tr (Fr.wA (fun _ => rfl))
  have hx : ∀ j, j < 6 → σ5.1 33 s j = fxD kd vv D p j := by
    intro j hj
    rw [← hσ5]
    obtain ⟨v1, v2, v3, v4⟩ := hv
    rcases (show j = 0 ∨ j = 1 ∨ j = 2 ∨ j = 3 ∨ j = 4 ∨ j = 5 by omega) with rfl | rfl | rfl | rfl | rfl | rfl
    · simp [wF_same, wF_ne, upd, fxD]
    · simp [wF_same, wF_ne, upd, fxD, hkd]
    · simp [wF_same, wF_ne, upd, fxD, hvv]
    · simp [wF_same, wF_ne, upd, fxD, v1]
    · simp [wF_same, wF_ne, upd, fxD, v2]
    · simp [wF_same, wF_ne, upd, fxD, v4]
  have e0 : endC c 0 = 0 := by cases c <;> rfl
  have kk := c_sumOf_l (d := d) (Q := Q) (a1' := vR 10 X) (a2' := nI p) (by omega) hs (hr.fr F5 (fun t i j a b q => by have q : t = 33 := q; omega)) hw hx c 0 9 rfl (Nat.zero_le _) (h σ5 F5)
  rw [e0] at kk
  exact kk
