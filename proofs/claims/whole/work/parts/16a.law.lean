def scL (σ : qm_Sg) (L9 : Nat) : Prop := σ.1 100 1 0 = nI L9
theorem scL.c {σ σ' : qm_Sg} {L9 : Nat} (h : scL σ L9) (F : FC σ σ') : scL σ' L9 := (F 100 1 0 (by omega)).1.trans h
theorem scL.m {σ σ' : qm_Sg} {L9 : Nat} (h : scL σ L9) (F : FM σ σ') : scL σ' L9 := (F 100 1 0 (by omega)).1.trans h
theorem scL.b {σ : qm_Sg} {L9 i9 k9 : Nat} (h : scL σ L9) (hL : L9 ≤ 3072) (hi : i9 + 6 ≤ L9) (hk : k9 < 6) : i9 + k9 < (σ.1 100 1 0).toNatClampNeg := by
  rw [show σ.1 100 1 0 = nI L9 from h, nI_clamp (by omega)]
  omega
def lwN (d : Nat) (L9 i9 : Nat) (Q : qm_Po) : Prop := ∀ (σ : qm_Sg) (Z : SS9), cI σ Z → mI σ Z → wS Z → scL σ L9 → qm_Wp (qm_M d) qk_197 Q 851 [some (vR 100 0), some (vR 0 0), some (vR 50 0), some (vI (nI i9))] [] σ
theorem lw_0 {d : Nat} (hd : 30 ≤ d) {L9 i9 : Nat} {Q : qm_Po} (hn : lwN d L9 i9 Q) {σ : qm_Sg} {Z : SS9} (hc : cI σ Z) (hm : mI σ Z) (hW : wS Z) (hs : scL σ L9) (hL : L9 ≤ 3072) (hi : i9 + 6 ≤ L9) : qm_Wp (qm_M d) qk_197 Q 22 [some (vR 100 0), some (vR 0 0), some (vR 50 0), some (vI (nI i9))] [] σ := by
  refine qm_go 6 (fun P hP => Exists.intro (i9 + 1) (And.intro (And.intro (nI_add i9 1) (hs.b hL hi (by omega))) (hP ?_)))
  refine qm_go 5 (fun P hP => Exists.intro (i9 + 2) (And.intro (And.intro (nI_add i9 2) (hs.b hL hi (by omega))) (hP ?_)))
  refine qm_go 1 (fun P hP => oc_sleeper (by omega) hc hW (fun σ1 F1 c1 => hP ?_))
  have hs1 := hs.c F1
  refine qm_go 6 (fun P hP => Exists.intro (i9 + 1) (And.intro (And.intro (nI_add i9 1) (hs1.b hL hi (by omega))) (hP ?_)))
  rw [(F1 100 0 (i9 + 1) (by omega)).1]
  refine qm_go 5 (fun P hP => Exists.intro (i9 + 2) (And.intro (And.intro (nI_add i9 2) (hs1.b hL hi (by omega))) (hP ?_)))
  rw [(F1 100 0 (i9 + 2) (by omega)).1]
  refine qm_go 1 (fun P hP => om_sleeper (by omega) (hm.fc F1) hW (fun σ2 F2 m2 => hP ?_))
  refine qm_go 1 (fun P hP => And.intro (fun _ => hP ?_) (fun z => absurd rfl z))
  exact hn σ2 _ (c1.fm F2) m2 (w_slp hW) (hs1.m F2)
theorem lw_1 {d : Nat} (hd : 30 ≤ d) {L9 i9 : Nat} {Q : qm_Po} (hn : lwN d L9 i9 Q) {σ : qm_Sg} {Z : SS9} (hc : cI σ Z) (hm : mI σ Z) (hW : wS Z) (hs : scL σ L9) (hL : L9 ≤ 3072) (hi : i9 + 6 ≤ L9) : qm_Wp (qm_M d) qk_197 Q 49 [some (vR 100 0), some (vR 0 0), some (vR 50 0), some (vI (nI i9))] [] σ := by
  refine qm_go 6 (fun P hP => Exists.intro (i9 + 1) (And.intro (And.intro (nI_add i9 1) (hs.b hL hi (by omega))) (hP ?_)))
  refine qm_go 5 (fun P hP => Exists.intro (i9 + 2) (And.intro (And.intro (nI_add i9 2) (hs.b hL hi (by omega))) (hP ?_)))
  refine qm_go 1 (fun P hP => oc_of (by omega) hc hW (fun σ1 F1 c1 => hP ?_))
  have hs1 := hs.c F1
  refine qm_go 6 (fun P hP => Exists.intro (i9 + 1) (And.intro (And.intro (nI_add i9 1) (hs1.b hL hi (by omega))) (hP ?_)))
  rw [(F1 100 0 (i9 + 1) (by omega)).1]
  refine qm_go 5 (fun P hP => Exists.intro (i9 + 2) (And.intro (And.intro (nI_add i9 2) (hs1.b hL hi (by omega))) (hP ?_)))
  rw [(F1 100 0 (i9 + 2) (by omega)).1]
  refine qm_go 1 (fun P hP => om_of (by omega) (hm.fc F1) hW (fun σ2 F2 m2 => hP ?_))
  refine qm_go 1 (fun P hP => And.intro (fun _ => hP ?_) (fun z => absurd rfl z))
  exact hn σ2 _ (c1.fm F2) m2 (hW) (hs1.m F2)
theorem lw_2 {d : Nat} (hd : 30 ≤ d) {L9 i9 : Nat} {Q : qm_Po} (hn : lwN d L9 i9 Q) {σ : qm_Sg} {Z : SS9} (hc : cI σ Z) (hm : mI σ Z) (hW : wS Z) (hs : scL σ L9) (hL : L9 ≤ 3072) (hi : i9 + 6 ≤ L9) : qm_Wp (qm_M d) qk_197 Q 76 [some (vR 100 0), some (vR 0 0), some (vR 50 0), some (vI (nI i9))] [] σ := by
  refine qm_go 6 (fun P hP => Exists.intro (i9 + 1) (And.intro (And.intro (nI_add i9 1) (hs.b hL hi (by omega))) (hP ?_)))
  refine qm_go 5 (fun P hP => Exists.intro (i9 + 2) (And.intro (And.intro (nI_add i9 2) (hs.b hL hi (by omega))) (hP ?_)))
  refine qm_go 1 (fun P hP => oc_owe (by omega) hc hW (fun σ1 F1 c1 => hP ?_))
  have hs1 := hs.c F1
  refine qm_go 6 (fun P hP => Exists.intro (i9 + 1) (And.intro (And.intro (nI_add i9 1) (hs1.b hL hi (by omega))) (hP ?_)))
  rw [(F1 100 0 (i9 + 1) (by omega)).1]
  refine qm_go 5 (fun P hP => Exists.intro (i9 + 2) (And.intro (And.intro (nI_add i9 2) (hs1.b hL hi (by omega))) (hP ?_)))
  rw [(F1 100 0 (i9 + 2) (by omega)).1]
  refine qm_go 1 (fun P hP => om_owe (by omega) (hm.fc F1) hW (fun σ2 F2 m2 => hP ?_))
  refine qm_go 1 (fun P hP => And.intro (fun _ => hP ?_) (fun z => absurd rfl z))
  exact hn σ2 _ (c1.fm F2) m2 (w_owe hW) (hs1.m F2)
theorem lw_3 {d : Nat} (hd : 30 ≤ d) {L9 i9 : Nat} {Q : qm_Po} (hn : lwN d L9 i9 Q) {σ : qm_Sg} {Z : SS9} (hc : cI σ Z) (hm : mI σ Z) (hW : wS Z) (hs : scL σ L9) (hL : L9 ≤ 3072) (hi : i9 + 6 ≤ L9) : qm_Wp (qm_M d) qk_197 Q 103 [some (vR 100 0), some (vR 0 0), some (vR 50 0), some (vI (nI i9))] [] σ := by
  refine qm_go 6 (fun P hP => Exists.intro (i9 + 1) (And.intro (And.intro (nI_add i9 1) (hs.b hL hi (by omega))) (hP ?_)))
  refine qm_go 5 (fun P hP => Exists.intro (i9 + 2) (And.intro (And.intro (nI_add i9 2) (hs.b hL hi (by omega))) (hP ?_)))
  by_cases ez : σ.1 100 0 (i9 + 2) = 0
  · refine qm_go 1 (fun P hP => And.intro (fun _ => hP ?_) (fun z => absurd ez z))
    refine qm_go 2 (fun P hP => oc_away (by omega) hc hW (fun σ1 F1 c1 => hP ?_))
    have hs1 := hs.c F1
    refine qm_go 6 (fun P hP => Exists.intro (i9 + 1) (And.intro (And.intro (nI_add i9 1) (hs1.b hL hi (by omega))) (hP ?_)))
    rw [(F1 100 0 (i9 + 1) (by omega)).1]
    refine qm_go 5 (fun P hP => Exists.intro (i9 + 2) (And.intro (And.intro (nI_add i9 2) (hs1.b hL hi (by omega))) (hP ?_)))
    rw [(F1 100 0 (i9 + 2) (by omega)).1]
    refine qm_go 1 (fun P hP => And.intro (fun _ => hP ?_) (fun z => absurd ez z))
    refine qm_go 2 (fun P hP => om_away (by omega) (hm.fc F1) hW (fun σ2 F2 m2 => hP ?_))
    refine qm_go 1 (fun P hP => And.intro (fun _ => hP ?_) (fun z => absurd rfl z))
    exact hn σ2 _ (c1.fm F2) m2 (w_away hW) (hs1.m F2)
  · refine qm_go 1 (fun P hP => And.intro (fun z => absurd z ez) (fun _ => hP ?_))
    refine qm_go 3 (fun P hP => oc_away (by omega) hc hW (fun σ1 F1 c1 => hP ?_))
    have hs1 := hs.c F1
    refine qm_go 6 (fun P hP => Exists.intro (i9 + 1) (And.intro (And.intro (nI_add i9 1) (hs1.b hL hi (by omega))) (hP ?_)))
    rw [(F1 100 0 (i9 + 1) (by omega)).1]
    refine qm_go 5 (fun P hP => Exists.intro (i9 + 2) (And.intro (And.intro (nI_add i9 2) (hs1.b hL hi (by omega))) (hP ?_)))
    rw [(F1 100 0 (i9 + 2) (by omega)).1]
    refine qm_go 1 (fun P hP => And.intro (fun z => absurd z ez) (fun _ => hP ?_))
    refine qm_go 3 (fun P hP => om_away (by omega) (hm.fc F1) hW (fun σ2 F2 m2 => hP ?_))
    refine qm_go 1 (fun P hP => And.intro (fun _ => hP ?_) (fun z => absurd rfl z))
    exact hn σ2 _ (c1.fm F2) m2 (w_away hW) (hs1.m F2)
theorem lw_4 {d : Nat} (hd : 30 ≤ d) {L9 i9 : Nat} {Q : qm_Po} (hn : lwN d L9 i9 Q) {σ : qm_Sg} {Z : SS9} (hc : cI σ Z) (hm : mI σ Z) (hW : wS Z) (hs : scL σ L9) (hL : L9 ≤ 3072) (hi : i9 + 6 ≤ L9) : qm_Wp (qm_M d) qk_197 Q 138 [some (vR 100 0), some (vR 0 0), some (vR 50 0), some (vI (nI i9))] [] σ := by
  refine qm_go 6 (fun P hP => Exists.intro (i9 + 1) (And.intro (And.intro (nI_add i9 1) (hs.b hL hi (by omega))) (hP ?_)))
  refine qm_go 1 (fun P hP => oc_dip (by omega) hc hW (fun σ1 F1 c1 => hP ?_))
  have hs1 := hs.c F1
  refine qm_go 6 (fun P hP => Exists.intro (i9 + 1) (And.intro (And.intro (nI_add i9 1) (hs1.b hL hi (by omega))) (hP ?_)))
  rw [(F1 100 0 (i9 + 1) (by omega)).1]
  refine qm_go 1 (fun P hP => om_dip (by omega) (hm.fc F1) hW (fun σ2 F2 m2 => hP ?_))
  refine qm_go 1 (fun P hP => And.intro (fun _ => hP ?_) (fun z => absurd rfl z))
  exact hn σ2 _ (c1.fm F2) m2 (w_dip hW) (hs1.m F2)
theorem lw_5 {d : Nat} (hd : 30 ≤ d) {L9 i9 : Nat} {Q : qm_Po} (hn : lwN d L9 i9 Q) {σ : qm_Sg} {Z : SS9} (hc : cI σ Z) (hm : mI σ Z) (hW : wS Z) (hs : scL σ L9) (hL : L9 ≤ 3072) (hi : i9 + 6 ≤ L9) : qm_Wp (qm_M d) qk_197 Q 155 [some (vR 100 0), some (vR 0 0), some (vR 50 0), some (vI (nI i9))] [] σ := by
  refine qm_go 6 (fun P hP => Exists.intro (i9 + 1) (And.intro (And.intro (nI_add i9 1) (hs.b hL hi (by omega))) (hP ?_)))
  refine qm_go 5 (fun P hP => Exists.intro (i9 + 2) (And.intro (And.intro (nI_add i9 2) (hs.b hL hi (by omega))) (hP ?_)))
  refine qm_go 5 (fun P hP => Exists.intro (i9 + 3) (And.intro (And.intro (nI_add i9 3) (hs.b hL hi (by omega))) (hP ?_)))
  refine qm_go 1 (fun P hP => oc_row (by omega) hc hW (fun σ1 F1 c1 => hP ?_))
  have hs1 := hs.c F1
  refine qm_go 6 (fun P hP => Exists.intro (i9 + 1) (And.intro (And.intro (nI_add i9 1) (hs1.b hL hi (by omega))) (hP ?_)))
  rw [(F1 100 0 (i9 + 1) (by omega)).1]
  refine qm_go 5 (fun P hP => Exists.intro (i9 + 2) (And.intro (And.intro (nI_add i9 2) (hs1.b hL hi (by omega))) (hP ?_)))
  rw [(F1 100 0 (i9 + 2) (by omega)).1]
  refine qm_go 5 (fun P hP => Exists.intro (i9 + 3) (And.intro (And.intro (nI_add i9 3) (hs1.b hL hi (by omega))) (hP ?_)))
  rw [(F1 100 0 (i9 + 3) (by omega)).1]
  refine qm_go 1 (fun P hP => om_row (by omega) (hm.fc F1) hW (fun σ2 F2 m2 => hP ?_))
  refine qm_go 1 (fun P hP => And.intro (fun _ => hP ?_) (fun z => absurd rfl z))
  exact hn σ2 _ (c1.fm F2) m2 (w_row hW) (hs1.m F2)
theorem lw_6 {d : Nat} (hd : 30 ≤ d) {L9 i9 : Nat} {Q : qm_Po} (hn : lwN d L9 i9 Q) {σ : qm_Sg} {Z : SS9} (hc : cI σ Z) (hm : mI σ Z) (hW : wS Z) (hs : scL σ L9) (hL : L9 ≤ 3072) (hi : i9 + 6 ≤ L9) : qm_Wp (qm_M d) qk_197 Q 192 [some (vR 100 0), some (vR 0 0), some (vR 50 0), some (vI (nI i9))] [] σ := by
  refine qm_go 6 (fun P hP => Exists.intro (i9 + 1) (And.intro (And.intro (nI_add i9 1) (hs.b hL hi (by omega))) (hP ?_)))
  refine qm_go 1 (fun P hP => oc_feed (by omega) hc hW (fun σ1 F1 c1 => hP ?_))
  have hs1 := hs.c F1
  refine qm_go 6 (fun P hP => Exists.intro (i9 + 1) (And.intro (And.intro (nI_add i9 1) (hs1.b hL hi (by omega))) (hP ?_)))
  rw [(F1 100 0 (i9 + 1) (by omega)).1]
  refine qm_go 1 (fun P hP => om_feed (by omega) (hm.fc F1) hW (fun σ2 F2 m2 => hP ?_))
  refine qm_go 1 (fun P hP => And.intro (fun _ => hP ?_) (fun z => absurd rfl z))
  exact hn σ2 _ (c1.fm F2) m2 (w_feed hW) (hs1.m F2)
theorem lw_7 {d : Nat} (hd : 30 ≤ d) {L9 i9 : Nat} {Q : qm_Po} (hn : lwN d L9 i9 Q) {σ : qm_Sg} {Z : SS9} (hc : cI σ Z) (hm : mI σ Z) (hW : wS Z) (hs : scL σ L9) (hL : L9 ≤ 3072) (hi : i9 + 6 ≤ L9) : qm_Wp (qm_M d) qk_197 Q 209 [some (vR 100 0), some (vR 0 0), some (vR 50 0), some (vI (nI i9))] [] σ := by
  refine qm_go 2 (fun P hP => oc_street (by omega) hc hW (fun r9 σ1 hp hW2 F1 c1 => hP ?_))
  have hs1 := hs.c F1
  refine qm_go 2 (fun P hP => om_street (by omega) (hm.fc F1) hW hp hW2 (fun σ2 F2 m2 => hP ?_))
  refine qm_go 1 (fun P hP => And.intro (fun _ => hP ?_) (fun z => absurd rfl z))
  exact hn σ2 _ (c1.fm F2) m2 (hW2) (hs1.m F2)
theorem lw_8 {d : Nat} (hd : 30 ≤ d) {L9 i9 : Nat} {Q : qm_Po} (hn : lwN d L9 i9 Q) {σ : qm_Sg} {Z : SS9} (hc : cI σ Z) (hm : mI σ Z) (hW : wS Z) (hs : scL σ L9) (hL : L9 ≤ 3072) (hi : i9 + 6 ≤ L9) : qm_Wp (qm_M d) qk_197 Q 216 [some (vR 100 0), some (vR 0 0), some (vR 50 0), some (vI (nI i9))] [] σ := by
  refine qm_go 6 (fun P hP => Exists.intro (i9 + 1) (And.intro (And.intro (nI_add i9 1) (hs.b hL hi (by omega))) (hP ?_)))
  refine qm_go 1 (fun P hP => oc_told (by omega) hc hW (fun σ1 F1 c1 => hP ?_))
  have hs1 := hs.c F1
  refine qm_go 6 (fun P hP => Exists.intro (i9 + 1) (And.intro (And.intro (nI_add i9 1) (hs1.b hL hi (by omega))) (hP ?_)))
  rw [(F1 100 0 (i9 + 1) (by omega)).1]
  refine qm_go 1 (fun P hP => om_told (by omega) (hm.fc F1) hW (fun σ2 F2 m2 => hP ?_))
  refine qm_go 1 (fun P hP => And.intro (fun _ => hP ?_) (fun z => absurd rfl z))
  exact hn σ2 _ (c1.fm F2) m2 (hW) (hs1.m F2)
theorem lw_9 {d : Nat} (hd : 30 ≤ d) {L9 i9 : Nat} {Q : qm_Po} (hn : lwN d L9 i9 Q) {σ : qm_Sg} {Z : SS9} (hc : cI σ Z) (hm : mI σ Z) (hW : wS Z) (hs : scL σ L9) (hL : L9 ≤ 3072) (hi : i9 + 6 ≤ L9) : qm_Wp (qm_M d) qk_197 Q 233 [some (vR 100 0), some (vR 0 0), some (vR 50 0), some (vI (nI i9))] [] σ := by
  refine qm_go 6 (fun P hP => Exists.intro (i9 + 1) (And.intro (And.intro (nI_add i9 1) (hs.b hL hi (by omega))) (hP ?_)))
  refine qm_go 1 (fun P hP => oc_pass (by omega) hc hW (fun σ1 F1 c1 => hP ?_))
  have hs1 := hs.c F1
  refine qm_go 6 (fun P hP => Exists.intro (i9 + 1) (And.intro (And.intro (nI_add i9 1) (hs1.b hL hi (by omega))) (hP ?_)))
  rw [(F1 100 0 (i9 + 1) (by omega)).1]
  refine qm_go 1 (fun P hP => om_pass (by omega) (hm.fc F1) hW (fun σ2 F2 m2 => hP ?_))
  refine qm_go 1 (fun P hP => And.intro (fun _ => hP ?_) (fun z => absurd rfl z))
  exact hn σ2 _ (c1.fm F2) m2 (w_pass hW) (hs1.m F2)
theorem lw_10 {d : Nat} (hd : 30 ≤ d) {L9 i9 : Nat} {Q : qm_Po} (hn : lwN d L9 i9 Q) {σ : qm_Sg} {Z : SS9} (hc : cI σ Z) (hm : mI σ Z) (hW : wS Z) (hs : scL σ L9) (hL : L9 ≤ 3072) (hi : i9 + 6 ≤ L9) : qm_Wp (qm_M d) qk_197 Q 250 [some (vR 100 0), some (vR 0 0), some (vR 50 0), some (vI (nI i9))] [] σ := by
  refine qm_go 6 (fun P hP => Exists.intro (i9 + 1) (And.intro (And.intro (nI_add i9 1) (hs.b hL hi (by omega))) (hP ?_)))
  refine qm_go 5 (fun P hP => Exists.intro (i9 + 2) (And.intro (And.intro (nI_add i9 2) (hs.b hL hi (by omega))) (hP ?_)))
  refine qm_go 1 (fun P hP => oc_on (by omega) hc hW (fun σ1 F1 c1 => hP ?_))
  have hs1 := hs.c F1
  refine qm_go 6 (fun P hP => Exists.intro (i9 + 1) (And.intro (And.intro (nI_add i9 1) (hs1.b hL hi (by omega))) (hP ?_)))
  rw [(F1 100 0 (i9 + 1) (by omega)).1]
  refine qm_go 5 (fun P hP => Exists.intro (i9 + 2) (And.intro (And.intro (nI_add i9 2) (hs1.b hL hi (by omega))) (hP ?_)))
  rw [(F1 100 0 (i9 + 2) (by omega)).1]
  refine qm_go 1 (fun P hP => om_on (by omega) (hm.fc F1) hW (fun σ2 F2 m2 => hP ?_))
  refine qm_go 1 (fun P hP => And.intro (fun _ => hP ?_) (fun z => absurd rfl z))
  exact hn σ2 _ (c1.fm F2) m2 (hW) (hs1.m F2)
theorem lw_11 {d : Nat} (hd : 30 ≤ d) {L9 i9 : Nat} {Q : qm_Po} (hn : lwN d L9 i9 Q) {σ : qm_Sg} {Z : SS9} (hc : cI σ Z) (hm : mI σ Z) (hW : wS Z) (hs : scL σ L9) (hL : L9 ≤ 3072) (hi : i9 + 6 ≤ L9) : qm_Wp (qm_M d) qk_197 Q 277 [some (vR 100 0), some (vR 0 0), some (vR 50 0), some (vI (nI i9))] [] σ := by
  refine qm_go 6 (fun P hP => Exists.intro (i9 + 1) (And.intro (And.intro (nI_add i9 1) (hs.b hL hi (by omega))) (hP ?_)))
  refine qm_go 1 (fun P hP => oc_fills (by omega) hc hW (fun σ1 F1 c1 => hP ?_))
  have hs1 := hs.c F1
  refine qm_go 6 (fun P hP => Exists.intro (i9 + 1) (And.intro (And.intro (nI_add i9 1) (hs1.b hL hi (by omega))) (hP ?_)))
  rw [(F1 100 0 (i9 + 1) (by omega)).1]
  refine qm_go 1 (fun P hP => om_fills (by omega) (hm.fc F1) hW (fun σ2 F2 m2 => hP ?_))
  refine qm_go 1 (fun P hP => And.intro (fun _ => hP ?_) (fun z => absurd rfl z))
  exact hn σ2 _ (c1.fm F2) m2 (hW) (hs1.m F2)
theorem lw_12 {d : Nat} (hd : 30 ≤ d) {L9 i9 : Nat} {Q : qm_Po} (hn : lwN d L9 i9 Q) {σ : qm_Sg} {Z : SS9} (hc : cI σ Z) (hm : mI σ Z) (hW : wS Z) (hs : scL σ L9) (hL : L9 ≤ 3072) (hi : i9 + 6 ≤ L9) : qm_Wp (qm_M d) qk_197 Q 294 [some (vR 100 0), some (vR 0 0), some (vR 50 0), some (vI (nI i9))] [] σ := by
  refine qm_go 6 (fun P hP => Exists.intro (i9 + 1) (And.intro (And.intro (nI_add i9 1) (hs.b hL hi (by omega))) (hP ?_)))
  refine qm_go 5 (fun P hP => Exists.intro (i9 + 2) (And.intro (And.intro (nI_add i9 2) (hs.b hL hi (by omega))) (hP ?_)))
  refine qm_go 1 (fun P hP => oc_best (by omega) hc hW (fun σ1 F1 c1 => hP ?_))
  have hs1 := hs.c F1
  refine qm_go 6 (fun P hP => Exists.intro (i9 + 1) (And.intro (And.intro (nI_add i9 1) (hs1.b hL hi (by omega))) (hP ?_)))
  rw [(F1 100 0 (i9 + 1) (by omega)).1]
  refine qm_go 5 (fun P hP => Exists.intro (i9 + 2) (And.intro (And.intro (nI_add i9 2) (hs1.b hL hi (by omega))) (hP ?_)))
  rw [(F1 100 0 (i9 + 2) (by omega)).1]
  refine qm_go 1 (fun P hP => om_best (by omega) (hm.fc F1) hW (fun σ2 F2 m2 => hP ?_))
  refine qm_go 1 (fun P hP => And.intro (fun _ => hP ?_) (fun z => absurd rfl z))
  exact hn σ2 _ (c1.fm F2) m2 (hW) (hs1.m F2)
theorem lw_13 {d : Nat} (hd : 30 ≤ d) {L9 i9 : Nat} {Q : qm_Po} (hn : lwN d L9 i9 Q) {σ : qm_Sg} {Z : SS9} (hc : cI σ Z) (hm : mI σ Z) (hW : wS Z) (hs : scL σ L9) (hL : L9 ≤ 3072) (hi : i9 + 6 ≤ L9) : qm_Wp (qm_M d) qk_197 Q 321 [some (vR 100 0), some (vR 0 0), some (vR 50 0), some (vI (nI i9))] [] σ := by
  refine qm_go 6 (fun P hP => Exists.intro (i9 + 1) (And.intro (And.intro (nI_add i9 1) (hs.b hL hi (by omega))) (hP ?_)))
  refine qm_go 5 (fun P hP => Exists.intro (i9 + 2) (And.intro (And.intro (nI_add i9 2) (hs.b hL hi (by omega))) (hP ?_)))
  refine qm_go 5 (fun P hP => Exists.intro (i9 + 3) (And.intro (And.intro (nI_add i9 3) (hs.b hL hi (by omega))) (hP ?_)))
  refine qm_go 1 (fun P hP => oc_see (by omega) hc hW (fun σ1 F1 c1 => hP ?_))
  have hs1 := hs.c F1
  refine qm_go 6 (fun P hP => Exists.intro (i9 + 1) (And.intro (And.intro (nI_add i9 1) (hs1.b hL hi (by omega))) (hP ?_)))
  rw [(F1 100 0 (i9 + 1) (by omega)).1]
  refine qm_go 5 (fun P hP => Exists.intro (i9 + 2) (And.intro (And.intro (nI_add i9 2) (hs1.b hL hi (by omega))) (hP ?_)))
  rw [(F1 100 0 (i9 + 2) (by omega)).1]
  refine qm_go 5 (fun P hP => Exists.intro (i9 + 3) (And.intro (And.intro (nI_add i9 3) (hs1.b hL hi (by omega))) (hP ?_)))
  rw [(F1 100 0 (i9 + 3) (by omega)).1]
  refine qm_go 1 (fun P hP => om_see (by omega) (hm.fc F1) hW (fun σ2 F2 m2 => hP ?_))
  refine qm_go 1 (fun P hP => And.intro (fun _ => hP ?_) (fun z => absurd rfl z))
  exact hn σ2 _ (c1.fm F2) m2 (w_see hW) (hs1.m F2)
theorem lw_14 {d : Nat} (hd : 30 ≤ d) {L9 i9 : Nat} {Q : qm_Po} (hn : lwN d L9 i9 Q) {σ : qm_Sg} {Z : SS9} (hc : cI σ Z) (hm : mI σ Z) (hW : wS Z) (hs : scL σ L9) (hL : L9 ≤ 3072) (hi : i9 + 6 ≤ L9) : qm_Wp (qm_M d) qk_197 Q 358 [some (vR 100 0), some (vR 0 0), some (vR 50 0), some (vI (nI i9))] [] σ := by
  refine qm_go 6 (fun P hP => Exists.intro (i9 + 1) (And.intro (And.intro (nI_add i9 1) (hs.b hL hi (by omega))) (hP ?_)))
  refine qm_go 5 (fun P hP => Exists.intro (i9 + 2) (And.intro (And.intro (nI_add i9 2) (hs.b hL hi (by omega))) (hP ?_)))
  refine qm_go 1 (fun P hP => oc_can (by omega) hc hW (fun σ1 F1 c1 => hP ?_))
  have hs1 := hs.c F1
  refine qm_go 6 (fun P hP => Exists.intro (i9 + 1) (And.intro (And.intro (nI_add i9 1) (hs1.b hL hi (by omega))) (hP ?_)))
  rw [(F1 100 0 (i9 + 1) (by omega)).1]
  refine qm_go 5 (fun P hP => Exists.intro (i9 + 2) (And.intro (And.intro (nI_add i9 2) (hs1.b hL hi (by omega))) (hP ?_)))
  rw [(F1 100 0 (i9 + 2) (by omega)).1]
  refine qm_go 1 (fun P hP => om_can (by omega) (hm.fc F1) hW (fun σ2 F2 m2 => hP ?_))
  refine qm_go 1 (fun P hP => And.intro (fun _ => hP ?_) (fun z => absurd rfl z))
  exact hn σ2 _ (c1.fm F2) m2 (hW) (hs1.m F2)
theorem lw_15 {d : Nat} (hd : 30 ≤ d) {L9 i9 : Nat} {Q : qm_Po} (hn : lwN d L9 i9 Q) {σ : qm_Sg} {Z : SS9} (hc : cI σ Z) (hm : mI σ Z) (hW : wS Z) (hs : scL σ L9) (hL : L9 ≤ 3072) (hi : i9 + 6 ≤ L9) : qm_Wp (qm_M d) qk_197 Q 385 [some (vR 100 0), some (vR 0 0), some (vR 50 0), some (vI (nI i9))] [] σ := by
  refine qm_go 6 (fun P hP => Exists.intro (i9 + 1) (And.intro (And.intro (nI_add i9 1) (hs.b hL hi (by omega))) (hP ?_)))
  refine qm_go 5 (fun P hP => Exists.intro (i9 + 2) (And.intro (And.intro (nI_add i9 2) (hs.b hL hi (by omega))) (hP ?_)))
  refine qm_go 5 (fun P hP => Exists.intro (i9 + 3) (And.intro (And.intro (nI_add i9 3) (hs.b hL hi (by omega))) (hP ?_)))
  refine qm_go 1 (fun P hP => oc_odds (by omega) hc hW (fun σ1 F1 c1 => hP ?_))
  have hs1 := hs.c F1
  refine qm_go 6 (fun P hP => Exists.intro (i9 + 1) (And.intro (And.intro (nI_add i9 1) (hs1.b hL hi (by omega))) (hP ?_)))
  rw [(F1 100 0 (i9 + 1) (by omega)).1]
  refine qm_go 5 (fun P hP => Exists.intro (i9 + 2) (And.intro (And.intro (nI_add i9 2) (hs1.b hL hi (by omega))) (hP ?_)))
  rw [(F1 100 0 (i9 + 2) (by omega)).1]
  refine qm_go 5 (fun P hP => Exists.intro (i9 + 3) (And.intro (And.intro (nI_add i9 3) (hs1.b hL hi (by omega))) (hP ?_)))
  rw [(F1 100 0 (i9 + 3) (by omega)).1]
  refine qm_go 1 (fun P hP => om_odds (by omega) (hm.fc F1) hW (fun σ2 F2 m2 => hP ?_))
  refine qm_go 2 (fun P hP => And.intro (fun _ => hP ?_) (fun z => absurd ((lg_cmp_eq _ _).mpr rfl) z))
  exact hn σ2 _ (c1.fm F2) m2 (hW) (hs1.m F2)
theorem lw_16 {d : Nat} (hd : 30 ≤ d) {L9 i9 : Nat} {Q : qm_Po} (hn : lwN d L9 i9 Q) {σ : qm_Sg} {Z : SS9} (hc : cI σ Z) (hm : mI σ Z) (hW : wS Z) (hs : scL σ L9) (hL : L9 ≤ 3072) (hi : i9 + 6 ≤ L9) : qm_Wp (qm_M d) qk_197 Q 423 [some (vR 100 0), some (vR 0 0), some (vR 50 0), some (vI (nI i9))] [] σ := by
  refine qm_go 6 (fun P hP => Exists.intro (i9 + 1) (And.intro (And.intro (nI_add i9 1) (hs.b hL hi (by omega))) (hP ?_)))
  refine qm_go 5 (fun P hP => Exists.intro (i9 + 2) (And.intro (And.intro (nI_add i9 2) (hs.b hL hi (by omega))) (hP ?_)))
  refine qm_go 1 (fun P hP => oc_mean (by omega) hc hW (fun σ1 F1 c1 => hP ?_))
  have hs1 := hs.c F1
  refine qm_go 6 (fun P hP => Exists.intro (i9 + 1) (And.intro (And.intro (nI_add i9 1) (hs1.b hL hi (by omega))) (hP ?_)))
  rw [(F1 100 0 (i9 + 1) (by omega)).1]
  refine qm_go 5 (fun P hP => Exists.intro (i9 + 2) (And.intro (And.intro (nI_add i9 2) (hs1.b hL hi (by omega))) (hP ?_)))
  rw [(F1 100 0 (i9 + 2) (by omega)).1]
  refine qm_go 1 (fun P hP => om_mean (by omega) (hm.fc F1) hW (fun σ2 F2 m2 => hP ?_))
  refine qm_go 2 (fun P hP => And.intro (fun _ => hP ?_) (fun z => absurd ((lg_cmp_eq _ _).mpr rfl) z))
  exact hn σ2 _ (c1.fm F2) m2 (hW) (hs1.m F2)
theorem lw_17 {d : Nat} (hd : 30 ≤ d) {L9 i9 : Nat} {Q : qm_Po} (hn : lwN d L9 i9 Q) {σ : qm_Sg} {Z : SS9} (hc : cI σ Z) (hm : mI σ Z) (hW : wS Z) (hs : scL σ L9) (hL : L9 ≤ 3072) (hi : i9 + 6 ≤ L9) : qm_Wp (qm_M d) qk_197 Q 451 [some (vR 100 0), some (vR 0 0), some (vR 50 0), some (vI (nI i9))] [] σ := by
  refine qm_go 6 (fun P hP => Exists.intro (i9 + 1) (And.intro (And.intro (nI_add i9 1) (hs.b hL hi (by omega))) (hP ?_)))
  refine qm_go 5 (fun P hP => Exists.intro (i9 + 2) (And.intro (And.intro (nI_add i9 2) (hs.b hL hi (by omega))) (hP ?_)))
  refine qm_go 1 (fun P hP => oc_plan (by omega) hc hW (fun σ1 F1 c1 => hP ?_))
  have hs1 := hs.c F1
  refine qm_go 6 (fun P hP => Exists.intro (i9 + 1) (And.intro (And.intro (nI_add i9 1) (hs1.b hL hi (by omega))) (hP ?_)))
  rw [(F1 100 0 (i9 + 1) (by omega)).1]
  refine qm_go 5 (fun P hP => Exists.intro (i9 + 2) (And.intro (And.intro (nI_add i9 2) (hs1.b hL hi (by omega))) (hP ?_)))
  rw [(F1 100 0 (i9 + 2) (by omega)).1]
  refine qm_go 1 (fun P hP => om_plan (by omega) (hm.fc F1) hW (fun σ2 F2 m2 => hP ?_))
  refine qm_go 1 (fun P hP => And.intro (fun _ => hP ?_) (fun z => absurd rfl z))
  exact hn σ2 _ (c1.fm F2) m2 (w_plan hW) (hs1.m F2)
theorem lw_18 {d : Nat} (hd : 30 ≤ d) {L9 i9 : Nat} {Q : qm_Po} (hn : lwN d L9 i9 Q) {σ : qm_Sg} {Z : SS9} (hc : cI σ Z) (hm : mI σ Z) (hW : wS Z) (hs : scL σ L9) (hL : L9 ≤ 3072) (hi : i9 + 6 ≤ L9) : qm_Wp (qm_M d) qk_197 Q 478 [some (vR 100 0), some (vR 0 0), some (vR 50 0), some (vI (nI i9))] [] σ := by
  refine qm_go 6 (fun P hP => Exists.intro (i9 + 1) (And.intro (And.intro (nI_add i9 1) (hs.b hL hi (by omega))) (hP ?_)))
  refine qm_go 1 (fun P hP => oc_ends (by omega) hc hW (fun σ1 F1 c1 => hP ?_))
  have hs1 := hs.c F1
  refine qm_go 6 (fun P hP => Exists.intro (i9 + 1) (And.intro (And.intro (nI_add i9 1) (hs1.b hL hi (by omega))) (hP ?_)))
  rw [(F1 100 0 (i9 + 1) (by omega)).1]
  refine qm_go 1 (fun P hP => om_ends (by omega) (hm.fc F1) hW (fun σ2 F2 m2 => hP ?_))
  refine qm_go 1 (fun P hP => And.intro (fun _ => hP ?_) (fun z => absurd rfl z))
  exact hn σ2 _ (c1.fm F2) m2 (hW) (hs1.m F2)
theorem lw_19 {d : Nat} (hd : 30 ≤ d) {L9 i9 : Nat} {Q : qm_Po} (hn : lwN d L9 i9 Q) {σ : qm_Sg} {Z : SS9} (hc : cI σ Z) (hm : mI σ Z) (hW : wS Z) (hs : scL σ L9) (hL : L9 ≤ 3072) (hi : i9 + 6 ≤ L9) : qm_Wp (qm_M d) qk_197 Q 495 [some (vR 100 0), some (vR 0 0), some (vR 50 0), some (vI (nI i9))] [] σ := by
  refine qm_go 6 (fun P hP => Exists.intro (i9 + 1) (And.intro (And.intro (nI_add i9 1) (hs.b hL hi (by omega))) (hP ?_)))
  refine qm_go 5 (fun P hP => Exists.intro (i9 + 2) (And.intro (And.intro (nI_add i9 2) (hs.b hL hi (by omega))) (hP ?_)))
  refine qm_go 1 (fun P hP => oc_book (by omega) hc hW (fun σ1 F1 c1 => hP ?_))
  have hs1 := hs.c F1
  refine qm_go 6 (fun P hP => Exists.intro (i9 + 1) (And.intro (And.intro (nI_add i9 1) (hs1.b hL hi (by omega))) (hP ?_)))
  rw [(F1 100 0 (i9 + 1) (by omega)).1]
  refine qm_go 5 (fun P hP => Exists.intro (i9 + 2) (And.intro (And.intro (nI_add i9 2) (hs1.b hL hi (by omega))) (hP ?_)))
  rw [(F1 100 0 (i9 + 2) (by omega)).1]
  refine qm_go 1 (fun P hP => om_book (by omega) (hm.fc F1) hW (fun σ2 F2 m2 => hP ?_))
  refine qm_go 1 (fun P hP => And.intro (fun _ => hP ?_) (fun z => absurd rfl z))
  exact hn σ2 _ (c1.fm F2) m2 (w_book hW) (hs1.m F2)
theorem lw_20 {d : Nat} (hd : 30 ≤ d) {L9 i9 : Nat} {Q : qm_Po} (hn : lwN d L9 i9 Q) {σ : qm_Sg} {Z : SS9} (hc : cI σ Z) (hm : mI σ Z) (hW : wS Z) (hs : scL σ L9) (hL : L9 ≤ 3072) (hi : i9 + 6 ≤ L9) : qm_Wp (qm_M d) qk_197 Q 522 [some (vR 100 0), some (vR 0 0), some (vR 50 0), some (vI (nI i9))] [] σ := by
  refine qm_go 2 (fun P hP => oc_looked (by omega) hc hW (fun σ1 F1 c1 => hP ?_))
  have hs1 := hs.c F1
  refine qm_go 2 (fun P hP => om_looked (by omega) (hm.fc F1) hW (fun σ2 F2 m2 => hP ?_))
  refine qm_go 1 (fun P hP => And.intro (fun _ => hP ?_) (fun z => absurd rfl z))
  exact hn σ2 _ (c1.fm F2) m2 (hW) (hs1.m F2)
theorem lw_21 {d : Nat} (hd : 30 ≤ d) {L9 i9 : Nat} {Q : qm_Po} (hn : lwN d L9 i9 Q) {σ : qm_Sg} {Z : SS9} (hc : cI σ Z) (hm : mI σ Z) (hW : wS Z) (hs : scL σ L9) (hL : L9 ≤ 3072) (hi : i9 + 6 ≤ L9) : qm_Wp (qm_M d) qk_197 Q 529 [some (vR 100 0), some (vR 0 0), some (vR 50 0), some (vI (nI i9))] [] σ := by
  refine qm_go 6 (fun P hP => Exists.intro (i9 + 1) (And.intro (And.intro (nI_add i9 1) (hs.b hL hi (by omega))) (hP ?_)))
  refine qm_go 5 (fun P hP => Exists.intro (i9 + 2) (And.intro (And.intro (nI_add i9 2) (hs.b hL hi (by omega))) (hP ?_)))
  refine qm_go 1 (fun P hP => oc_judge (by omega) hc hW (fun σ1 F1 c1 => hP ?_))
  have hs1 := hs.c F1
  refine qm_go 6 (fun P hP => Exists.intro (i9 + 1) (And.intro (And.intro (nI_add i9 1) (hs1.b hL hi (by omega))) (hP ?_)))
  rw [(F1 100 0 (i9 + 1) (by omega)).1]
  refine qm_go 5 (fun P hP => Exists.intro (i9 + 2) (And.intro (And.intro (nI_add i9 2) (hs1.b hL hi (by omega))) (hP ?_)))
  rw [(F1 100 0 (i9 + 2) (by omega)).1]
  refine qm_go 1 (fun P hP => om_judge (by omega) (hm.fc F1) hW (fun σ2 F2 m2 => hP ?_))
  refine qm_go 1 (fun P hP => And.intro (fun _ => hP ?_) (fun z => absurd rfl z))
  exact hn σ2 _ (c1.fm F2) m2 (hW) (hs1.m F2)
theorem lw_22 {d : Nat} (hd : 30 ≤ d) {L9 i9 : Nat} {Q : qm_Po} (hn : lwN d L9 i9 Q) {σ : qm_Sg} {Z : SS9} (hc : cI σ Z) (hm : mI σ Z) (hW : wS Z) (hs : scL σ L9) (hL : L9 ≤ 3072) (hi : i9 + 6 ≤ L9) : qm_Wp (qm_M d) qk_197 Q 556 [some (vR 100 0), some (vR 0 0), some (vR 50 0), some (vI (nI i9))] [] σ := by
  refine qm_go 2 (fun P hP => oc_image (by omega) hc hW (fun σ1 F1 c1 => hP ?_))
  have hs1 := hs.c F1
  refine qm_go 2 (fun P hP => om_image (by omega) (hm.fc F1) hW (fun σ2 F2 m2 => hP ?_))
  refine qm_go 1 (fun P hP => And.intro (fun _ => hP ?_) (fun z => absurd rfl z))
  exact hn σ2 _ (c1.fm F2) m2 (w_image hW) (hs1.m F2)
theorem lw_23 {d : Nat} (hd : 30 ≤ d) {L9 i9 : Nat} {Q : qm_Po} (hn : lwN d L9 i9 Q) {σ : qm_Sg} {Z : SS9} (hc : cI σ Z) (hm : mI σ Z) (hW : wS Z) (hs : scL σ L9) (hL : L9 ≤ 3072) (hi : i9 + 6 ≤ L9) : qm_Wp (qm_M d) qk_197 Q 563 [some (vR 100 0), some (vR 0 0), some (vR 50 0), some (vI (nI i9))] [] σ := by
  refine qm_go 2 (fun P hP => oc_undo (by omega) hc hW (fun σ1 F1 c1 => hP ?_))
  have hs1 := hs.c F1
  refine qm_go 2 (fun P hP => om_undo (by omega) (hm.fc F1) hW (fun σ2 F2 m2 => hP ?_))
  refine qm_go 1 (fun P hP => And.intro (fun _ => hP ?_) (fun z => absurd rfl z))
  exact hn σ2 _ (c1.fm F2) m2 (w_undo hW) (hs1.m F2)
theorem lw_24 {d : Nat} (hd : 30 ≤ d) {L9 i9 : Nat} {Q : qm_Po} (hn : lwN d L9 i9 Q) {σ : qm_Sg} {Z : SS9} (hc : cI σ Z) (hm : mI σ Z) (hW : wS Z) (hs : scL σ L9) (hL : L9 ≤ 3072) (hi : i9 + 6 ≤ L9) : qm_Wp (qm_M d) qk_197 Q 570 [some (vR 100 0), some (vR 0 0), some (vR 50 0), some (vI (nI i9))] [] σ := by
  refine qm_go 6 (fun P hP => Exists.intro (i9 + 1) (And.intro (And.intro (nI_add i9 1) (hs.b hL hi (by omega))) (hP ?_)))
  refine qm_go 5 (fun P hP => Exists.intro (i9 + 2) (And.intro (And.intro (nI_add i9 2) (hs.b hL hi (by omega))) (hP ?_)))
  refine qm_go 5 (fun P hP => Exists.intro (i9 + 3) (And.intro (And.intro (nI_add i9 3) (hs.b hL hi (by omega))) (hP ?_)))
  refine qm_go 1 (fun P hP => oc_act (by omega) hc hW (fun σ1 F1 c1 => hP ?_))
  have hs1 := hs.c F1
  refine qm_go 6 (fun P hP => Exists.intro (i9 + 1) (And.intro (And.intro (nI_add i9 1) (hs1.b hL hi (by omega))) (hP ?_)))
  rw [(F1 100 0 (i9 + 1) (by omega)).1]
  refine qm_go 5 (fun P hP => Exists.intro (i9 + 2) (And.intro (And.intro (nI_add i9 2) (hs1.b hL hi (by omega))) (hP ?_)))
  rw [(F1 100 0 (i9 + 2) (by omega)).1]
  refine qm_go 5 (fun P hP => Exists.intro (i9 + 3) (And.intro (And.intro (nI_add i9 3) (hs1.b hL hi (by omega))) (hP ?_)))
  rw [(F1 100 0 (i9 + 3) (by omega)).1]
  refine qm_go 1 (fun P hP => om_act (by omega) (hm.fc F1) hW (fun σ2 F2 m2 => hP ?_))
  refine qm_go 1 (fun P hP => And.intro (fun _ => hP ?_) (fun z => absurd rfl z))
  exact hn σ2 _ (c1.fm F2) m2 (w_act hW (actR_len _ _ _ _)) (hs1.m F2)
theorem lw_25 {d : Nat} (hd : 30 ≤ d) {L9 i9 : Nat} {Q : qm_Po} (hn : lwN d L9 i9 Q) {σ : qm_Sg} {Z : SS9} (hc : cI σ Z) (hm : mI σ Z) (hW : wS Z) (hs : scL σ L9) (hL : L9 ≤ 3072) (hi : i9 + 6 ≤ L9) : qm_Wp (qm_M d) qk_197 Q 607 [some (vR 100 0), some (vR 0 0), some (vR 50 0), some (vI (nI i9))] [] σ := by
  refine qm_go 6 (fun P hP => Exists.intro (i9 + 1) (And.intro (And.intro (nI_add i9 1) (hs.b hL hi (by omega))) (hP ?_)))
  refine qm_go 1 (fun P hP => oc_trace (by omega) hc hW (fun σ1 F1 c1 => hP ?_))
  have hs1 := hs.c F1
  refine qm_go 6 (fun P hP => Exists.intro (i9 + 1) (And.intro (And.intro (nI_add i9 1) (hs1.b hL hi (by omega))) (hP ?_)))
  rw [(F1 100 0 (i9 + 1) (by omega)).1]
  refine qm_go 1 (fun P hP => om_trace (by omega) (hm.fc F1) hW (fun σ2 F2 m2 => hP ?_))
  refine qm_go 1 (fun P hP => And.intro (fun _ => hP ?_) (fun z => absurd rfl z))
  exact hn σ2 _ (c1.fm F2) m2 (hW) (hs1.m F2)
theorem lw_26 {d : Nat} (hd : 30 ≤ d) {L9 i9 : Nat} {Q : qm_Po} (hn : lwN d L9 i9 Q) {σ : qm_Sg} {Z : SS9} (hc : cI σ Z) (hm : mI σ Z) (hW : wS Z) (hs : scL σ L9) (hL : L9 ≤ 3072) (hi : i9 + 6 ≤ L9) : qm_Wp (qm_M d) qk_197 Q 624 [some (vR 100 0), some (vR 0 0), some (vR 50 0), some (vI (nI i9))] [] σ := by
  refine qm_go 6 (fun P hP => Exists.intro (i9 + 1) (And.intro (And.intro (nI_add i9 1) (hs.b hL hi (by omega))) (hP ?_)))
  refine qm_go 5 (fun P hP => Exists.intro (i9 + 2) (And.intro (And.intro (nI_add i9 2) (hs.b hL hi (by omega))) (hP ?_)))
  refine qm_go 1 (fun P hP => oc_taken (by omega) hc hW (fun σ1 F1 c1 => hP ?_))
  have hs1 := hs.c F1
  refine qm_go 6 (fun P hP => Exists.intro (i9 + 1) (And.intro (And.intro (nI_add i9 1) (hs1.b hL hi (by omega))) (hP ?_)))
  rw [(F1 100 0 (i9 + 1) (by omega)).1]
  refine qm_go 5 (fun P hP => Exists.intro (i9 + 2) (And.intro (And.intro (nI_add i9 2) (hs1.b hL hi (by omega))) (hP ?_)))
  rw [(F1 100 0 (i9 + 2) (by omega)).1]
  refine qm_go 1 (fun P hP => om_taken (by omega) (hm.fc F1) hW (fun σ2 F2 m2 => hP ?_))
  refine qm_go 1 (fun P hP => And.intro (fun _ => hP ?_) (fun z => absurd rfl z))
  exact hn σ2 _ (c1.fm F2) m2 (hW) (hs1.m F2)
theorem lw_27 {d : Nat} (hd : 30 ≤ d) {L9 i9 : Nat} {Q : qm_Po} (hn : lwN d L9 i9 Q) {σ : qm_Sg} {Z : SS9} (hc : cI σ Z) (hm : mI σ Z) (hW : wS Z) (hs : scL σ L9) (hL : L9 ≤ 3072) (hi : i9 + 6 ≤ L9) : qm_Wp (qm_M d) qk_197 Q 651 [some (vR 100 0), some (vR 0 0), some (vR 50 0), some (vI (nI i9))] [] σ := by
  refine qm_go 6 (fun P hP => Exists.intro (i9 + 1) (And.intro (And.intro (nI_add i9 1) (hs.b hL hi (by omega))) (hP ?_)))
  refine qm_go 1 (fun P hP => oc_count (by omega) hc hW (fun σ1 F1 c1 => hP ?_))
  have hs1 := hs.c F1
  refine qm_go 6 (fun P hP => Exists.intro (i9 + 1) (And.intro (And.intro (nI_add i9 1) (hs1.b hL hi (by omega))) (hP ?_)))
  rw [(F1 100 0 (i9 + 1) (by omega)).1]
  refine qm_go 1 (fun P hP => om_count (by omega) (hm.fc F1) hW (fun σ2 F2 m2 => hP ?_))
  refine qm_go 1 (fun P hP => And.intro (fun _ => hP ?_) (fun z => absurd rfl z))
  exact hn σ2 _ (c1.fm F2) m2 (hW) (hs1.m F2)
theorem lw_28 {d : Nat} (hd : 30 ≤ d) {L9 i9 : Nat} {Q : qm_Po} (hn : lwN d L9 i9 Q) {σ : qm_Sg} {Z : SS9} (hc : cI σ Z) (hm : mI σ Z) (hW : wS Z) (hs : scL σ L9) (hL : L9 ≤ 3072) (hi : i9 + 6 ≤ L9) : qm_Wp (qm_M d) qk_197 Q 668 [some (vR 100 0), some (vR 0 0), some (vR 50 0), some (vI (nI i9))] [] σ := by
  refine qm_go 6 (fun P hP => Exists.intro (i9 + 1) (And.intro (And.intro (nI_add i9 1) (hs.b hL hi (by omega))) (hP ?_)))
  refine qm_go 5 (fun P hP => Exists.intro (i9 + 2) (And.intro (And.intro (nI_add i9 2) (hs.b hL hi (by omega))) (hP ?_)))
  refine qm_go 5 (fun P hP => Exists.intro (i9 + 3) (And.intro (And.intro (nI_add i9 3) (hs.b hL hi (by omega))) (hP ?_)))
  refine qm_go 1 (fun P hP => oc_tape (by omega) hc hW (fun σ1 F1 c1 => hP ?_))
  have hs1 := hs.c F1
  refine qm_go 6 (fun P hP => Exists.intro (i9 + 1) (And.intro (And.intro (nI_add i9 1) (hs1.b hL hi (by omega))) (hP ?_)))
  rw [(F1 100 0 (i9 + 1) (by omega)).1]
  refine qm_go 5 (fun P hP => Exists.intro (i9 + 2) (And.intro (And.intro (nI_add i9 2) (hs1.b hL hi (by omega))) (hP ?_)))
  rw [(F1 100 0 (i9 + 2) (by omega)).1]
  refine qm_go 5 (fun P hP => Exists.intro (i9 + 3) (And.intro (And.intro (nI_add i9 3) (hs1.b hL hi (by omega))) (hP ?_)))
  rw [(F1 100 0 (i9 + 3) (by omega)).1]
  refine qm_go 1 (fun P hP => om_tape (by omega) (hm.fc F1) hW (fun σ2 F2 m2 => hP ?_))
  refine qm_go 1 (fun P hP => And.intro (fun _ => hP ?_) (fun z => absurd rfl z))
  exact hn σ2 _ (c1.fm F2) m2 (w_tap hW (wf_tp hW.2.2.2.2.2)) (hs1.m F2)
theorem lw_29 {d : Nat} (hd : 30 ≤ d) {L9 i9 : Nat} {Q : qm_Po} (hn : lwN d L9 i9 Q) {σ : qm_Sg} {Z : SS9} (hc : cI σ Z) (hm : mI σ Z) (hW : wS Z) (hs : scL σ L9) (hL : L9 ≤ 3072) (hi : i9 + 6 ≤ L9) : qm_Wp (qm_M d) qk_197 Q 705 [some (vR 100 0), some (vR 0 0), some (vR 50 0), some (vI (nI i9))] [] σ := by
  refine qm_go 6 (fun P hP => Exists.intro (i9 + 1) (And.intro (And.intro (nI_add i9 1) (hs.b hL hi (by omega))) (hP ?_)))
  refine qm_go 5 (fun P hP => Exists.intro (i9 + 2) (And.intro (And.intro (nI_add i9 2) (hs.b hL hi (by omega))) (hP ?_)))
  refine qm_go 5 (fun P hP => Exists.intro (i9 + 3) (And.intro (And.intro (nI_add i9 3) (hs.b hL hi (by omega))) (hP ?_)))
  refine qm_go 8 (fun P hP => Exists.intro (i9 + 4) (And.intro (And.intro (nI_add i9 4) (hs.b hL hi (by omega))) (hP ?_)))
  refine qm_go 5 (fun P hP => oc_item (by omega) hc hW (fun σ1 F1 c1 => hP ?_))
  have hs1 := hs.c F1
  refine qm_go 6 (fun P hP => Exists.intro (i9 + 1) (And.intro (And.intro (nI_add i9 1) (hs1.b hL hi (by omega))) (hP ?_)))
  rw [(F1 100 0 (i9 + 1) (by omega)).1]
  refine qm_go 5 (fun P hP => Exists.intro (i9 + 2) (And.intro (And.intro (nI_add i9 2) (hs1.b hL hi (by omega))) (hP ?_)))
  rw [(F1 100 0 (i9 + 2) (by omega)).1]
  refine qm_go 5 (fun P hP => Exists.intro (i9 + 3) (And.intro (And.intro (nI_add i9 3) (hs1.b hL hi (by omega))) (hP ?_)))
  rw [(F1 100 0 (i9 + 3) (by omega)).1]
  refine qm_go 8 (fun P hP => Exists.intro (i9 + 4) (And.intro (And.intro (nI_add i9 4) (hs1.b hL hi (by omega))) (hP ?_)))
  rw [(F1 100 0 (i9 + 4) (by omega)).1]
  refine qm_go 5 (fun P hP => om_item (by omega) (hm.fc F1) hW (fun σ2 F2 m2 => hP ?_))
  refine qm_go 1 (fun P hP => And.intro (fun _ => hP ?_) (fun z => absurd rfl z))
  exact hn σ2 _ (c1.fm F2) m2 (w_tap hW (wf_it hW.2.2.2.2.2)) (hs1.m F2)
theorem lw_30 {d : Nat} (hd : 30 ≤ d) {L9 i9 : Nat} {Q : qm_Po} (hn : lwN d L9 i9 Q) {σ : qm_Sg} {Z : SS9} (hc : cI σ Z) (hm : mI σ Z) (hW : wS Z) (hs : scL σ L9) (hL : L9 ≤ 3072) (hi : i9 + 6 ≤ L9) : qm_Wp (qm_M d) qk_197 Q 766 [some (vR 100 0), some (vR 0 0), some (vR 50 0), some (vI (nI i9))] [] σ := by
  refine qm_go 6 (fun P hP => Exists.intro (i9 + 1) (And.intro (And.intro (nI_add i9 1) (hs.b hL hi (by omega))) (hP ?_)))
  refine qm_go 5 (fun P hP => Exists.intro (i9 + 2) (And.intro (And.intro (nI_add i9 2) (hs.b hL hi (by omega))) (hP ?_)))
  refine qm_go 1 (fun P hP => oc_read (by omega) hc hW (fun σ1 F1 c1 => hP ?_))
  have hs1 := hs.c F1
  refine qm_go 6 (fun P hP => Exists.intro (i9 + 1) (And.intro (And.intro (nI_add i9 1) (hs1.b hL hi (by omega))) (hP ?_)))
  rw [(F1 100 0 (i9 + 1) (by omega)).1]
  refine qm_go 5 (fun P hP => Exists.intro (i9 + 2) (And.intro (And.intro (nI_add i9 2) (hs1.b hL hi (by omega))) (hP ?_)))
  rw [(F1 100 0 (i9 + 2) (by omega)).1]
  refine qm_go 1 (fun P hP => om_read (by omega) (hm.fc F1) hW (fun σ2 F2 m2 => hP ?_))
  refine qm_go 2 (fun P hP => And.intro (fun _ => hP ?_) (fun z => absurd ((lg_cmp_eq _ _).mpr rfl) z))
  exact hn σ2 _ (c1.fm F2) m2 (hW) (hs1.m F2)
theorem lw_31 {d : Nat} (hd : 30 ≤ d) {L9 i9 : Nat} {Q : qm_Po} (hn : lwN d L9 i9 Q) {σ : qm_Sg} {Z : SS9} (hc : cI σ Z) (hm : mI σ Z) (hW : wS Z) (hs : scL σ L9) (hL : L9 ≤ 3072) (hi : i9 + 6 ≤ L9) : qm_Wp (qm_M d) qk_197 Q 794 [some (vR 100 0), some (vR 0 0), some (vR 50 0), some (vI (nI i9))] [] σ := by
  refine qm_go 6 (fun P hP => Exists.intro (i9 + 1) (And.intro (And.intro (nI_add i9 1) (hs.b hL hi (by omega))) (hP ?_)))
  refine qm_go 5 (fun P hP => Exists.intro (i9 + 2) (And.intro (And.intro (nI_add i9 2) (hs.b hL hi (by omega))) (hP ?_)))
  refine qm_go 5 (fun P hP => Exists.intro (i9 + 3) (And.intro (And.intro (nI_add i9 3) (hs.b hL hi (by omega))) (hP ?_)))
  refine qm_go 5 (fun P hP => Exists.intro (i9 + 4) (And.intro (And.intro (nI_add i9 4) (hs.b hL hi (by omega))) (hP ?_)))
  refine qm_go 5 (fun P hP => Exists.intro (i9 + 5) (And.intro (And.intro (nI_add i9 5) (hs.b hL hi (by omega))) (hP ?_)))
  refine qm_go 1 (fun P hP => oc_shift (by omega) hc hW (fun σ1 F1 c1 => hP ?_))
  have hs1 := hs.c F1
  refine qm_go 6 (fun P hP => Exists.intro (i9 + 1) (And.intro (And.intro (nI_add i9 1) (hs1.b hL hi (by omega))) (hP ?_)))
  rw [(F1 100 0 (i9 + 1) (by omega)).1]
  refine qm_go 5 (fun P hP => Exists.intro (i9 + 2) (And.intro (And.intro (nI_add i9 2) (hs1.b hL hi (by omega))) (hP ?_)))
  rw [(F1 100 0 (i9 + 2) (by omega)).1]
  refine qm_go 5 (fun P hP => Exists.intro (i9 + 3) (And.intro (And.intro (nI_add i9 3) (hs1.b hL hi (by omega))) (hP ?_)))
  rw [(F1 100 0 (i9 + 3) (by omega)).1]
  refine qm_go 5 (fun P hP => Exists.intro (i9 + 4) (And.intro (And.intro (nI_add i9 4) (hs1.b hL hi (by omega))) (hP ?_)))
  rw [(F1 100 0 (i9 + 4) (by omega)).1]
  refine qm_go 5 (fun P hP => Exists.intro (i9 + 5) (And.intro (And.intro (nI_add i9 5) (hs1.b hL hi (by omega))) (hP ?_)))
  rw [(F1 100 0 (i9 + 5) (by omega)).1]
  refine qm_go 1 (fun P hP => om_shift (by omega) (hm.fc F1) hW (fun σ2 F2 m2 => hP ?_))
  refine qm_go 1 (fun P hP => And.intro (fun _ => hP ?_) (fun z => absurd rfl z))
  exact hn σ2 _ (c1.fm F2) m2 (w_tap hW (wf_sh hW.2.2.2.2.2)) (hs1.m F2)
theorem law_l {d : Nat} (hd : 30 ≤ d) {L9 : Nat} {Q : qm_Po} (hL : L9 ≤ 3072) (h : ∀ σ, Q σ (some (vI 1))) : ∀ (k i9 : Nat) (σ : qm_Sg) (Z : SS9), L9 ≤ i9 + 6 * k → i9 ≤ L9 + 6 → cI σ Z → mI σ Z → wS Z → scL σ L9 → qm_Wp (qm_M d) qk_197 Q 10 [some (vR 100 0), some (vR 0 0), some (vR 50 0), some (vI (nI i9))] [] σ := by
  intro k
  induction k with
  | zero =>
    intro i9 σ Z hk hi9 hc hm hW hs
    have e1 : σ.1 100 1 0 = nI L9 := hs
    refine qm_go 6 (fun P hP => And.intro (fun _ => hP ?_) (fun z => absurd ?_ z))
    · exact qm_go 2 (fun P hP => And.intro rfl (h σ))
    · rw [e1, i_lt, show (6 : Int32) = nI 6 from rfl, pk_sub_toInt (by omega) (by omega), nI_toInt (by omega)]
      omega
  | succ k ih =>
    intro i9 σ Z hk hi9 hc hm hW hs
    have e1 : σ.1 100 1 0 = nI L9 := hs
    by_cases hi : i9 + 6 ≤ L9
    · refine qm_go 6 (fun P hP => And.intro (fun z => absurd z ?_) (fun _ => hP ?_))
      · rw [e1, i_lt, show (6 : Int32) = nI 6 from rfl, pk_sub_toInt (by omega) (by omega), nI_toInt (by omega)]
        omega
      · have hn : lwN d L9 i9 Q := fun σ Z hc hm hW hs => by
          refine qm_go 2 (fun P hP => hP ?_)
          rw [show nI i9 + 6 = nI (i9 + 6) from nI_add i9 6]
          exact ih (i9 + 6) σ Z (by omega) (by omega) hc hm hW hs
        refine qm_go 3 (fun P hP => Exists.intro (i9) (And.intro (And.intro (rfl) (hs.b (k9 := 0) hL hi (by omega))) (hP ?_)))
        exact qm_go 3 (fun P hP => And.intro (fun _ => hP (lw_0 hd hn hc hm hW hs hL hi)) (fun _ => And.intro (fun _ => hP (lw_1 hd hn hc hm hW hs hL hi)) (fun _ => And.intro (fun _ => hP (lw_2 hd hn hc hm hW hs hL hi)) (fun _ => And.intro (fun _ => hP (lw_3 hd hn hc hm hW hs hL hi)) (fun _ => And.intro (fun _ => hP (lw_4 hd hn hc hm hW hs hL hi)) (fun _ => And.intro (fun _ => hP (lw_5 hd hn hc hm hW hs hL hi)) (fun _ => And.intro (fun _ => hP (lw_6 hd hn hc hm hW hs hL hi)) (fun _ => And.intro (fun _ => hP (lw_7 hd hn hc hm hW hs hL hi)) (fun _ => And.intro (fun _ => hP (lw_8 hd hn hc hm hW hs hL hi)) (fun _ => And.intro (fun _ => hP (lw_9 hd hn hc hm hW hs hL hi)) (fun _ => And.intro (fun _ => hP (lw_10 hd hn hc hm hW hs hL hi)) (fun _ => And.intro (fun _ => hP (lw_11 hd hn hc hm hW hs hL hi)) (fun _ => And.intro (fun _ => hP (lw_12 hd hn hc hm hW hs hL hi)) (fun _ => And.intro (fun _ => hP (lw_13 hd hn hc hm hW hs hL hi)) (fun _ => And.intro (fun _ => hP (lw_14 hd hn hc hm hW hs hL hi)) (fun _ => And.intro (fun _ => hP (lw_15 hd hn hc hm hW hs hL hi)) (fun _ => And.intro (fun _ => hP (lw_16 hd hn hc hm hW hs hL hi)) (fun _ => And.intro (fun _ => hP (lw_17 hd hn hc hm hW hs hL hi)) (fun _ => And.intro (fun _ => hP (lw_18 hd hn hc hm hW hs hL hi)) (fun _ => And.intro (fun _ => hP (lw_19 hd hn hc hm hW hs hL hi)) (fun _ => And.intro (fun _ => hP (lw_20 hd hn hc hm hW hs hL hi)) (fun _ => And.intro (fun _ => hP (lw_21 hd hn hc hm hW hs hL hi)) (fun _ => And.intro (fun _ => hP (lw_22 hd hn hc hm hW hs hL hi)) (fun _ => And.intro (fun _ => hP (lw_23 hd hn hc hm hW hs hL hi)) (fun _ => And.intro (fun _ => hP (lw_24 hd hn hc hm hW hs hL hi)) (fun _ => And.intro (fun _ => hP (lw_25 hd hn hc hm hW hs hL hi)) (fun _ => And.intro (fun _ => hP (lw_26 hd hn hc hm hW hs hL hi)) (fun _ => And.intro (fun _ => hP (lw_27 hd hn hc hm hW hs hL hi)) (fun _ => And.intro (fun _ => hP (lw_28 hd hn hc hm hW hs hL hi)) (fun _ => And.intro (fun _ => hP (lw_29 hd hn hc hm hW hs hL hi)) (fun _ => And.intro (fun _ => hP (lw_30 hd hn hc hm hW hs hL hi)) (fun _ => And.intro (fun _ => hP (lw_31 hd hn hc hm hW hs hL hi)) (fun _ => hP (hn σ Z hc hm hW hs))))))))))))))))))))))))))))))))))
    · refine qm_go 6 (fun P hP => And.intro (fun _ => hP ?_) (fun z => absurd ?_ z))
      · exact qm_go 2 (fun P hP => And.intro rfl (h σ))
      · rw [e1, i_lt, show (6 : Int32) = nI 6 from rfl, pk_sub_toInt (by omega) (by omega), nI_toInt (by omega)]
        omega
