def qm_fl : List qm_AV → qm_Lo
  | [] => []
  | .inl (.inr x) :: l => some (.inl (.inr x)) :: none :: qm_fl l
  | .inl (.inl x) :: l => some (.inl (.inl x)) :: qm_fl l
  | .inr q :: l => some (.inr q) :: qm_fl l
def qm_in (n : Nat) (as : List qm_AV) : qm_Lo := qm_fl as ++ List.replicate (n - (qm_fl as).length) none
def qm_Mo (C : qm_Ca) : Prop := ∀ (id : Nat) (as : List qm_AV) (σ : qm_Sg) (Q Q' : qm_Po), (∀ σ r, Q σ r → Q' σ r) → C id as σ Q → C id as σ Q'
theorem qm_ld_mono {k k' : qm_AV → Prop} (hk : ∀ v, k v → k' v) : ∀ (L : qm_Lo) (n : Nat), qm_ld L n k → qm_ld L n k'
  | [], _, h => h
  | none :: _, 0, h => h
  | some v :: _, 0, h => hk v h
  | none :: l, n + 1, h => qm_ld_mono hk l n h
  | some _ :: l, n + 1, h => qm_ld_mono hk l n h
theorem qm_ldI_mono {k k' : Int32 → Prop} (hk : ∀ v, k v → k' v) {L : qm_Lo} {n : Nat} : qm_ldI L n k → qm_ldI L n k' := by
  refine qm_ld_mono ?_ L n
  intro v; rcases v with (x | x) | x <;> simp <;> exact hk _
theorem qm_ldL_mono {k k' : Int64 → Prop} (hk : ∀ v, k v → k' v) {L : qm_Lo} {n : Nat} : qm_ldL L n k → qm_ldL L n k' := by
  refine qm_ld_mono ?_ L n
  intro v; rcases v with (x | x) | x <;> simp <;> exact hk _
theorem qm_ldR_mono {k k' : Nat → Nat → Prop} (hk : ∀ t i, k t i → k' t i) {L : qm_Lo} {n : Nat} : qm_ldR L n k → qm_ldR L n k' := by
  refine qm_ld_mono ?_ L n
  intro v; rcases v with (x | x) | ⟨x, y⟩ <;> simp <;> exact hk _ _
theorem qm_st_mono {v : qm_AV} : ∀ (L : qm_Lo) (n : Nat) {k k' : qm_Lo → Prop}, (∀ l, k l → k' l) → qm_st L n v k → qm_st L n v k'
  | [], _, _, _, _, h => h
  | a :: l, 0, k, k', hk, h => by
    unfold qm_st at h ⊢
    exact hk _ h
  | a :: l, n + 1, k, k', hk, h => by
    rcases a with _ | ((x | x) | x) <;> rcases n with _ | n <;> unfold qm_st at h ⊢ <;> first | exact h | exact qm_st_mono l _ (fun _ h => hk _ h) h
theorem qm_p1_mono {st : List qm_AV} {k k' : Int32 → List qm_AV → Prop} (hk : ∀ a r, k a r → k' a r) (h : qm_p1 st k) : qm_p1 st k' := by
  unfold qm_p1 at *
  split at h
  · exact hk _ _ h
  · exact h.elim
theorem qm_p2_mono {st : List qm_AV} {k k' : Int32 → Int32 → List qm_AV → Prop} (hk : ∀ a b r, k a b r → k' a b r) (h : qm_p2 st k) : qm_p2 st k' := by
  unfold qm_p2 at *
  split at h
  · exact hk _ _ _ h
  · exact h.elim
theorem qm_q1_mono {st : List qm_AV} {k k' : Int64 → List qm_AV → Prop} (hk : ∀ a r, k a r → k' a r) (h : qm_q1 st k) : qm_q1 st k' := by
  unfold qm_q1 at *
  split at h
  · exact hk _ _ h
  · exact h.elim
theorem qm_q2_mono {st : List qm_AV} {k k' : Int64 → Int64 → List qm_AV → Prop} (hk : ∀ a b r, k a b r → k' a b r) (h : qm_q2 st k) : qm_q2 st k' := by
  unfold qm_q2 at *
  split at h
  · exact hk _ _ _ h
  · exact h.elim
theorem qm_pR_mono {st : List qm_AV} {k k' : Nat → Nat → List qm_AV → Prop} (hk : ∀ a b r, k a b r → k' a b r) (h : qm_pR st k) : qm_pR st k' := by
  unfold qm_pR at *
  split at h
  · exact hk _ _ _ h
  · exact h.elim
theorem qm_pV_mono {st : List qm_AV} {k k' : Nat → Nat → Int32 → List qm_AV → Prop} (hk : ∀ a b c r, k a b c r → k' a b c r) (h : qm_pV st k) : qm_pV st k' := by
  unfold qm_pV at *
  split at h
  · exact hk _ _ _ _ h
  · exact h.elim
theorem qm_pW_mono {st : List qm_AV} {k k' : Nat → Nat → Int32 → Int32 → List qm_AV → Prop} (hk : ∀ a b c d r, k a b c d r → k' a b c d r) (h : qm_pW st k) : qm_pW st k' := by
  unfold qm_pW at *
  split at h
  · exact hk _ _ _ _ _ h
  · exact h.elim
theorem qm_pX_mono {st : List qm_AV} {k k' : Nat → Nat → Int32 → Int64 → List qm_AV → Prop} (hk : ∀ a b c d r, k a b c d r → k' a b c d r) (h : qm_pX st k) : qm_pX st k' := by
  unfold qm_pX at *
  split at h
  · exact hk _ _ _ _ _ h
  · exact h.elim
theorem qm_dsp_mono {k k' : Nat → Prop} (hk : ∀ b, k b → k' b) : ∀ (l : List (Nat × Nat)) (c : Nat), qm_dsp l c k → qm_dsp l c k'
  | [], _, h => h
  | (a, b) :: l, c, h => by
    unfold qm_dsp at *
    cases hb : Nat.beq a c <;> rw [hb] at h
    · exact qm_dsp_mono hk l c h
    · exact hk _ h
theorem qm_sw_mono {k k' : Nat → Prop} {d d' : Prop} (hk : ∀ b, k b → k' b) (hd : d → d') : ∀ (l : List (Int32 × Nat)) (x : Int32), qm_sw l x k d → qm_sw l x k' d'
  | [], _, h => hd h
  | (v, t) :: l, x, h => ⟨fun q => hk _ (h.1 q), fun q => qm_sw_mono hk hd l x (h.2 q)⟩
theorem qm_pop_mono {k k' : List qm_AV → List qm_AV → Prop} (hk : ∀ a r, k a r → k' a r) : ∀ (n : Nat) (st acc : List qm_AV), qm_pop n st acc k → qm_pop n st acc k'
  | 0, _, _, h => hk _ _ h
  | n + 1, v :: st, acc, h => qm_pop_mono hk n st (v :: acc) h
  | _ + 1, [], _, h => h
theorem qm_nar_mono {n : Nat} {x : Int32} {X X' : Prop} (hk : X → X') (h : qm_nar n x X) : qm_nar n x X' := by
  unfold qm_nar at *
  cases hb : Nat.beq n 0 <;> rw [hb] at h
  · exact ⟨h.1, hk h.2⟩
  · exact hk h
theorem qm_bif_mono {b : Bool} {X X' : Prop} (hk : X → X') (h : bif b then X else False) : bif b then X' else False := by
  cases b
  · exact h
  · exact hk h
theorem qm_bif2_mono {b : Bool} {X X' Y Y' : Prop} (hk : X → X') (hy : Y → Y') (h : bif b then X else Y) : bif b then X' else Y' := by
  cases b
  · exact hy h
  · exact hk h
theorem qm_op_mono {o : Option (Nat × Nat)} {k k' : Nat × Nat → Prop} {d d' : Prop} (hk : ∀ q, k q → k' q) (hd : d → d') (h : qm_op o k d) : qm_op o k' d' := by
  cases o
  · exact hd h
  · exact hk _ h
theorem qm_ex_mono {n : Nat} {x : Int32} {k k' : Nat → Prop} (hk : ∀ j, k j → k' j) (h : qm_ex n x k) : qm_ex n x k' := Exists.imp (fun _ => And.imp_right (hk _)) h
theorem qm_cp_mono {a b n : Int32} {m m' : Nat} {k k' : Nat → Nat → Nat → Prop} (hk : ∀ a b n, k a b n → k' a b n) (h : qm_cp a b n m m' k) : qm_cp a b n m m' k' := Exists.imp (fun _ => Exists.imp (fun _ => Exists.imp (fun _ => And.imp_right (hk _ _ _)))) h
set_option maxHeartbeats 4000000 in
theorem qm_stp_mono {C C' : qm_Ca} {Q Q' : qm_Po} {P P' : qm_St} (hC : ∀ (id : Nat) (as : List qm_AV) (σ : qm_Sg) (R R' : qm_Po), (∀ σ r, R σ r → R' σ r) → C id as σ R → C' id as σ R') (hQ : ∀ σ r, Q σ r → Q' σ r) (hP : ∀ n L st σ, P n L st σ → P' n L st σ) (e : qm_En) (L : qm_Lo) (st : List qm_AV) (σ : qm_Sg) (h : qm_stp C Q P e L st σ) : qm_stp C' Q' P' e L st σ := by
  obtain ⟨ins, pc, nx, ax, kc, sw, dp⟩ := e
  unfold qm_stp at *
  dsimp only at *
  split at h
  all_goals first
    | exact h.elim
    | exact hP _ _ _ _ h
    | exact qm_ldI_mono (fun _ h => hP _ _ _ _ h) h
    | exact qm_ldL_mono (fun _ h => hP _ _ _ _ h) h
    | exact qm_ldR_mono (fun _ _ h => qm_bif2_mono (fun h => h) (fun h => hP _ _ _ _ h) h) h
    | exact qm_p2_mono (fun _ _ _ h => hP _ _ _ _ h) h
    | exact qm_p1_mono (fun _ _ h => hP _ _ _ _ h) h
    | exact qm_q2_mono (fun _ _ _ h => hP _ _ _ _ h) h
    | exact qm_q1_mono (fun _ _ h => hP _ _ _ _ h) h
    | exact qm_p1_mono (fun _ _ h => qm_q1_mono (fun _ _ h => hP _ _ _ _ h) h) h
    | exact qm_p2_mono (fun _ _ _ h => ⟨h.1, hP _ _ _ _ h.2⟩) h
    | exact qm_p1_mono (fun _ _ h => qm_st_mono _ _ (fun _ h => hP _ _ _ _ h) h) h
    | exact qm_pR_mono (fun _ _ _ h => qm_bif2_mono (fun h => h) (fun h => qm_st_mono _ _ (fun _ h => hP _ _ _ _ h) h) h) h
    | exact qm_ldI_mono (fun _ h => qm_st_mono _ _ (fun _ h => hP _ _ _ _ h) h) h
    | exact qm_p1_mono (fun _ _ h => ⟨fun q => hP _ _ _ _ (h.1 q), fun q => hP _ _ _ _ (h.2 q)⟩) h
    | exact qm_p2_mono (fun _ _ _ h => ⟨fun q => hP _ _ _ _ (h.1 q), fun q => hP _ _ _ _ (h.2 q)⟩) h
    | exact qm_p1_mono (fun _ _ h => qm_sw_mono (fun _ h => hP _ _ _ _ h) (fun h => hP _ _ _ _ h) _ _ h) h
    | exact qm_bif2_mono (fun h => hP _ _ _ _ h) (fun h => hP _ _ _ _ h) h
    | exact qm_pR_mono (fun _ _ _ h => qm_dsp_mono (fun _ h => hP _ _ _ _ h) _ _ h) h
    | exact qm_pR_mono (fun _ _ _ h => qm_dsp_mono (fun _ h => qm_op_mono (fun _ h => hP _ _ _ _ h) (fun h => hP _ _ _ _ h) h) _ _ h) h
    | exact qm_pV_mono (fun _ _ _ _ h => qm_dsp_mono (fun _ h => qm_op_mono (fun _ h => h) (fun h => qm_nar_mono (fun h => hP _ _ _ _ h) h) h) _ _ h) h
    | exact qm_pV_mono (fun _ _ _ _ h => qm_bif_mono (fun h => qm_ex_mono (fun _ h => qm_op_mono (fun _ h => hP _ _ _ _ h) (fun h => h) h) h) h) h
    | exact qm_pV_mono (fun _ _ _ _ h => qm_bif_mono (fun h => qm_ex_mono (fun _ h => hP _ _ _ _ h) h) h) h
    | exact qm_pW_mono (fun _ _ _ _ _ h => qm_bif_mono (fun h => qm_ex_mono (fun _ h => hP _ _ _ _ h) h) h) h
    | exact qm_pX_mono (fun _ _ _ _ _ h => qm_bif_mono (fun h => qm_ex_mono (fun _ h => hP _ _ _ _ h) h) h) h
    | exact qm_pV_mono (fun _ _ _ _ h => qm_bif2_mono (fun h => qm_ex_mono (fun _ h => hP _ _ _ _ h) h) (fun h => qm_bif_mono (fun h => qm_ex_mono (fun _ h => hP _ _ _ _ h) h) h) h) h
    | exact qm_pW_mono (fun _ _ _ _ _ h => qm_bif2_mono (fun h => qm_ex_mono (fun _ h => hP _ _ _ _ h) h) (fun h => qm_bif_mono (fun h => qm_ex_mono (fun _ h => hP _ _ _ _ h) h) h) h) h
    | exact qm_pR_mono (fun _ _ _ h => qm_bif2_mono (fun h => h.elim) (fun h => qm_bif2_mono (fun h => hP _ _ _ _ h) (fun h => qm_bif_mono (fun h => hP _ _ _ _ h) h) h) h) h
    | (split at h <;> first | exact h.elim | exact qm_bif_mono (fun h => hP _ _ _ _ h) h | exact hQ _ _ h | exact qm_nar_mono (fun h => hQ _ _ h) h)
    | (refine qm_pop_mono (fun as r h => ?_) _ _ _ h
       split at h
       · exact qm_dsp_mono (fun _ h => qm_bif_mono (fun h => hC _ _ _ _ _ (fun _ _ h => hP _ _ _ _ h) h) h) _ _ h
       · exact h.elim)
    | (split at h
       · split at h
         · exact qm_bif_mono (fun h => qm_bif2_mono (fun h => qm_cp_mono (fun _ _ _ h => hP _ _ _ _ h) h) (fun h => qm_bif_mono (fun h => qm_cp_mono (fun _ _ _ h => hP _ _ _ _ h) h) h) h) h
         · exact h.elim
       · exact qm_p2_mono (fun _ _ _ h => qm_bif_mono (fun h => hP _ _ _ _ h) h) h
       · exact qm_p2_mono (fun _ _ _ h => qm_bif_mono (fun h => hP _ _ _ _ h) h) h
       · exact qm_bif2_mono (fun h => h.elim) (fun h => qm_pop_mono (fun _ _ h => qm_bif_mono (fun h => hC _ _ _ _ _ (fun _ _ h => hP _ _ _ _ h) h) h) _ _ _ h) h)
theorem qm_F_mono {C C' : qm_Ca} {K : List (List qm_En)} {Q Q' : qm_Po} {P P' : qm_St} (hC : ∀ (id : Nat) (as : List qm_AV) (σ : qm_Sg) (R R' : qm_Po), (∀ σ r, R σ r → R' σ r) → C id as σ R → C' id as σ R') (hQ : ∀ σ r, Q σ r → Q' σ r) (hP : ∀ n L st σ, P n L st σ → P' n L st σ) {n : Nat} {L : qm_Lo} {st : List qm_AV} {σ : qm_Sg} (h : qm_F C K Q P n L st σ) : qm_F C' K Q' P' n L st σ := by
  unfold qm_F at *
  cases he : qm_nth K n with
  | none => rw [he] at h; exact h
  | some e => rw [he] at h; exact qm_stp_mono hC hQ hP _ _ _ _ h
theorem qm_fold {C : qm_Ca} {K : List (List qm_En)} {Q : qm_Po} (hC : qm_Mo C) {n : Nat} {L : qm_Lo} {st : List qm_AV} {σ : qm_Sg} (h : qm_F C K Q (qm_Wp C K Q) n L st σ) : qm_Wp C K Q n L st σ :=
  fun P hP => hP _ _ _ _ (qm_F_mono hC (fun _ _ h => h) (fun _ _ _ _ h => h P hP) h)
theorem qm_Wp_mono {C C' : qm_Ca} {K : List (List qm_En)} {Q Q' : qm_Po} (hC : ∀ (id : Nat) (as : List qm_AV) (σ : qm_Sg) (R R' : qm_Po), (∀ σ r, R σ r → R' σ r) → C id as σ R → C' id as σ R') (hQ : ∀ σ r, Q σ r → Q' σ r) {n : Nat} {L : qm_Lo} {st : List qm_AV} {σ : qm_Sg} (h : qm_Wp C K Q n L st σ) : qm_Wp C' K Q' n L st σ :=
  fun P hP => h P (fun _ _ _ _ hF => hP _ _ _ _ (qm_F_mono hC hQ (fun _ _ _ _ h => h) hF))
theorem qm_foldN {C : qm_Ca} {K : List (List qm_En)} {Q : qm_Po} (hC : qm_Mo C) : ∀ (k n : Nat) (L : qm_Lo) (st : List qm_AV) (σ : qm_Sg), qm_Fn C K Q (qm_Wp C K Q) k n L st σ → qm_Wp C K Q n L st σ
  | 0, _, _, _, _, h => h
  | k + 1, _, _, _, _, h => qm_fold hC (qm_F_mono hC (fun _ _ h => h) (fun n L st σ h => qm_foldN hC k n L st σ h) h)
def qm_M : Nat → qm_Ca
  | 0 => fun _ _ _ _ => False
  | d + 1 => fun id as σ Q => bif Nat.ble (qm_fl as).length (qm_mL id) then qm_Wp (qm_M d) (qm_K id) Q 0 (qm_in (qm_mL id) as) [] σ else False
theorem qm_M_mono : ∀ d : Nat, qm_Mo (qm_M d)
  | 0 => fun _ _ _ _ _ _ h => h
  | d + 1 => fun id as σ Q Q' hQ h => qm_bif_mono (fun h => qm_Wp_mono (qm_M_mono d) hQ h) h
theorem qm_M_up : ∀ (d : Nat) (id : Nat) (as : List qm_AV) (σ : qm_Sg) (Q : qm_Po), qm_M d id as σ Q → qm_M (d + 1) id as σ Q
  | 0, _, _, _, _, h => h.elim
  | d + 1, id, as, σ, Q, h => qm_bif_mono (fun h => qm_Wp_mono (fun id as σ R R' hR h => qm_M_mono (d + 1) id as σ R R' hR (qm_M_up d id as σ R h)) (fun _ _ h => h) h) h
theorem qm_go {d : Nat} {K : List (List qm_En)} {Q : qm_Po} {n : Nat} {L : qm_Lo} {st : List qm_AV} {σ : qm_Sg} (k : Nat) (h : ∀ P : qm_St, (∀ {n L st σ}, qm_Wp (qm_M d) K Q n L st σ → P n L st σ) → qm_Fn (qm_M d) K Q P k n L st σ) : qm_Wp (qm_M d) K Q n L st σ :=
  qm_foldN (qm_M_mono d) k n L st σ (h _ (fun h => h))
