def qm_Gd (p : Program) (l : Launch) (e : Env) (R : Room) (s : State) (m : MethodId) (args : Array Value) (below : List Frame) (meth : Method) (c : Code) (cells slots : Nat) (Z : State → Prop) (G : qm_Pr) (nL : Nat) (K : List (List qm_En)) : qm_St := fun n L st σ => ∀ (H : Heap) (locs : List Loc) (ls : Array Slot), va_P (gD G) vwCl (qm_ws G σ) H → va_S (gA G) s.heap H locs → qm_Es G σ → qm_LV G ls nL L → qm_okL L → qm_okS st → W p l e R s m args below meth c H locs cells slots Z (F0 m (qm_pc K n) ls (st.map (qm_cv G)))
def qm_Fx (p : Program) (s : State) (m : MethodId) (args : Array Value) (c : Code) (G : qm_Pr) (own nL : Nat) (cc : ByteArray) : Prop := p.tables.exec = Jvm.exec ∧ c.code = cc ∧ c.maxLocals = nL ∧ s.vm.findClass (qm_oS own) = some m.cls ∧ (∀ w ∈ qm_gt, w.before args s = true) ∧ va_K (gD G) vwCl (qm_ty G) s ∧ qm_Ex G s ∧ qm_Ga G
theorem qm_oT {v : qm_AV} {r : List qm_AV} (h : qm_okS (v :: r)) : qm_okS r := fun w hw => h w (List.mem_cons_of_mem _ hw)
theorem qm_oC {v : qm_AV} {r : List qm_AV} (hv : qm_okV v) (h : qm_okS r) : qm_okS (v :: r) := fun w hw => by
  rcases List.mem_cons.mp hw with e | e
  · rw [e]; exact hv
  · exact h w e
theorem qm_oI {x : Int32} {r : List qm_AV} (h : qm_okS r) : qm_okS (vI x :: r) := qm_oC trivial h
theorem qm_oJ {x : Int64} {r : List qm_AV} (h : qm_okS r) : qm_okS (vL x :: r) := qm_oC trivial h
theorem qm_oH {v : qm_AV} {r : List qm_AV} (h : qm_okS (v :: r)) : qm_okV v := h v List.mem_cons_self
theorem qm_oSet {L : qm_Lo} {n : Nat} {v : qm_AV} (h : qm_okL L) (hv : qm_okV v) : qm_okL (L.set n (some v)) := fun w hw => by
  rcases List.mem_or_eq_of_mem_set hw with e | e
  · exact h w e
  · cases e; exact hv
theorem qm_p1_e {st : List qm_AV} {k : Int32 → List qm_AV → Prop} (h : qm_p1 st k) : ∃ a r, st = vI a :: r ∧ k a r := by
  unfold qm_p1 at h
  split at h
  · exact ⟨_, _, rfl, h⟩
  · exact h.elim
theorem qm_p2_e {st : List qm_AV} {k : Int32 → Int32 → List qm_AV → Prop} (h : qm_p2 st k) : ∃ a b r, st = vI b :: vI a :: r ∧ k a b r := by
  unfold qm_p2 at h
  split at h
  · exact ⟨_, _, _, rfl, h⟩
  · exact h.elim
theorem qm_q1_e {st : List qm_AV} {k : Int64 → List qm_AV → Prop} (h : qm_q1 st k) : ∃ a r, st = vL a :: r ∧ k a r := by
  unfold qm_q1 at h
  split at h
  · exact ⟨_, _, rfl, h⟩
  · exact h.elim
theorem qm_q2_e {st : List qm_AV} {k : Int64 → Int64 → List qm_AV → Prop} (h : qm_q2 st k) : ∃ a b r, st = vL b :: vL a :: r ∧ k a b r := by
  unfold qm_q2 at h
  split at h
  · exact ⟨_, _, _, rfl, h⟩
  · exact h.elim
theorem qm_pR_e {st : List qm_AV} {k : Nat → Nat → List qm_AV → Prop} (h : qm_pR st k) : ∃ t i r, st = vR t i :: r ∧ k t i r := by
  unfold qm_pR at h
  split at h
  · exact ⟨_, _, _, rfl, h⟩
  · exact h.elim
theorem qm_pV_e {st : List qm_AV} {k : Nat → Nat → Int32 → List qm_AV → Prop} (h : qm_pV st k) : ∃ t i x r, st = vI x :: vR t i :: r ∧ k t i x r := by
  unfold qm_pV at h
  split at h
  · exact ⟨_, _, _, _, rfl, h⟩
  · exact h.elim
theorem qm_pW_e {st : List qm_AV} {k : Nat → Nat → Int32 → Int32 → List qm_AV → Prop} (h : qm_pW st k) : ∃ t i x y r, st = vI y :: vI x :: vR t i :: r ∧ k t i x y r := by
  unfold qm_pW at h
  split at h
  · exact ⟨_, _, _, _, _, rfl, h⟩
  · exact h.elim
theorem qm_pX_e {st : List qm_AV} {k : Nat → Nat → Int32 → Int64 → List qm_AV → Prop} (h : qm_pX st k) : ∃ t i x y r, st = vL y :: vI x :: vR t i :: r ∧ k t i x y r := by
  unfold qm_pX at h
  split at h
  · exact ⟨_, _, _, _, _, rfl, h⟩
  · exact h.elim
section SOUND
variable {p : Program} {l : Launch} {e : Env} {R : Room} {s : State} {m : MethodId} {args : Array Value} {below : List Frame} {meth : Method} {c : Code} {cells slots : Nat} {Z : State → Prop} {G : qm_Pr} {own nL : Nat} {cc : ByteArray} {K : List (List qm_En)} {pc nx ax n : Nat} {kc : Int32} {L : qm_Lo} {st : List qm_AV} {σ : qm_Sg}
theorem qs_iadd (F : qm_Fx p s m args c G own nL cc) (hd : decode cc pc = .ok (.iadd, 1)) (hn : qm_pc K nx = pc + 1) (hpc : qm_pc K n = pc) (h : qm_p2 st (fun a b r => qm_Gd p l e R s m args below meth c cells slots Z G nL K nx L (vI (a + b) :: r) σ)) : qm_Gd p l e R s m args below meth c cells slots Z G nL K n L st σ := by
  obtain ⟨hx, hb, hml, hown, hts, hK, hE, hG⟩ := F
  obtain ⟨a, b, r, rfl, h⟩ := qm_p2_e h
  intro H locs ls hP hS hEs hL hoL hoS
  rw [hpc]
  have k := h H locs ls hP hS hEs hL hoL (qm_oI (qm_oT (qm_oT hoS)))
  rw [hn] at k
  exact lv_iadd hx hb hd k
theorem qs_isub (F : qm_Fx p s m args c G own nL cc) (hd : decode cc pc = .ok (.isub, 1)) (hn : qm_pc K nx = pc + 1) (hpc : qm_pc K n = pc) (h : qm_p2 st (fun a b r => qm_Gd p l e R s m args below meth c cells slots Z G nL K nx L (vI (a - b) :: r) σ)) : qm_Gd p l e R s m args below meth c cells slots Z G nL K n L st σ := by
  obtain ⟨hx, hb, hml, hown, hts, hK, hE, hG⟩ := F
  obtain ⟨a, b, r, rfl, h⟩ := qm_p2_e h
  intro H locs ls hP hS hEs hL hoL hoS
  rw [hpc]
  have k := h H locs ls hP hS hEs hL hoL (qm_oI (qm_oT (qm_oT hoS)))
  rw [hn] at k
  exact lv_isub hx hb hd k
theorem qs_imul (F : qm_Fx p s m args c G own nL cc) (hd : decode cc pc = .ok (.imul, 1)) (hn : qm_pc K nx = pc + 1) (hpc : qm_pc K n = pc) (h : qm_p2 st (fun a b r => qm_Gd p l e R s m args below meth c cells slots Z G nL K nx L (vI (a * b) :: r) σ)) : qm_Gd p l e R s m args below meth c cells slots Z G nL K n L st σ := by
  obtain ⟨hx, hb, hml, hown, hts, hK, hE, hG⟩ := F
  obtain ⟨a, b, r, rfl, h⟩ := qm_p2_e h
  intro H locs ls hP hS hEs hL hoL hoS
  rw [hpc]
  have k := h H locs ls hP hS hEs hL hoL (qm_oI (qm_oT (qm_oT hoS)))
  rw [hn] at k
  exact lv_imul hx hb hd k
theorem qs_iand (F : qm_Fx p s m args c G own nL cc) (hd : decode cc pc = .ok (.iand, 1)) (hn : qm_pc K nx = pc + 1) (hpc : qm_pc K n = pc) (h : qm_p2 st (fun a b r => qm_Gd p l e R s m args below meth c cells slots Z G nL K nx L (vI (a &&& b) :: r) σ)) : qm_Gd p l e R s m args below meth c cells slots Z G nL K n L st σ := by
  obtain ⟨hx, hb, hml, hown, hts, hK, hE, hG⟩ := F
  obtain ⟨a, b, r, rfl, h⟩ := qm_p2_e h
  intro H locs ls hP hS hEs hL hoL hoS
  rw [hpc]
  have k := h H locs ls hP hS hEs hL hoL (qm_oI (qm_oT (qm_oT hoS)))
  rw [hn] at k
  exact lv_iand hx hb hd k
theorem qs_ior (F : qm_Fx p s m args c G own nL cc) (hd : decode cc pc = .ok (.ior, 1)) (hn : qm_pc K nx = pc + 1) (hpc : qm_pc K n = pc) (h : qm_p2 st (fun a b r => qm_Gd p l e R s m args below meth c cells slots Z G nL K nx L (vI (a ||| b) :: r) σ)) : qm_Gd p l e R s m args below meth c cells slots Z G nL K n L st σ := by
  obtain ⟨hx, hb, hml, hown, hts, hK, hE, hG⟩ := F
  obtain ⟨a, b, r, rfl, h⟩ := qm_p2_e h
  intro H locs ls hP hS hEs hL hoL hoS
  rw [hpc]
  have k := h H locs ls hP hS hEs hL hoL (qm_oI (qm_oT (qm_oT hoS)))
  rw [hn] at k
  exact lv_ior hx hb hd k
theorem qs_ixor (F : qm_Fx p s m args c G own nL cc) (hd : decode cc pc = .ok (.ixor, 1)) (hn : qm_pc K nx = pc + 1) (hpc : qm_pc K n = pc) (h : qm_p2 st (fun a b r => qm_Gd p l e R s m args below meth c cells slots Z G nL K nx L (vI (a ^^^ b) :: r) σ)) : qm_Gd p l e R s m args below meth c cells slots Z G nL K n L st σ := by
  obtain ⟨hx, hb, hml, hown, hts, hK, hE, hG⟩ := F
  obtain ⟨a, b, r, rfl, h⟩ := qm_p2_e h
  intro H locs ls hP hS hEs hL hoL hoS
  rw [hpc]
  have k := h H locs ls hP hS hEs hL hoL (qm_oI (qm_oT (qm_oT hoS)))
  rw [hn] at k
  exact lv_ixor hx hb hd k
theorem qs_ishl (F : qm_Fx p s m args c G own nL cc) (hd : decode cc pc = .ok (.ishl, 1)) (hn : qm_pc K nx = pc + 1) (hpc : qm_pc K n = pc) (h : qm_p2 st (fun a b r => qm_Gd p l e R s m args below meth c cells slots Z G nL K nx L (vI (a <<< (b &&& 31)) :: r) σ)) : qm_Gd p l e R s m args below meth c cells slots Z G nL K n L st σ := by
  obtain ⟨hx, hb, hml, hown, hts, hK, hE, hG⟩ := F
  obtain ⟨a, b, r, rfl, h⟩ := qm_p2_e h
  intro H locs ls hP hS hEs hL hoL hoS
  rw [hpc]
  have k := h H locs ls hP hS hEs hL hoL (qm_oI (qm_oT (qm_oT hoS)))
  rw [hn] at k
  exact lv_ishl hx hb hd k
theorem qs_ishr (F : qm_Fx p s m args c G own nL cc) (hd : decode cc pc = .ok (.ishr, 1)) (hn : qm_pc K nx = pc + 1) (hpc : qm_pc K n = pc) (h : qm_p2 st (fun a b r => qm_Gd p l e R s m args below meth c cells slots Z G nL K nx L (vI (a >>> (b &&& 31)) :: r) σ)) : qm_Gd p l e R s m args below meth c cells slots Z G nL K n L st σ := by
  obtain ⟨hx, hb, hml, hown, hts, hK, hE, hG⟩ := F
  obtain ⟨a, b, r, rfl, h⟩ := qm_p2_e h
  intro H locs ls hP hS hEs hL hoL hoS
  rw [hpc]
  have k := h H locs ls hP hS hEs hL hoL (qm_oI (qm_oT (qm_oT hoS)))
  rw [hn] at k
  exact lv_ishr hx hb hd k
theorem qs_iushr (F : qm_Fx p s m args c G own nL cc) (hd : decode cc pc = .ok (.iushr, 1)) (hn : qm_pc K nx = pc + 1) (hpc : qm_pc K n = pc) (h : qm_p2 st (fun a b r => qm_Gd p l e R s m args below meth c cells slots Z G nL K nx L (vI (a.toUInt32 >>> (b.toUInt32 &&& Int32.toUInt32 31)).toInt32 :: r) σ)) : qm_Gd p l e R s m args below meth c cells slots Z G nL K n L st σ := by
  obtain ⟨hx, hb, hml, hown, hts, hK, hE, hG⟩ := F
  obtain ⟨a, b, r, rfl, h⟩ := qm_p2_e h
  intro H locs ls hP hS hEs hL hoL hoS
  rw [hpc]
  have k := h H locs ls hP hS hEs hL hoL (qm_oI (qm_oT (qm_oT hoS)))
  rw [hn] at k
  exact lv_iushr hx hb hd rfl k
theorem qs_idiv (F : qm_Fx p s m args c G own nL cc) (hd : decode cc pc = .ok (.idiv, 1)) (hn : qm_pc K nx = pc + 1) (hpc : qm_pc K n = pc) (h : qm_p2 st (fun a b r => ¬ b = 0 ∧ qm_Gd p l e R s m args below meth c cells slots Z G nL K nx L (vI (a / b) :: r) σ)) : qm_Gd p l e R s m args below meth c cells slots Z G nL K n L st σ := by
  obtain ⟨hx, hb, hml, hown, hts, hK, hE, hG⟩ := F
  obtain ⟨a, b, r, rfl, h⟩ := qm_p2_e h
  obtain ⟨hne, h⟩ := h
  intro H locs ls hP hS hEs hL hoL hoS
  rw [hpc]
  have k := h H locs ls hP hS hEs hL hoL (qm_oI (qm_oT (qm_oT hoS)))
  rw [hn] at k
  exact lv_idiv hx hb hd hne k
theorem qs_irem (F : qm_Fx p s m args c G own nL cc) (hd : decode cc pc = .ok (.irem, 1)) (hn : qm_pc K nx = pc + 1) (hpc : qm_pc K n = pc) (h : qm_p2 st (fun a b r => ¬ b = 0 ∧ qm_Gd p l e R s m args below meth c cells slots Z G nL K nx L (vI (a - a / b * b) :: r) σ)) : qm_Gd p l e R s m args below meth c cells slots Z G nL K n L st σ := by
  obtain ⟨hx, hb, hml, hown, hts, hK, hE, hG⟩ := F
  obtain ⟨a, b, r, rfl, h⟩ := qm_p2_e h
  obtain ⟨hne, h⟩ := h
  intro H locs ls hP hS hEs hL hoL hoS
  rw [hpc]
  have k := h H locs ls hP hS hEs hL hoL (qm_oI (qm_oT (qm_oT hoS)))
  rw [hn] at k
  exact lv_irem hx hb hd hne k
theorem qs_ineg (F : qm_Fx p s m args c G own nL cc) (hd : decode cc pc = .ok (.ineg, 1)) (hn : qm_pc K nx = pc + 1) (hpc : qm_pc K n = pc) (h : qm_p1 st (fun a r => qm_Gd p l e R s m args below meth c cells slots Z G nL K nx L (vI (-a) :: r) σ)) : qm_Gd p l e R s m args below meth c cells slots Z G nL K n L st σ := by
  obtain ⟨hx, hb, hml, hown, hts, hK, hE, hG⟩ := F
  obtain ⟨a, r, rfl, h⟩ := qm_p1_e h
  intro H locs ls hP hS hEs hL hoL hoS
  rw [hpc]
  have k := h H locs ls hP hS hEs hL hoL (qm_oI (qm_oT hoS))
  rw [hn] at k
  exact lv_ineg hx hb hd k
theorem qs_i2b (F : qm_Fx p s m args c G own nL cc) (hd : decode cc pc = .ok (.i2b, 1)) (hn : qm_pc K nx = pc + 1) (hpc : qm_pc K n = pc) (h : qm_p1 st (fun a r => qm_Gd p l e R s m args below meth c cells slots Z G nL K nx L (vI a.toInt8.toInt32 :: r) σ)) : qm_Gd p l e R s m args below meth c cells slots Z G nL K n L st σ := by
  obtain ⟨hx, hb, hml, hown, hts, hK, hE, hG⟩ := F
  obtain ⟨a, r, rfl, h⟩ := qm_p1_e h
  intro H locs ls hP hS hEs hL hoL hoS
  rw [hpc]
  have k := h H locs ls hP hS hEs hL hoL (qm_oI (qm_oT hoS))
  rw [hn] at k
  exact lv_i2b hx hb hd rfl k
theorem qs_i2s (F : qm_Fx p s m args c G own nL cc) (hd : decode cc pc = .ok (.i2s, 1)) (hn : qm_pc K nx = pc + 1) (hpc : qm_pc K n = pc) (h : qm_p1 st (fun a r => qm_Gd p l e R s m args below meth c cells slots Z G nL K nx L (vI a.toInt16.toInt32 :: r) σ)) : qm_Gd p l e R s m args below meth c cells slots Z G nL K n L st σ := by
  obtain ⟨hx, hb, hml, hown, hts, hK, hE, hG⟩ := F
  obtain ⟨a, r, rfl, h⟩ := qm_p1_e h
  intro H locs ls hP hS hEs hL hoL hoS
  rw [hpc]
  have k := h H locs ls hP hS hEs hL hoL (qm_oI (qm_oT hoS))
  rw [hn] at k
  exact lv_i2s hx hb hd rfl k
theorem qs_i2c (F : qm_Fx p s m args c G own nL cc) (hd : decode cc pc = .ok (.i2c, 1)) (hn : qm_pc K nx = pc + 1) (hpc : qm_pc K n = pc) (h : qm_p1 st (fun a r => qm_Gd p l e R s m args below meth c cells slots Z G nL K nx L (vI (a.toUInt32 % 65536).toInt32 :: r) σ)) : qm_Gd p l e R s m args below meth c cells slots Z G nL K n L st σ := by
  obtain ⟨hx, hb, hml, hown, hts, hK, hE, hG⟩ := F
  obtain ⟨a, r, rfl, h⟩ := qm_p1_e h
  intro H locs ls hP hS hEs hL hoL hoS
  rw [hpc]
  have k := h H locs ls hP hS hEs hL hoL (qm_oI (qm_oT hoS))
  rw [hn] at k
  exact lv_i2c hx hb hd rfl k
theorem qs_i2l (F : qm_Fx p s m args c G own nL cc) (hd : decode cc pc = .ok (.i2l, 1)) (hn : qm_pc K nx = pc + 1) (hpc : qm_pc K n = pc) (h : qm_p1 st (fun a r => qm_Gd p l e R s m args below meth c cells slots Z G nL K nx L (vL a.toInt64 :: r) σ)) : qm_Gd p l e R s m args below meth c cells slots Z G nL K n L st σ := by
  obtain ⟨hx, hb, hml, hown, hts, hK, hE, hG⟩ := F
  obtain ⟨a, r, rfl, h⟩ := qm_p1_e h
  intro H locs ls hP hS hEs hL hoL hoS
  rw [hpc]
  have k := h H locs ls hP hS hEs hL hoL (qm_oJ (qm_oT hoS))
  rw [hn] at k
  exact lv_i2l hx hb hd rfl k
theorem qs_l2i (F : qm_Fx p s m args c G own nL cc) (hd : decode cc pc = .ok (.l2i, 1)) (hn : qm_pc K nx = pc + 1) (hpc : qm_pc K n = pc) (h : qm_q1 st (fun a r => qm_Gd p l e R s m args below meth c cells slots Z G nL K nx L (vI a.toInt32 :: r) σ)) : qm_Gd p l e R s m args below meth c cells slots Z G nL K n L st σ := by
  obtain ⟨hx, hb, hml, hown, hts, hK, hE, hG⟩ := F
  obtain ⟨a, r, rfl, h⟩ := qm_q1_e h
  intro H locs ls hP hS hEs hL hoL hoS
  rw [hpc]
  have k := h H locs ls hP hS hEs hL hoL (qm_oI (qm_oT hoS))
  rw [hn] at k
  exact lv_l2i hx hb hd rfl k
theorem qs_land (F : qm_Fx p s m args c G own nL cc) (hd : decode cc pc = .ok (.land, 1)) (hn : qm_pc K nx = pc + 1) (hpc : qm_pc K n = pc) (h : qm_q2 st (fun a b r => qm_Gd p l e R s m args below meth c cells slots Z G nL K nx L (vL (a &&& b) :: r) σ)) : qm_Gd p l e R s m args below meth c cells slots Z G nL K n L st σ := by
  obtain ⟨hx, hb, hml, hown, hts, hK, hE, hG⟩ := F
  obtain ⟨a, b, r, rfl, h⟩ := qm_q2_e h
  intro H locs ls hP hS hEs hL hoL hoS
  rw [hpc]
  have k := h H locs ls hP hS hEs hL hoL (qm_oJ (qm_oT (qm_oT hoS)))
  rw [hn] at k
  exact lv_land hx hb hd k
theorem qs_lor (F : qm_Fx p s m args c G own nL cc) (hd : decode cc pc = .ok (.lor, 1)) (hn : qm_pc K nx = pc + 1) (hpc : qm_pc K n = pc) (h : qm_q2 st (fun a b r => qm_Gd p l e R s m args below meth c cells slots Z G nL K nx L (vL (a ||| b) :: r) σ)) : qm_Gd p l e R s m args below meth c cells slots Z G nL K n L st σ := by
  obtain ⟨hx, hb, hml, hown, hts, hK, hE, hG⟩ := F
  obtain ⟨a, b, r, rfl, h⟩ := qm_q2_e h
  intro H locs ls hP hS hEs hL hoL hoS
  rw [hpc]
  have k := h H locs ls hP hS hEs hL hoL (qm_oJ (qm_oT (qm_oT hoS)))
  rw [hn] at k
  exact lv_lor hx hb hd k
theorem qs_lshl (F : qm_Fx p s m args c G own nL cc) (hd : decode cc pc = .ok (.lshl, 1)) (hn : qm_pc K nx = pc + 1) (hpc : qm_pc K n = pc) (h : qm_p1 st (fun b r => qm_q1 r (fun a r' => qm_Gd p l e R s m args below meth c cells slots Z G nL K nx L (vL (a <<< (b.toInt64 &&& 63)) :: r') σ))) : qm_Gd p l e R s m args below meth c cells slots Z G nL K n L st σ := by
  obtain ⟨hx, hb, hml, hown, hts, hK, hE, hG⟩ := F
  obtain ⟨b, r, rfl, h⟩ := qm_p1_e h
  obtain ⟨a, r', rfl, h⟩ := qm_q1_e h
  intro H locs ls hP hS hEs hL hoL hoS
  rw [hpc]
  have k := h H locs ls hP hS hEs hL hoL (qm_oJ (qm_oT (qm_oT hoS)))
  rw [hn] at k
  exact lv_lshl hx hb hd rfl k
theorem qs_lcmp (F : qm_Fx p s m args c G own nL cc) (hd : decode cc pc = .ok (.lcmp, 1)) (hn : qm_pc K nx = pc + 1) (hpc : qm_pc K n = pc) (h : qm_q2 st (fun a b r => qm_Gd p l e R s m args below meth c cells slots Z G nL K nx L (vI (lg_cmp a b) :: r) σ)) : qm_Gd p l e R s m args below meth c cells slots Z G nL K n L st σ := by
  obtain ⟨hx, hb, hml, hown, hts, hK, hE, hG⟩ := F
  obtain ⟨a, b, r, rfl, h⟩ := qm_q2_e h
  intro H locs ls hP hS hEs hL hoL hoS
  rw [hpc]
  have k := h H locs ls hP hS hEs hL hoL (qm_oI (qm_oT (qm_oT hoS)))
  rw [hn] at k
  exact W.lcmp hx hb hd k
theorem qs_iconst {z : Int} (F : qm_Fx p s m args c G own nL cc) (hd : decode cc pc = .ok (.iconst z, 1)) (hv : Int32.ofInt z = kc) (hn : qm_pc K nx = pc + 1) (hpc : qm_pc K n = pc) (h : qm_Gd p l e R s m args below meth c cells slots Z G nL K nx L (vI kc :: st) σ) : qm_Gd p l e R s m args below meth c cells slots Z G nL K n L st σ := by
  obtain ⟨hx, hb, hml, hown, hts, hK, hE, hG⟩ := F
  intro H locs ls hP hS hEs hL hoL hoS
  rw [hpc]
  have k := h H locs ls hP hS hEs hL hoL (qm_oI hoS)
  rw [hn] at k
  exact lv_iconst hx hb hd hv k
theorem qs_bipush {z : Int} (F : qm_Fx p s m args c G own nL cc) (hd : decode cc pc = .ok (.bipush z, 2)) (hv : (Int8.ofInt z).toInt32 = kc) (hn : qm_pc K nx = pc + 2) (hpc : qm_pc K n = pc) (h : qm_Gd p l e R s m args below meth c cells slots Z G nL K nx L (vI kc :: st) σ) : qm_Gd p l e R s m args below meth c cells slots Z G nL K n L st σ := by
  obtain ⟨hx, hb, hml, hown, hts, hK, hE, hG⟩ := F
  intro H locs ls hP hS hEs hL hoL hoS
  rw [hpc]
  have k := h H locs ls hP hS hEs hL hoL (qm_oI hoS)
  rw [hn] at k
  exact lv_bipush hx hb hd hv k
theorem qs_sipush {z : Int} (F : qm_Fx p s m args c G own nL cc) (hd : decode cc pc = .ok (.sipush z, 3)) (hv : (Int16.ofInt z).toInt32 = kc) (hn : qm_pc K nx = pc + 3) (hpc : qm_pc K n = pc) (h : qm_Gd p l e R s m args below meth c cells slots Z G nL K nx L (vI kc :: st) σ) : qm_Gd p l e R s m args below meth c cells slots Z G nL K n L st σ := by
  obtain ⟨hx, hb, hml, hown, hts, hK, hE, hG⟩ := F
  intro H locs ls hP hS hEs hL hoL hoS
  rw [hpc]
  have k := h H locs ls hP hS hEs hL hoL (qm_oI hoS)
  rw [hn] at k
  exact lv_sipush hx hb hd hv k
theorem qs_lconst {z : Fin 2} (F : qm_Fx p s m args c G own nL cc) (hd : decode cc pc = .ok (.lconst z, 1)) (hv : Int64.ofNat (z : Nat) = qm_lc ax) (hn : qm_pc K nx = pc + 1) (hpc : qm_pc K n = pc) (h : qm_Gd p l e R s m args below meth c cells slots Z G nL K nx L (vL (qm_lc ax) :: st) σ) : qm_Gd p l e R s m args below meth c cells slots Z G nL K n L st σ := by
  obtain ⟨hx, hb, hml, hown, hts, hK, hE, hG⟩ := F
  intro H locs ls hP hS hEs hL hoL hoS
  rw [hpc]
  have k := h H locs ls hP hS hEs hL hoL (qm_oJ hoS)
  rw [hn] at k
  exact lv_lconst hx hb hd hv k
theorem qs_ldcw {z : Nat} (F : qm_Fx p s m args c G own nL cc) (hd : decode cc pc = .ok (.ldc_w z, 3)) (hv : Cond.constant (qm_oS own) z kc ∈ qm_gt) (hn : qm_pc K nx = pc + 3) (hpc : qm_pc K n = pc) (h : qm_Gd p l e R s m args below meth c cells slots Z G nL K nx L (vI kc :: st) σ) : qm_Gd p l e R s m args below meth c cells slots Z G nL K n L st σ := by
  obtain ⟨hx, hb, hml, hown, hts, hK, hE, hG⟩ := F
  intro H locs ls hP hS hEs hL hoL hoS
  rw [hpc]
  have k := h H locs ls hP hS hEs hL hoL (qm_oI hoS)
  rw [hn] at k
  exact lv_ldcw hx hb hown (hts _ hv) hd k
theorem qs_ldc2 {z : Nat} (F : qm_Fx p s m args c G own nL cc) (hd : decode cc pc = .ok (.ldc2_w z, 3)) (hv : Cond.constantLong (qm_oS own) z (qm_lc ax) ∈ qm_gt) (hn : qm_pc K nx = pc + 3) (hpc : qm_pc K n = pc) (h : qm_Gd p l e R s m args below meth c cells slots Z G nL K nx L (vL (qm_lc ax) :: st) σ) : qm_Gd p l e R s m args below meth c cells slots Z G nL K n L st σ := by
  obtain ⟨hx, hb, hml, hown, hts, hK, hE, hG⟩ := F
  intro H locs ls hP hS hEs hL hoL hoS
  rw [hpc]
  have k := h H locs ls hP hS hEs hL hoL (qm_oJ hoS)
  rw [hn] at k
  exact lv_ldc2 hx hb hown (hts _ hv) hd k
theorem qs_if_eq {off : Int} (F : qm_Fx p s m args c G own nL cc) (hd : decode cc pc = .ok (.ifCond .eq off, 3)) (hn : qm_pc K nx = pc + 3) (ht : (pc : Int) + off = (qm_pc K ax : Int)) (hpc : qm_pc K n = pc) (h : qm_p1 st (fun x r => (x = 0 → qm_Gd p l e R s m args below meth c cells slots Z G nL K ax L r σ) ∧ (¬ x = 0 → qm_Gd p l e R s m args below meth c cells slots Z G nL K nx L r σ))) : qm_Gd p l e R s m args below meth c cells slots Z G nL K n L st σ := by
  obtain ⟨hx, hb, hml, hown, hts, hK, hE, hG⟩ := F
  obtain ⟨x, r, rfl, h1, h2⟩ := qm_p1_e h
  intro H locs ls hP hS hEs hL hoL hoS
  rw [hpc]
  refine lv_if_eq hx hb hd ht (fun c => h1 c H locs ls hP hS hEs hL hoL (qm_oT hoS)) (fun c => ?_)
  have k := h2 c H locs ls hP hS hEs hL hoL (qm_oT hoS)
  rw [hn] at k
  exact k
theorem qs_if_ne {off : Int} (F : qm_Fx p s m args c G own nL cc) (hd : decode cc pc = .ok (.ifCond .ne off, 3)) (hn : qm_pc K nx = pc + 3) (ht : (pc : Int) + off = (qm_pc K ax : Int)) (hpc : qm_pc K n = pc) (h : qm_p1 st (fun x r => (¬ x = 0 → qm_Gd p l e R s m args below meth c cells slots Z G nL K ax L r σ) ∧ (x = 0 → qm_Gd p l e R s m args below meth c cells slots Z G nL K nx L r σ))) : qm_Gd p l e R s m args below meth c cells slots Z G nL K n L st σ := by
  obtain ⟨hx, hb, hml, hown, hts, hK, hE, hG⟩ := F
  obtain ⟨x, r, rfl, h1, h2⟩ := qm_p1_e h
  intro H locs ls hP hS hEs hL hoL hoS
  rw [hpc]
  refine lv_if_ne hx hb hd ht (fun c => h1 c H locs ls hP hS hEs hL hoL (qm_oT hoS)) (fun c => ?_)
  have k := h2 c H locs ls hP hS hEs hL hoL (qm_oT hoS)
  rw [hn] at k
  exact k
theorem qs_if_lt {off : Int} (F : qm_Fx p s m args c G own nL cc) (hd : decode cc pc = .ok (.ifCond .lt off, 3)) (hn : qm_pc K nx = pc + 3) (ht : (pc : Int) + off = (qm_pc K ax : Int)) (hpc : qm_pc K n = pc) (h : qm_p1 st (fun x r => (x < 0 → qm_Gd p l e R s m args below meth c cells slots Z G nL K ax L r σ) ∧ (¬ x < 0 → qm_Gd p l e R s m args below meth c cells slots Z G nL K nx L r σ))) : qm_Gd p l e R s m args below meth c cells slots Z G nL K n L st σ := by
  obtain ⟨hx, hb, hml, hown, hts, hK, hE, hG⟩ := F
  obtain ⟨x, r, rfl, h1, h2⟩ := qm_p1_e h
  intro H locs ls hP hS hEs hL hoL hoS
  rw [hpc]
  refine lv_if_lt hx hb hd ht (fun c => h1 c H locs ls hP hS hEs hL hoL (qm_oT hoS)) (fun c => ?_)
  have k := h2 c H locs ls hP hS hEs hL hoL (qm_oT hoS)
  rw [hn] at k
  exact k
theorem qs_if_ge {off : Int} (F : qm_Fx p s m args c G own nL cc) (hd : decode cc pc = .ok (.ifCond .ge off, 3)) (hn : qm_pc K nx = pc + 3) (ht : (pc : Int) + off = (qm_pc K ax : Int)) (hpc : qm_pc K n = pc) (h : qm_p1 st (fun x r => (0 ≤ x → qm_Gd p l e R s m args below meth c cells slots Z G nL K ax L r σ) ∧ (¬ 0 ≤ x → qm_Gd p l e R s m args below meth c cells slots Z G nL K nx L r σ))) : qm_Gd p l e R s m args below meth c cells slots Z G nL K n L st σ := by
  obtain ⟨hx, hb, hml, hown, hts, hK, hE, hG⟩ := F
  obtain ⟨x, r, rfl, h1, h2⟩ := qm_p1_e h
  intro H locs ls hP hS hEs hL hoL hoS
  rw [hpc]
  refine lv_if_ge hx hb hd ht (fun c => h1 c H locs ls hP hS hEs hL hoL (qm_oT hoS)) (fun c => ?_)
  have k := h2 c H locs ls hP hS hEs hL hoL (qm_oT hoS)
  rw [hn] at k
  exact k
theorem qs_if_gt {off : Int} (F : qm_Fx p s m args c G own nL cc) (hd : decode cc pc = .ok (.ifCond .gt off, 3)) (hn : qm_pc K nx = pc + 3) (ht : (pc : Int) + off = (qm_pc K ax : Int)) (hpc : qm_pc K n = pc) (h : qm_p1 st (fun x r => (0 < x → qm_Gd p l e R s m args below meth c cells slots Z G nL K ax L r σ) ∧ (¬ 0 < x → qm_Gd p l e R s m args below meth c cells slots Z G nL K nx L r σ))) : qm_Gd p l e R s m args below meth c cells slots Z G nL K n L st σ := by
  obtain ⟨hx, hb, hml, hown, hts, hK, hE, hG⟩ := F
  obtain ⟨x, r, rfl, h1, h2⟩ := qm_p1_e h
  intro H locs ls hP hS hEs hL hoL hoS
  rw [hpc]
  refine lv_if_gt hx hb hd ht (fun c => h1 c H locs ls hP hS hEs hL hoL (qm_oT hoS)) (fun c => ?_)
  have k := h2 c H locs ls hP hS hEs hL hoL (qm_oT hoS)
  rw [hn] at k
  exact k
theorem qs_if_le {off : Int} (F : qm_Fx p s m args c G own nL cc) (hd : decode cc pc = .ok (.ifCond .le off, 3)) (hn : qm_pc K nx = pc + 3) (ht : (pc : Int) + off = (qm_pc K ax : Int)) (hpc : qm_pc K n = pc) (h : qm_p1 st (fun x r => (x ≤ 0 → qm_Gd p l e R s m args below meth c cells slots Z G nL K ax L r σ) ∧ (¬ x ≤ 0 → qm_Gd p l e R s m args below meth c cells slots Z G nL K nx L r σ))) : qm_Gd p l e R s m args below meth c cells slots Z G nL K n L st σ := by
  obtain ⟨hx, hb, hml, hown, hts, hK, hE, hG⟩ := F
  obtain ⟨x, r, rfl, h1, h2⟩ := qm_p1_e h
  intro H locs ls hP hS hEs hL hoL hoS
  rw [hpc]
  refine lv_if_le hx hb hd ht (fun c => h1 c H locs ls hP hS hEs hL hoL (qm_oT hoS)) (fun c => ?_)
  have k := h2 c H locs ls hP hS hEs hL hoL (qm_oT hoS)
  rw [hn] at k
  exact k
theorem qs_icmp_eq {off : Int} (F : qm_Fx p s m args c G own nL cc) (hd : decode cc pc = .ok (.if_icmp .eq off, 3)) (hn : qm_pc K nx = pc + 3) (ht : (pc : Int) + off = (qm_pc K ax : Int)) (hpc : qm_pc K n = pc) (h : qm_p2 st (fun x y r => (x = y → qm_Gd p l e R s m args below meth c cells slots Z G nL K ax L r σ) ∧ (¬ x = y → qm_Gd p l e R s m args below meth c cells slots Z G nL K nx L r σ))) : qm_Gd p l e R s m args below meth c cells slots Z G nL K n L st σ := by
  obtain ⟨hx, hb, hml, hown, hts, hK, hE, hG⟩ := F
  obtain ⟨x, y, r, rfl, h1, h2⟩ := qm_p2_e h
  intro H locs ls hP hS hEs hL hoL hoS
  rw [hpc]
  refine lv_icmp_eq hx hb hd ht (fun c => h1 c H locs ls hP hS hEs hL hoL (qm_oT (qm_oT hoS))) (fun c => ?_)
  have k := h2 c H locs ls hP hS hEs hL hoL (qm_oT (qm_oT hoS))
  rw [hn] at k
  exact k
theorem qs_icmp_ne {off : Int} (F : qm_Fx p s m args c G own nL cc) (hd : decode cc pc = .ok (.if_icmp .ne off, 3)) (hn : qm_pc K nx = pc + 3) (ht : (pc : Int) + off = (qm_pc K ax : Int)) (hpc : qm_pc K n = pc) (h : qm_p2 st (fun x y r => (¬ x = y → qm_Gd p l e R s m args below meth c cells slots Z G nL K ax L r σ) ∧ (x = y → qm_Gd p l e R s m args below meth c cells slots Z G nL K nx L r σ))) : qm_Gd p l e R s m args below meth c cells slots Z G nL K n L st σ := by
  obtain ⟨hx, hb, hml, hown, hts, hK, hE, hG⟩ := F
  obtain ⟨x, y, r, rfl, h1, h2⟩ := qm_p2_e h
  intro H locs ls hP hS hEs hL hoL hoS
  rw [hpc]
  refine lv_icmp_ne hx hb hd ht (fun c => h1 c H locs ls hP hS hEs hL hoL (qm_oT (qm_oT hoS))) (fun c => ?_)
  have k := h2 c H locs ls hP hS hEs hL hoL (qm_oT (qm_oT hoS))
  rw [hn] at k
  exact k
theorem qs_icmp_lt {off : Int} (F : qm_Fx p s m args c G own nL cc) (hd : decode cc pc = .ok (.if_icmp .lt off, 3)) (hn : qm_pc K nx = pc + 3) (ht : (pc : Int) + off = (qm_pc K ax : Int)) (hpc : qm_pc K n = pc) (h : qm_p2 st (fun x y r => (x < y → qm_Gd p l e R s m args below meth c cells slots Z G nL K ax L r σ) ∧ (¬ x < y → qm_Gd p l e R s m args below meth c cells slots Z G nL K nx L r σ))) : qm_Gd p l e R s m args below meth c cells slots Z G nL K n L st σ := by
  obtain ⟨hx, hb, hml, hown, hts, hK, hE, hG⟩ := F
  obtain ⟨x, y, r, rfl, h1, h2⟩ := qm_p2_e h
  intro H locs ls hP hS hEs hL hoL hoS
  rw [hpc]
  refine lv_icmp_lt hx hb hd ht (fun c => h1 c H locs ls hP hS hEs hL hoL (qm_oT (qm_oT hoS))) (fun c => ?_)
  have k := h2 c H locs ls hP hS hEs hL hoL (qm_oT (qm_oT hoS))
  rw [hn] at k
  exact k
theorem qs_icmp_ge {off : Int} (F : qm_Fx p s m args c G own nL cc) (hd : decode cc pc = .ok (.if_icmp .ge off, 3)) (hn : qm_pc K nx = pc + 3) (ht : (pc : Int) + off = (qm_pc K ax : Int)) (hpc : qm_pc K n = pc) (h : qm_p2 st (fun x y r => (y ≤ x → qm_Gd p l e R s m args below meth c cells slots Z G nL K ax L r σ) ∧ (¬ y ≤ x → qm_Gd p l e R s m args below meth c cells slots Z G nL K nx L r σ))) : qm_Gd p l e R s m args below meth c cells slots Z G nL K n L st σ := by
  obtain ⟨hx, hb, hml, hown, hts, hK, hE, hG⟩ := F
  obtain ⟨x, y, r, rfl, h1, h2⟩ := qm_p2_e h
  intro H locs ls hP hS hEs hL hoL hoS
  rw [hpc]
  refine lv_icmp_ge hx hb hd ht (fun c => h1 c H locs ls hP hS hEs hL hoL (qm_oT (qm_oT hoS))) (fun c => ?_)
  have k := h2 c H locs ls hP hS hEs hL hoL (qm_oT (qm_oT hoS))
  rw [hn] at k
  exact k
theorem qs_icmp_gt {off : Int} (F : qm_Fx p s m args c G own nL cc) (hd : decode cc pc = .ok (.if_icmp .gt off, 3)) (hn : qm_pc K nx = pc + 3) (ht : (pc : Int) + off = (qm_pc K ax : Int)) (hpc : qm_pc K n = pc) (h : qm_p2 st (fun x y r => (y < x → qm_Gd p l e R s m args below meth c cells slots Z G nL K ax L r σ) ∧ (¬ y < x → qm_Gd p l e R s m args below meth c cells slots Z G nL K nx L r σ))) : qm_Gd p l e R s m args below meth c cells slots Z G nL K n L st σ := by
  obtain ⟨hx, hb, hml, hown, hts, hK, hE, hG⟩ := F
  obtain ⟨x, y, r, rfl, h1, h2⟩ := qm_p2_e h
  intro H locs ls hP hS hEs hL hoL hoS
  rw [hpc]
  refine lv_icmp_gt hx hb hd ht (fun c => h1 c H locs ls hP hS hEs hL hoL (qm_oT (qm_oT hoS))) (fun c => ?_)
  have k := h2 c H locs ls hP hS hEs hL hoL (qm_oT (qm_oT hoS))
  rw [hn] at k
  exact k
theorem qs_icmp_le {off : Int} (F : qm_Fx p s m args c G own nL cc) (hd : decode cc pc = .ok (.if_icmp .le off, 3)) (hn : qm_pc K nx = pc + 3) (ht : (pc : Int) + off = (qm_pc K ax : Int)) (hpc : qm_pc K n = pc) (h : qm_p2 st (fun x y r => (x ≤ y → qm_Gd p l e R s m args below meth c cells slots Z G nL K ax L r σ) ∧ (¬ x ≤ y → qm_Gd p l e R s m args below meth c cells slots Z G nL K nx L r σ))) : qm_Gd p l e R s m args below meth c cells slots Z G nL K n L st σ := by
  obtain ⟨hx, hb, hml, hown, hts, hK, hE, hG⟩ := F
  obtain ⟨x, y, r, rfl, h1, h2⟩ := qm_p2_e h
  intro H locs ls hP hS hEs hL hoL hoS
  rw [hpc]
  refine lv_icmp_le hx hb hd ht (fun c => h1 c H locs ls hP hS hEs hL hoL (qm_oT (qm_oT hoS))) (fun c => ?_)
  have k := h2 c H locs ls hP hS hEs hL hoL (qm_oT (qm_oT hoS))
  rw [hn] at k
  exact k
theorem qs_goto {off : Int} (F : qm_Fx p s m args c G own nL cc) (hd : decode cc pc = .ok (.goto off, 3)) (ht : (pc : Int) + off = (qm_pc K ax : Int)) (hpc : qm_pc K n = pc) (h : qm_Gd p l e R s m args below meth c cells slots Z G nL K ax L st σ) : qm_Gd p l e R s m args below meth c cells slots Z G nL K n L st σ := by
  obtain ⟨hx, hb, hml, hown, hts, hK, hE, hG⟩ := F
  intro H locs ls hP hS hEs hL hoL hoS
  rw [hpc]
  exact lv_goto hx hb hd ht (h H locs ls hP hS hEs hL hoL hoS)
theorem qs_iload_n {z : Fin 4} (F : qm_Fx p s m args c G own nL cc) (hd : decode cc pc = .ok (.iload_n z, 1)) (hz : (z : Nat) = ax) (hn : qm_pc K nx = pc + 1) (hpc : qm_pc K n = pc) (h : qm_ldI L ax (fun x => qm_Gd p l e R s m args below meth c cells slots Z G nL K nx L (vI x :: st) σ)) : qm_Gd p l e R s m args below meth c cells slots Z G nL K n L st σ := by
  obtain ⟨hx, hb, hml, hown, hts, hK, hE, hG⟩ := F
  obtain ⟨x, hl, h⟩ := qm_ldI_e h
  intro H locs ls hP hS hEs hL hoL hoS
  rw [hpc]
  have k := h H locs ls hP hS hEs hL hoL (qm_oI hoS)
  rw [hn] at k
  exact lv_iload_n hx hb hd hz (hL.2.2.2 _ _ hl) k
theorem qs_iload {z : Nat} (F : qm_Fx p s m args c G own nL cc) (hd : decode cc pc = .ok (.iload z, 2)) (hz : (z : Nat) = ax) (hn : qm_pc K nx = pc + 2) (hpc : qm_pc K n = pc) (h : qm_ldI L ax (fun x => qm_Gd p l e R s m args below meth c cells slots Z G nL K nx L (vI x :: st) σ)) : qm_Gd p l e R s m args below meth c cells slots Z G nL K n L st σ := by
  obtain ⟨hx, hb, hml, hown, hts, hK, hE, hG⟩ := F
  obtain ⟨x, hl, h⟩ := qm_ldI_e h
  intro H locs ls hP hS hEs hL hoL hoS
  rw [hpc]
  have k := h H locs ls hP hS hEs hL hoL (qm_oI hoS)
  rw [hn] at k
  exact lv_iload hx hb hd (by rw [hz]; exact hL.2.2.2 _ _ hl) k
theorem qs_lload_n {z : Fin 4} (F : qm_Fx p s m args c G own nL cc) (hd : decode cc pc = .ok (.lload_n z, 1)) (hz : (z : Nat) = ax) (hn : qm_pc K nx = pc + 1) (hpc : qm_pc K n = pc) (h : qm_ldL L ax (fun x => qm_Gd p l e R s m args below meth c cells slots Z G nL K nx L (vL x :: st) σ)) : qm_Gd p l e R s m args below meth c cells slots Z G nL K n L st σ := by
  obtain ⟨hx, hb, hml, hown, hts, hK, hE, hG⟩ := F
  obtain ⟨x, hl, h⟩ := qm_ldL_e h
  intro H locs ls hP hS hEs hL hoL hoS
  rw [hpc]
  have k := h H locs ls hP hS hEs hL hoL (qm_oJ hoS)
  rw [hn] at k
  exact lv_lload_n hx hb hd hz (hL.2.2.2 _ _ hl) k
theorem qm_okcases {t i : Nat} (h : qm_ok t i = true) : (t, i) ∈ qm_cells ∨ (t = 100 ∧ i = 0) ∨ (t = 101 ∧ i < 8) ∨ (t = 102 ∧ i < 8) ∨ (t = 105 ∧ i = 0) := by
  unfold qm_ok at h
  simp only [Bool.or_eq_true, Bool.and_eq_true, List.contains_iff_mem, Nat.beq_eq, Nat.blt_eq] at h
  rcases h with ((((h | h) | h) | h) | h)
  · exact Or.inl h
  · exact Or.inr (Or.inl h)
  · exact Or.inr (Or.inr (Or.inl h))
  · exact Or.inr (Or.inr (Or.inr (Or.inl h)))
  · exact Or.inr (Or.inr (Or.inr (Or.inr h)))
theorem qm_rv_ref {t i : Nat} (h : Nat.beq t 105 = false) (ho : qm_ok t i = true) : ∃ a, qm_rv G t i = .ref a := by
  rcases qm_okcases ho with h1 | ⟨rfl, -⟩ | ⟨rfl, -⟩ | ⟨rfl, -⟩ | ⟨rfl, -⟩
  · have := qm_cells_lt _ h1
    refine ⟨gAd G t i, ?_⟩
    unfold qm_rv
    rw [Nat.blt_eq.mpr this]
    rfl
  · exact ⟨_, rfl⟩
  · exact ⟨_, rfl⟩
  · exact ⟨_, rfl⟩
  · cases h
theorem qm_okL_at {L : qm_Lo} {n : Nat} {v : qm_AV} (h : qm_okL L) (hl : L[n]? = some (some v)) : qm_okV v := h v (List.mem_of_getElem? hl)
theorem qm_bifF {b : Bool} {X : Prop} (h : bif b then False else X) : b = false ∧ X := by
  cases b
  · exact ⟨rfl, h⟩
  · exact h.elim
theorem qm_bifT {b : Bool} {X : Prop} (h : bif b then X else False) : b = true ∧ X := by
  cases b
  · exact h.elim
  · exact ⟨rfl, h⟩
theorem qs_aload_n {z : Fin 4} (F : qm_Fx p s m args c G own nL cc) (hd : decode cc pc = .ok (.aload_n z, 1)) (hz : (z : Nat) = ax) (hn : qm_pc K nx = pc + 1) (hpc : qm_pc K n = pc) (h : qm_ldR L ax (fun t i => bif Nat.beq t 105 then False else qm_Gd p l e R s m args below meth c cells slots Z G nL K nx L (vR t i :: st) σ)) : qm_Gd p l e R s m args below meth c cells slots Z G nL K n L st σ := by
  obtain ⟨hx, hb, hml, hown, hts, hK, hE, hG⟩ := F
  obtain ⟨t, i, hl, h⟩ := qm_ldR_e h
  obtain ⟨hne, h⟩ := qm_bifF h
  intro H locs ls hP hS hEs hL hoL hoS
  rw [hpc]
  have k := h H locs ls hP hS hEs hL hoL (qm_oC (qm_okL_at hoL hl) hoS)
  rw [hn] at k
  obtain ⟨a, ha⟩ := qm_rv_ref (G := G) hne (qm_okL_at hoL hl)
  have hla : ls[ax]? = some (.val (.ref a)) := by rw [← ha]; exact hL.2.2.2 _ _ hl
  have k : W p l e R s m args below meth c H locs cells slots Z (F0 m (pc + 1) ls (.ref a :: st.map (qm_cv G))) := by rw [← ha]; exact k
  exact lv_aload_n hx hb hd hz hla k
theorem qs_aload {z : Nat} (F : qm_Fx p s m args c G own nL cc) (hd : decode cc pc = .ok (.aload z, 2)) (hz : (z : Nat) = ax) (hn : qm_pc K nx = pc + 2) (hpc : qm_pc K n = pc) (h : qm_ldR L ax (fun t i => bif Nat.beq t 105 then False else qm_Gd p l e R s m args below meth c cells slots Z G nL K nx L (vR t i :: st) σ)) : qm_Gd p l e R s m args below meth c cells slots Z G nL K n L st σ := by
  obtain ⟨hx, hb, hml, hown, hts, hK, hE, hG⟩ := F
  obtain ⟨t, i, hl, h⟩ := qm_ldR_e h
  obtain ⟨hne, h⟩ := qm_bifF h
  intro H locs ls hP hS hEs hL hoL hoS
  rw [hpc]
  have k := h H locs ls hP hS hEs hL hoL (qm_oC (qm_okL_at hoL hl) hoS)
  rw [hn] at k
  obtain ⟨a, ha⟩ := qm_rv_ref (G := G) hne (qm_okL_at hoL hl)
  have hla : ls[ax]? = some (.val (.ref a)) := by rw [← ha]; exact hL.2.2.2 _ _ hl
  have k : W p l e R s m args below meth c H locs cells slots Z (F0 m (pc + 2) ls (.ref a :: st.map (qm_cv G))) := by rw [← ha]; exact k
  exact lv_aload hx hb hd (by rw [hz]; exact hla) k
theorem qs_istore_n {z : Fin 4} (F : qm_Fx p s m args c G own nL cc) (hd : decode cc pc = .ok (.istore_n z, 1)) (hz : (z : Nat) = ax) (hn : qm_pc K nx = pc + 1) (hpc : qm_pc K n = pc) (h : qm_p1 st (fun x r => qm_st L ax (vI x) (fun L' => qm_Gd p l e R s m args below meth c cells slots Z G nL K nx L' r σ))) : qm_Gd p l e R s m args below meth c cells slots Z G nL K n L st σ := by
  obtain ⟨hx, hb, hml, hown, hts, hK, hE, hG⟩ := F
  obtain ⟨x, r, rfl, h⟩ := qm_p1_e h
  obtain ⟨h1, h2, h3⟩ := qm_st_e _ _ h
  intro H locs ls hP hS hEs hL hoL hoS
  rw [hpc]
  refine lv_istore_n hx hb hd hz (qm_LV_has hL) (by rw [← hL.1]; exact h1) rfl (fun ls' hl' => ?_)
  have k := h2 H locs ls' hP hS hEs (qm_LV_st (v := vI x) hL.1 hl' rfl h1 h3 rfl hG.2.2.1) (qm_oSet hoL trivial) (qm_oT hoS)
  rw [hn] at k
  exact k
theorem qs_istore {z : Nat} (F : qm_Fx p s m args c G own nL cc) (hd : decode cc pc = .ok (.istore z, 2)) (hz : (z : Nat) = ax) (hn : qm_pc K nx = pc + 2) (hpc : qm_pc K n = pc) (h : qm_p1 st (fun x r => qm_st L ax (vI x) (fun L' => qm_Gd p l e R s m args below meth c cells slots Z G nL K nx L' r σ))) : qm_Gd p l e R s m args below meth c cells slots Z G nL K n L st σ := by
  obtain ⟨hx, hb, hml, hown, hts, hK, hE, hG⟩ := F
  obtain ⟨x, r, rfl, h⟩ := qm_p1_e h
  obtain ⟨h1, h2, h3⟩ := qm_st_e _ _ h
  intro H locs ls hP hS hEs hL hoL hoS
  rw [hpc]
  refine lv_istore hx hb (hz ▸ hd) (qm_LV_has hL) (by rw [← hL.1]; exact h1) rfl (fun ls' hl' => ?_)
  have k := h2 H locs ls' hP hS hEs (qm_LV_st (v := vI x) hL.1 hl' rfl h1 h3 rfl hG.2.2.1) (qm_oSet hoL trivial) (qm_oT hoS)
  rw [hn] at k
  exact k
theorem qs_astore_n {z : Fin 4} (F : qm_Fx p s m args c G own nL cc) (hd : decode cc pc = .ok (.astore_n z, 1)) (hz : (z : Nat) = ax) (hn : qm_pc K nx = pc + 1) (hpc : qm_pc K n = pc) (h : qm_pR st (fun t i r => bif Nat.beq t 105 then False else qm_st L ax (vR t i) (fun L' => qm_Gd p l e R s m args below meth c cells slots Z G nL K nx L' r σ))) : qm_Gd p l e R s m args below meth c cells slots Z G nL K n L st σ := by
  obtain ⟨hx, hb, hml, hown, hts, hK, hE, hG⟩ := F
  obtain ⟨t, i, r, rfl, h⟩ := qm_pR_e h
  obtain ⟨hne, h⟩ := qm_bifF h
  obtain ⟨h1, h2, h3⟩ := qm_st_e _ _ h
  intro H locs ls hP hS hEs hL hoL hoS
  rw [hpc]
  obtain ⟨a, ha⟩ := qm_rv_ref (G := G) hne (qm_oH hoS)
  show W p l e R s m args below meth c H locs cells slots Z (F0 m pc ls (qm_rv G t i :: r.map (qm_cv G)))
  rw [ha]
  refine lv_astore_n hx hb hd hz (qm_LV_has hL) (by rw [← hL.1]; exact h1) rfl (fun ls' hl' => ?_)
  have k := h2 H locs ls' hP hS hEs (qm_LV_st (v := vR t i) hL.1 hl' (by show (ax, qm_rv G t i) :: _ = _; rw [ha]) h1 h3 rfl hG.2.2.1) (qm_oSet hoL (qm_oH hoS)) (qm_oT hoS)
  rw [hn] at k
  exact k
theorem qs_astore {z : Nat} (F : qm_Fx p s m args c G own nL cc) (hd : decode cc pc = .ok (.astore z, 2)) (hz : (z : Nat) = ax) (hn : qm_pc K nx = pc + 2) (hpc : qm_pc K n = pc) (h : qm_pR st (fun t i r => bif Nat.beq t 105 then False else qm_st L ax (vR t i) (fun L' => qm_Gd p l e R s m args below meth c cells slots Z G nL K nx L' r σ))) : qm_Gd p l e R s m args below meth c cells slots Z G nL K n L st σ := by
  obtain ⟨hx, hb, hml, hown, hts, hK, hE, hG⟩ := F
  obtain ⟨t, i, r, rfl, h⟩ := qm_pR_e h
  obtain ⟨hne, h⟩ := qm_bifF h
  obtain ⟨h1, h2, h3⟩ := qm_st_e _ _ h
  intro H locs ls hP hS hEs hL hoL hoS
  rw [hpc]
  obtain ⟨a, ha⟩ := qm_rv_ref (G := G) hne (qm_oH hoS)
  show W p l e R s m args below meth c H locs cells slots Z (F0 m pc ls (qm_rv G t i :: r.map (qm_cv G)))
  rw [ha]
  refine lv_astore hx hb (hz ▸ hd) (qm_LV_has hL) (by rw [← hL.1]; exact h1) rfl (fun ls' hl' => ?_)
  have k := h2 H locs ls' hP hS hEs (qm_LV_st (v := vR t i) hL.1 hl' (by show (ax, qm_rv G t i) :: _ = _; rw [ha]) h1 h3 rfl hG.2.2.1) (qm_oSet hoL (qm_oH hoS)) (qm_oT hoS)
  rw [hn] at k
  exact k
theorem qs_iinc {z : Nat} {y : Int} (F : qm_Fx p s m args c G own nL cc) (hd : decode cc pc = .ok (.iinc z y, 3)) (hz : z = ax) (hv : Int32.ofInt y = kc) (hn : qm_pc K nx = pc + 3) (hpc : qm_pc K n = pc) (h : qm_ldI L ax (fun x => qm_st L ax (vI (x + kc)) (fun L' => qm_Gd p l e R s m args below meth c cells slots Z G nL K nx L' st σ))) : qm_Gd p l e R s m args below meth c cells slots Z G nL K n L st σ := by
  obtain ⟨hx, hb, hml, hown, hts, hK, hE, hG⟩ := F
  obtain ⟨x, hl, h⟩ := qm_ldI_e h
  obtain ⟨h1, h2, h3⟩ := qm_st_e _ _ h
  intro H locs ls hP hS hEs hL hoL hoS
  rw [hpc]
  subst hz
  obtain ⟨j, hj⟩ := List.getElem?_of_mem (qm_as_mem (G := G).mpr ⟨_, hl, rfl⟩)
  refine lv_iinc hx hb hd (qm_LV_has hL) hj (by rw [hv]) (by rw [← hL.1]; exact h1) rfl (fun ls' hl' => ?_)
  have k := h2 H locs ls' hP hS hEs (qm_LV_st (v := vI (x + kc)) hL.1 hl' rfl h1 h3 rfl hG.2.2.1) (qm_oSet hoL trivial) hoS
  rw [hn] at k
  exact k
end SOUND
