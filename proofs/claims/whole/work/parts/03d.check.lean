def qm_cS (ci : Nat) : String := bif Nat.beq ci 40 then "java/lang/String" else qm_oS ci
def qm_ckM (q : qm_Mi) : Bool := match q with
  | (y, _, n, _, o, _, p) => decide (y.cls = qm_oS o) && decide (qm_tb p = some (.initialized y.cls)) && (plainName y.cls || Nat.beq o 14) && decide (y.cls ≠ "java/lang/invoke/MethodHandle") && decide (y.cls ≠ "java/lang/invoke/VarHandle") && Nat.ble n 21
set_option maxRecDepth 100000 in
theorem qm_ckM_ok : qm_mi.all qm_ckM = true := by decide +kernel
def qm_ckF (q : Nat × Nat × Nat × Nat × Nat × Nat) : Bool := match q with
  | (own, idx, ci, k, p1, p2) => match vwCl[ci]? with
    | some (_, T, N) => Nat.blt k N && (match qm_tb p1 with
      | some (.fieldLink o i r n d) => decide (o = qm_oS own) && Nat.beq i idx && decide (n = (T k).2.1) && decide (d = (T k).2.2.1) && (decide (r = (T k).1) || decide (qm_tb p2 = some (.sameField r (T k).1 n d)))
      | _ => false)
    | none => false
set_option maxRecDepth 100000 in
theorem qm_ckF_ok : qm_FL.all qm_ckF = true := by decide +kernel
def qm_ar (d : String) (n : Nat) : Bool := decide ((parseMethodDescriptor d).map (fun d => d.parameters.length) = some n)
def qm_ckV (q : Nat × Nat × Nat × Nat × Nat × Nat × Nat × Nat) : Bool := match q with
  | (own, idx, ci, id, n, p1, p2, p3) => match qm_nt qm_mi id with
    | some (y, _) => decide (qm_tb p1 = some (.methodLink (qm_oS own) idx y)) && decide (qm_tb p2 = some (.instanceMethod y)) && (bif Nat.ble 5000 p3 then decide ((lw_privs[p3 - 5000]?).map (fun r => r.1) = some y) else decide (qm_tb p3 = some (.selects y.cls y y))) && decide (y.cls = qm_cS ci) && qm_ar y.desc n
    | none => false
set_option maxRecDepth 100000 in
theorem qm_ckV_ok : qm_CV.all qm_ckV = true := by decide +kernel
def qm_ckS (q : Nat × Nat × Nat × Nat × Nat × Nat) : Bool := match q with
  | (own, idx, id, n, p1, p2) => match qm_nt qm_mi id with
    | some (y, _) => decide (qm_tb p1 = some (.methodLink (qm_oS own) idx y)) && decide (qm_tb p2 = some (.static y)) && qm_ar y.desc n
    | none => false
set_option maxRecDepth 100000 in
theorem qm_ckS_ok : qm_CS.all qm_ckS = true := by decide +kernel
def qm_ckU (q : Nat × Nat × Nat × Nat × Nat × Nat × Nat × Nat × Nat × Nat × Nat) : Bool := match q with
  | (own, idx, ci, id, n, p1, p2, p3, p4, id0, p6) => match qm_nt qm_mi id, qm_nt qm_mi id0, qm_tb p1 with
    | some (y, _), some (z, _), some (.methodLink o i x) => decide (o = qm_oS own) && Nat.beq i idx && decide (z = ⟨z.cls, x.name, x.desc⟩) && decide (qm_tb p2 = some (.sameMethod x.cls z.cls x.name x.desc)) && decide (qm_tb p3 = some (.selects (qm_cS ci) x y)) && decide (qm_tb p4 = some (.instanceMethod y)) && decide (qm_tb p6 = some (.instanceMethod z)) && qm_ar x.desc n && Nat.ble ci 12
    | _, _, _ => false
set_option maxRecDepth 100000 in
theorem qm_ckU_ok : qm_CU.all qm_ckU = true := by decide +kernel
def qm_ckP (q : Nat × Nat × Nat × Nat × Nat × Nat × Nat × Nat × Nat × Nat) : Bool := match q with
  | (own, idx, ci, id, n, p1, p2, p3, p4, p5) => match qm_nt qm_mi id, qm_tb p1 with
    | some (y, _), some (.methodLink o i x) => decide (o = qm_oS own) && Nat.beq i idx && decide (y = ⟨y.cls, x.name, x.desc⟩) && decide (qm_tb p2 = some (.sameMethod x.cls y.cls x.name x.desc)) && decide (qm_tb p3 = some (.superclass (qm_oS own) x.cls)) && decide (qm_tb p4 = some (.instanceMethod y)) && (decide (x.cls = y.cls) || decide (qm_tb p5 = some (.superclass x.cls y.cls))) && decide (x.name ≠ "<init>") && qm_ar y.desc n && Nat.ble ci 12
    | _, _ => false
set_option maxRecDepth 100000 in
theorem qm_ckP_ok : qm_CP.all qm_ckP = true := by decide +kernel
def qm_ckT (q : Nat × Nat × Nat) : Bool := match q with
  | (a, b, p) => decide (qm_tb p = some (.castable (qm_oS a) (qm_oS b)))
set_option maxRecDepth 100000 in
theorem qm_ckT_ok : qm_CT.all qm_ckT = true := by decide +kernel
