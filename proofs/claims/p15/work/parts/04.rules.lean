/-! The judgement: the machine at a frame comes to the end that the pure computation tells. -/
/-- what is known of the start stays known -/
def pz_mv (Γ : PG) : Prop := ∀ U V : State, pg_E Γ U → U.WarmedH V.vm → U.heap.size ≤ V.heap.size → (∀ q : Nat, q < U.heap.size → ¬ pg_A Γ q → V.heap[q]? = U.heap[q]?) → pg_E Γ V
def pz_Fx (Γ : PG) (μ : PM) (p : Program) (s : State) (m : MethodId) (args : Array Value) (meth : Method) (c : Code) (R : Room) : Prop :=
  p.tables.exec = Jvm.exec ∧ c.code = pm_cc μ ∧ meth.sig.returnType = pm_ret μ ∧ c.maxLocals = pm_nL μ ∧ (∀ w ∈ GW, w.before args s = true) ∧ s.vm.findClass (pm_own μ) = some m.cls ∧ meth.locks = false ∧ va_K (pg_D Γ) vwCl (pg_T Γ) s ∧ (∀ q : Nat, s.heap.size ≤ q → pg_A Γ q) ∧ pg_E Γ s ∧ R.frames = pm_F μ ∧ R.locals = pm_L μ ∧ meth.name = (pm_y μ).name ∧ s.methodNamed? (pm_y μ) = some m ∧ (pg_T Γ).map (fun q => q.2) = pz_TYS ∧ pz_mv Γ ∧ ∀ U : State, pg_E Γ U → pz_ext (pg_l Γ) (pg_A Γ) (pg_X Γ) (pg_S Γ) U
section FX
variable {Γ : PG} {μ : PM} {p : Program} {s : State} {m : MethodId} {args : Array Value} {meth : Method} {c : Code} {R : Room}
theorem pz_Fx.x (h : pz_Fx Γ μ p s m args meth c R) : p.tables.exec = Jvm.exec := h.1
theorem pz_Fx.b (h : pz_Fx Γ μ p s m args meth c R) : c.code = pm_cc μ := h.2.1
theorem pz_Fx.r (h : pz_Fx Γ μ p s m args meth c R) : meth.sig.returnType = pm_ret μ := h.2.2.1
theorem pz_Fx.l (h : pz_Fx Γ μ p s m args meth c R) : c.maxLocals = pm_nL μ := h.2.2.2.1
theorem pz_Fx.w (h : pz_Fx Γ μ p s m args meth c R) : ∀ w ∈ GW, w.before args s = true := h.2.2.2.2.1
theorem pz_Fx.o (h : pz_Fx Γ μ p s m args meth c R) : s.vm.findClass (pm_own μ) = some m.cls := h.2.2.2.2.2.1
theorem pz_Fx.k (h : pz_Fx Γ μ p s m args meth c R) : meth.locks = false := h.2.2.2.2.2.2.1
theorem pz_Fx.K (h : pz_Fx Γ μ p s m args meth c R) : va_K (pg_D Γ) vwCl (pg_T Γ) s := h.2.2.2.2.2.2.2.1
theorem pz_Fx.A (h : pz_Fx Γ μ p s m args meth c R) : ∀ q : Nat, s.heap.size ≤ q → pg_A Γ q := h.2.2.2.2.2.2.2.2.1
theorem pz_Fx.E (h : pz_Fx Γ μ p s m args meth c R) : pg_E Γ s := h.2.2.2.2.2.2.2.2.2.1
theorem pz_Fx.F (h : pz_Fx Γ μ p s m args meth c R) : R.frames = pm_F μ := h.2.2.2.2.2.2.2.2.2.2.1
theorem pz_Fx.L (h : pz_Fx Γ μ p s m args meth c R) : R.locals = pm_L μ := h.2.2.2.2.2.2.2.2.2.2.2.1
theorem pz_Fx.n (h : pz_Fx Γ μ p s m args meth c R) : meth.name = (pm_y μ).name := h.2.2.2.2.2.2.2.2.2.2.2.2.1
theorem pz_Fx.I (h : pz_Fx Γ μ p s m args meth c R) : s.methodNamed? (pm_y μ) = some m := h.2.2.2.2.2.2.2.2.2.2.2.2.2.1
theorem pz_Fx.T (h : pz_Fx Γ μ p s m args meth c R) : (pg_T Γ).map (fun q => q.2) = pz_TYS := h.2.2.2.2.2.2.2.2.2.2.2.2.2.2.1
theorem pz_Fx.M (h : pz_Fx Γ μ p s m args meth c R) : pz_mv Γ := h.2.2.2.2.2.2.2.2.2.2.2.2.2.2.2.1
theorem pz_Fx.S (h : pz_Fx Γ μ p s m args meth c R) : ∀ U : State, pg_E Γ U → pz_ext (pg_l Γ) (pg_A Γ) (pg_X Γ) (pg_S Γ) U := h.2.2.2.2.2.2.2.2.2.2.2.2.2.2.2.2
theorem pz_Fx.N (h : pz_Fx Γ μ p s m args meth c R) {w : Cond} (hw : w ∈ NW) : va_Nw w s := (h.S s h.E).1 w hw
end FX
def pz_ov (α : List Nat) (X : Nat → Nat) (v c : Option Value) : Prop := pz_sr α X v.toList c.toList
def pz_Qc (Γ : PG) (α0 : List Nat) (rv : Option Value) (w' : PW) : Array Value → State → Outcome → State → Prop := fun _ st o t =>
  (∃ (cv : Option Value) (α : List Nat) (ws : va_W), o = .returned cv ∧ pz_ov α (pg_X Γ) rv cv ∧ pz_le α0 α ∧ va_P (pg_D Γ) vwCl ws t.heap ∧ va_D (pg_A Γ) ws ∧ pz_wr α (pg_X Γ) (pg_T Γ) w'.1 ws) ∧ va_F (pg_A Γ) st t
/-- the method has thrown an object of the class E -/
def pz_Thr (Γ : PG) (s : State) (below : List Frame) (α0 : List Nat) (E : String) (w' : PW) (mc ms : Nat) : State → Prop := fun t =>
  ∃ (q : Addr) (ce : Cell) (L : List Loc) (α : List Nat) (ws : va_W), t.status = .running ∧ Ended t below (.threw q) ∧ t.heap[q]? = some ce ∧ ce.vm = .none ∧ s.vm.findClass E = some ce.cls ∧ s.WarmedH t.vm ∧ s.sameButNew ({ t with vm := s.vm } : State) L mc ms ∧ (∀ z ∈ L, pg_A Γ z.base) ∧ pz_le α0 α ∧ va_P (pg_D Γ) vwCl ws t.heap ∧ va_D (pg_A Γ) ws ∧ pz_wr α (pg_X Γ) (pg_T Γ) w'.1 ws ∧ va_F (pg_A Γ) s t
def pz_Fin (Γ : PG) (s : State) (args : Array Value) (below : List Frame) (c : Code) (R : Room) (α0 : List Nat) (b1 b2 : Nat) (Q : State → Prop) (r : PR) (w' : PW) : Prop :=
  w'.2.1 ≤ b1 + R.cells ∧ w'.2.2 ≤ b2 + R.slots ∧ match r with
  | .inl rv => ∀ t, MQ below (pz_Qc Γ α0 rv w') args s (w'.2.1 - b1) (w'.2.2 - b2) (pg_A Γ) t → Q t
  | .inr E => (∀ x ∈ c.exceptionTable.toList, False) ∧ ∀ t, pz_Thr Γ s below α0 E w' (w'.2.1 - b1) (w'.2.2 - b2) t → Q t
def pz_St (Γ : PG) (μ : PM) (s : State) (α0 : List Nat) (b1 b2 : Nat) (lv : List (Nat × Value)) (st : List Value) (w : PW) (H : Heap) (locs : List Loc) (cells slots : Nat) (ls : Array Slot) (cst : List Value) : Prop :=
  ∃ (α : List Nat) (clv : List (Nat × Value)) (ws : va_W), pz_le α0 α ∧ va_P (pg_D Γ) vwCl ws H ∧ va_D (pg_A Γ) ws ∧ va_S (pg_A Γ) s.heap H locs ∧ pz_wr α (pg_X Γ) (pg_T Γ) w.1 ws ∧ lv_has ls (pm_nL μ) clv ∧ pz_lr α (pg_X Γ) lv clv ∧ pz_sr α (pg_X Γ) st cst ∧ w.2.1 = b1 + cells ∧ w.2.2 = b2 + slots
def pz_G (Γ : PG) (μ : PM) (p : Program) (e : Env) (s : State) (m : MethodId) (args : Array Value) (below : List Frame) (meth : Method) (c : Code) (R : Room) (α0 : List Nat) (b1 b2 : Nat) (Q : State → Prop) (pc : Nat) (lv : List (Nat × Value)) (st : List Value) (w : PW) : Prop :=
  ∀ (H : Heap) (locs : List Loc) (cells slots : Nat) (ls : Array Slot) (cst : List Value), pz_St Γ μ s α0 b1 b2 lv st w H locs cells slots ls cst → W p (pg_l Γ) e R s m args below meth c H locs cells slots Q (F0 m pc ls cst)
def EE (Γ : PG) (μ : PM) (pc : Nat) (lv : List (Nat × Value)) (st : List Value) (w : PW) (x : PX) : Prop :=
  ∀ (r : PR) (w' : PW), x = some (r, w') → w.2.1 ≤ w'.2.1 ∧ w.2.2 ≤ w'.2.2 ∧
    ∀ (p : Program) (e : Env) (s : State) (m : MethodId) (args : Array Value) (below : List Frame) (meth : Method) (c : Code) (R : Room) (α0 : List Nat) (b1 b2 : Nat) (Q : State → Prop),
      pz_Fx Γ μ p s m args meth c R → pz_Fin Γ s args below c R α0 b1 b2 Q r w' → pz_G Γ μ p e s m args below meth c R α0 b1 b2 Q pc lv st w
theorem pz_mono {p : Program} {l : Launch} {e : Env} {R : Room} {s : State} {m : MethodId} {args : Array Value} {below : List Frame} {meth : Method} {c : Code} {H : Heap} {locs : List Loc} {cells slots : Nat} {Q Q' : State → Prop} {g : JFrame} (h : ∀ t, Q t → Q' t) (k : W p l e R s m args below meth c H locs cells slots Q g) : W p l e R s m args below meth c H locs cells slots Q' g := by
  intro T hT X
  obtain ⟨t, a, b⟩ := k T hT X
  exact ⟨t, a, h t b⟩
section RULES
variable {Γ : PG} {μ : PM} {pc : Nat} {lv : List (Nat × Value)} {st : List Value} {w : PW} {x0 : PX}
/-- an instruction without effect on the world -/
theorem ee_of {pc2 : Nat} {lv2 : List (Nat × Value)} {st2 : List Value}
    (T : ∀ (p : Program) (e : Env) (s : State) (m : MethodId) (args : Array Value) (below : List Frame) (meth : Method) (c : Code) (R : Room) (α0 : List Nat) (b1 b2 : Nat) (Q : State → Prop), pz_Fx Γ μ p s m args meth c R → (w.2.1 ≤ b1 + R.cells ∧ w.2.2 ≤ b2 + R.slots) → pz_G Γ μ p e s m args below meth c R α0 b1 b2 Q pc2 lv2 st2 w → pz_G Γ μ p e s m args below meth c R α0 b1 b2 Q pc lv st w)
    (k : EE Γ μ pc2 lv2 st2 w x0) : EE Γ μ pc lv st w x0 := by
  intro r w' h
  obtain ⟨h1, h2, h3⟩ := k r w' h
  refine ⟨h1, h2, fun p e s m args below meth c R α0 b1 b2 Q hF hQ => ?_⟩
  exact T p e s m args below meth c R α0 b1 b2 Q hF ⟨Nat.le_trans h1 hQ.1, Nat.le_trans h2 hQ.2.1⟩ (h3 p e s m args below meth c R α0 b1 b2 Q hF hQ)
theorem ee_none : EE Γ μ pc lv st w none := fun _ _ h => nomatch h
theorem ee_eq {x1 : PX} (h : x0 = x1) (k : EE Γ μ pc lv st w x1) : EE Γ μ pc lv st w x0 := h ▸ k
/-- fewer locals -/
theorem ee_pick (ks : List Nat) {lv2 : List (Nat × Value)} (hl : p_pick lv ks = lv2) (k : EE Γ μ pc lv2 st w x0) : EE Γ μ pc lv st w x0 := by
  subst hl
  refine ee_of (fun p e s m args below meth c R α0 b1 b2 Q hF _ hg => ?_) k
  intro H locs cells slots ls cst ⟨α, clv, ws, hα, hP, hD, hS, hw, hls, hlr, hsr, e1, e2⟩
  exact hg _ _ _ _ _ _ ⟨α, lv_pick clv ks, ws, hα, hP, hD, hS, hw, lv_sub hls ks rfl, hlr.pick ks, hsr, e1, e2⟩

theorem ee_iconst {n : Int} {v : Int32} (hd : decode (pm_cc μ) pc = .ok (.iconst n, 1)) (hv : Int32.ofInt n = v) (k : EE Γ μ (pc + 1) lv (.int v :: st) w x0) : EE Γ μ pc lv st w x0 := by
  refine ee_of (fun p e s m args below meth c R α0 b1 b2 Q hF hB hg => ?_) k
  intro H locs cells slots ls cst ⟨α, clv, ws, hα, hP, hD, hS, hw, hls, hlr, hsr, e1, e2⟩
  exact lv_iconst hF.x hF.b hd hv (hg _ _ _ _ _ _ ⟨α, clv, ws, hα, hP, hD, hS, hw, hls, hlr, hsr.pi, e1, e2⟩)
theorem ee_bipush {n : Int} {v : Int32} (hd : decode (pm_cc μ) pc = .ok (.bipush n, 2)) (hv : (Int8.ofInt n).toInt32 = v) (k : EE Γ μ (pc + 2) lv (.int v :: st) w x0) : EE Γ μ pc lv st w x0 := by
  refine ee_of (fun p e s m args below meth c R α0 b1 b2 Q hF hB hg => ?_) k
  intro H locs cells slots ls cst ⟨α, clv, ws, hα, hP, hD, hS, hw, hls, hlr, hsr, e1, e2⟩
  exact lv_bipush hF.x hF.b hd hv (hg _ _ _ _ _ _ ⟨α, clv, ws, hα, hP, hD, hS, hw, hls, hlr, hsr.pi, e1, e2⟩)
theorem ee_sipush {n : Int} {v : Int32} (hd : decode (pm_cc μ) pc = .ok (.sipush n, 3)) (hv : (Int16.ofInt n).toInt32 = v) (k : EE Γ μ (pc + 3) lv (.int v :: st) w x0) : EE Γ μ pc lv st w x0 := by
  refine ee_of (fun p e s m args below meth c R α0 b1 b2 Q hF hB hg => ?_) k
  intro H locs cells slots ls cst ⟨α, clv, ws, hα, hP, hD, hS, hw, hls, hlr, hsr, e1, e2⟩
  exact lv_sipush hF.x hF.b hd hv (hg _ _ _ _ _ _ ⟨α, clv, ws, hα, hP, hD, hS, hw, hls, hlr, hsr.pi, e1, e2⟩)
theorem ee_lconst {n : Fin 2} {v : Int64} (hd : decode (pm_cc μ) pc = .ok (.lconst n, 1)) (hv : Int64.ofNat (n : Nat) = v) (k : EE Γ μ (pc + 1) lv (.long v :: st) w x0) : EE Γ μ pc lv st w x0 := by
  refine ee_of (fun p e s m args below meth c R α0 b1 b2 Q hF hB hg => ?_) k
  intro H locs cells slots ls cst ⟨α, clv, ws, hα, hP, hD, hS, hw, hls, hlr, hsr, e1, e2⟩
  exact lv_lconst hF.x hF.b hd hv (hg _ _ _ _ _ _ ⟨α, clv, ws, hα, hP, hD, hS, hw, hls, hlr, hsr.pl, e1, e2⟩)
theorem ee_ldc {i : Nat} {v : Int32} (hd : decode (pm_cc μ) pc = .ok (.ldc i, 2)) (hc : Jvm.Cond.constant (pm_own μ) i v ∈ GW) (k : EE Γ μ (pc + 2) lv (.int v :: st) w x0) : EE Γ μ pc lv st w x0 := by
  refine ee_of (fun p e s m args below meth c R α0 b1 b2 Q hF hB hg => ?_) k
  intro H locs cells slots ls cst ⟨α, clv, ws, hα, hP, hD, hS, hw, hls, hlr, hsr, e1, e2⟩
  exact lv_ldc hF.x hF.b hF.o (hF.w _ hc) hd (hg _ _ _ _ _ _ ⟨α, clv, ws, hα, hP, hD, hS, hw, hls, hlr, hsr.pi, e1, e2⟩)
theorem ee_ldcw {i : Nat} {v : Int32} (hd : decode (pm_cc μ) pc = .ok (.ldc_w i, 3)) (hc : Jvm.Cond.constant (pm_own μ) i v ∈ GW) (k : EE Γ μ (pc + 3) lv (.int v :: st) w x0) : EE Γ μ pc lv st w x0 := by
  refine ee_of (fun p e s m args below meth c R α0 b1 b2 Q hF hB hg => ?_) k
  intro H locs cells slots ls cst ⟨α, clv, ws, hα, hP, hD, hS, hw, hls, hlr, hsr, e1, e2⟩
  exact lv_ldcw hF.x hF.b hF.o (hF.w _ hc) hd (hg _ _ _ _ _ _ ⟨α, clv, ws, hα, hP, hD, hS, hw, hls, hlr, hsr.pi, e1, e2⟩)
theorem ee_ldc2 {i : Nat} {v : Int64} (hd : decode (pm_cc μ) pc = .ok (.ldc2_w i, 3)) (hc : Jvm.Cond.constantLong (pm_own μ) i v ∈ GW) (k : EE Γ μ (pc + 3) lv (.long v :: st) w x0) : EE Γ μ pc lv st w x0 := by
  refine ee_of (fun p e s m args below meth c R α0 b1 b2 Q hF hB hg => ?_) k
  intro H locs cells slots ls cst ⟨α, clv, ws, hα, hP, hD, hS, hw, hls, hlr, hsr, e1, e2⟩
  exact lv_ldc2 hF.x hF.b hF.o (hF.w _ hc) hd (hg _ _ _ _ _ _ ⟨α, clv, ws, hα, hP, hD, hS, hw, hls, hlr, hsr.pl, e1, e2⟩)
theorem ee_iload_n {kf : Fin 4} {x : Int32} (j : Nat) (hd : decode (pm_cc μ) pc = .ok (.iload_n kf, 1)) (hl : lv[j]? = some ((kf : Nat), .int x)) (k : EE Γ μ (pc + 1) lv (.int x :: st) w x0) : EE Γ μ pc lv st w x0 := by
  refine ee_of (fun p e s m args below meth c R α0 b1 b2 Q hF hB hg => ?_) k
  intro H locs cells slots ls cst ⟨α, clv, ws, hα, hP, hD, hS, hw, hls, hlr, hsr, e1, e2⟩
  obtain ⟨c1, hm, (rfl : c1 = .int x)⟩ := hlr.get hl
  exact lv_iload_n hF.x hF.b hd rfl (hls.2.2 _ hm) (hg _ _ _ _ _ _ ⟨α, clv, ws, hα, hP, hD, hS, hw, hls, hlr, hsr.pi, e1, e2⟩)
theorem ee_iload {i : Nat} {x : Int32} (j : Nat) (hd : decode (pm_cc μ) pc = .ok (.iload i, 2)) (hl : lv[j]? = some (i, .int x)) (k : EE Γ μ (pc + 2) lv (.int x :: st) w x0) : EE Γ μ pc lv st w x0 := by
  refine ee_of (fun p e s m args below meth c R α0 b1 b2 Q hF hB hg => ?_) k
  intro H locs cells slots ls cst ⟨α, clv, ws, hα, hP, hD, hS, hw, hls, hlr, hsr, e1, e2⟩
  obtain ⟨c1, hm, (rfl : c1 = .int x)⟩ := hlr.get hl
  exact lv_iload hF.x hF.b hd (hls.2.2 _ hm) (hg _ _ _ _ _ _ ⟨α, clv, ws, hα, hP, hD, hS, hw, hls, hlr, hsr.pi, e1, e2⟩)
theorem ee_lload_n {kf : Fin 4} {x : Int64} (j : Nat) (hd : decode (pm_cc μ) pc = .ok (.lload_n kf, 1)) (hl : lv[j]? = some ((kf : Nat), .long x)) (k : EE Γ μ (pc + 1) lv (.long x :: st) w x0) : EE Γ μ pc lv st w x0 := by
  refine ee_of (fun p e s m args below meth c R α0 b1 b2 Q hF hB hg => ?_) k
  intro H locs cells slots ls cst ⟨α, clv, ws, hα, hP, hD, hS, hw, hls, hlr, hsr, e1, e2⟩
  obtain ⟨c1, hm, (rfl : c1 = .long x)⟩ := hlr.get hl
  exact lv_lload_n hF.x hF.b hd rfl (hls.2.2 _ hm) (hg _ _ _ _ _ _ ⟨α, clv, ws, hα, hP, hD, hS, hw, hls, hlr, hsr.pl, e1, e2⟩)
theorem ee_lload {i : Nat} {x : Int64} (j : Nat) (hd : decode (pm_cc μ) pc = .ok (.lload i, 2)) (hl : lv[j]? = some (i, .long x)) (k : EE Γ μ (pc + 2) lv (.long x :: st) w x0) : EE Γ μ pc lv st w x0 := by
  refine ee_of (fun p e s m args below meth c R α0 b1 b2 Q hF hB hg => ?_) k
  intro H locs cells slots ls cst ⟨α, clv, ws, hα, hP, hD, hS, hw, hls, hlr, hsr, e1, e2⟩
  obtain ⟨c1, hm, (rfl : c1 = .long x)⟩ := hlr.get hl
  exact lv_lload hF.x hF.b hd (hls.2.2 _ hm) (hg _ _ _ _ _ _ ⟨α, clv, ws, hα, hP, hD, hS, hw, hls, hlr, hsr.pl, e1, e2⟩)
theorem ee_aload_n {kf : Fin 4} {x : Nat} (j : Nat) (hd : decode (pm_cc μ) pc = .ok (.aload_n kf, 1)) (hl : lv[j]? = some ((kf : Nat), .ref x)) (k : EE Γ μ (pc + 1) lv (.ref x :: st) w x0) : EE Γ μ pc lv st w x0 := by
  refine ee_of (fun p e s m args below meth c R α0 b1 b2 Q hF hB hg => ?_) k
  intro H locs cells slots ls cst ⟨α, clv, ws, hα, hP, hD, hS, hw, hls, hlr, hsr, e1, e2⟩
  obtain ⟨c1, hm, a, ha, rfl⟩ := hlr.get hl
  exact lv_aload_n hF.x hF.b hd rfl (hls.2.2 _ hm) (hg _ _ _ _ _ _ ⟨α, clv, ws, hα, hP, hD, hS, hw, hls, hlr, (hsr.pr ha), e1, e2⟩)
theorem ee_aload {i : Nat} {x : Nat} (j : Nat) (hd : decode (pm_cc μ) pc = .ok (.aload i, 2)) (hl : lv[j]? = some (i, .ref x)) (k : EE Γ μ (pc + 2) lv (.ref x :: st) w x0) : EE Γ μ pc lv st w x0 := by
  refine ee_of (fun p e s m args below meth c R α0 b1 b2 Q hF hB hg => ?_) k
  intro H locs cells slots ls cst ⟨α, clv, ws, hα, hP, hD, hS, hw, hls, hlr, hsr, e1, e2⟩
  obtain ⟨c1, hm, a, ha, rfl⟩ := hlr.get hl
  exact lv_aload hF.x hF.b hd (hls.2.2 _ hm) (hg _ _ _ _ _ _ ⟨α, clv, ws, hα, hP, hD, hS, hw, hls, hlr, (hsr.pr ha), e1, e2⟩)
theorem ee_istore_n {kf : Fin 4} {x : Int32} {lv2 : List (Nat × Value)} (hd : decode (pm_cc μ) pc = .ok (.istore_n kf, 1)) (hn : (kf : Nat) < pm_nL μ) (hl : ((kf : Nat), Value.int x) :: lv.filter (fun q => !(q.1 == (kf : Nat)) && !(q.1 + 1 == (kf : Nat) && q.2.category == 2)) = lv2) (k : EE Γ μ (pc + 1) lv2 st w x0) : EE Γ μ pc lv (Value.int x :: st) w x0 := by
  subst hl
  refine ee_of (fun p e s m args below meth c R α0 b1 b2 Q hF hB hg => ?_) k
  intro H locs cells slots ls cst ⟨α, clv, ws, hα, hP, hD, hS, hw, hls, hlr, hsr, e1, e2⟩
  obtain ⟨_, rfl, hs1_⟩ := hsr.i
  exact lv_istore_n hF.x hF.b hd rfl hls hn rfl (fun ls2 hls2 => hg _ _ _ _ _ _ ⟨α, _, ws, hα, hP, hD, hS, hw, hls2, ⟨rfl, rfl, hlr.filter (fun k9 c9 => !(k9 == (kf : Nat)) && !(k9 + 1 == (kf : Nat) && c9 == 2))⟩, hs1_, e1, e2⟩)
theorem ee_istore {i : Nat} {x : Int32} {lv2 : List (Nat × Value)} (hd : decode (pm_cc μ) pc = .ok (.istore i, 2)) (hn : i < pm_nL μ) (hl : (i, Value.int x) :: lv.filter (fun q => !(q.1 == i) && !(q.1 + 1 == i && q.2.category == 2)) = lv2) (k : EE Γ μ (pc + 2) lv2 st w x0) : EE Γ μ pc lv (Value.int x :: st) w x0 := by
  subst hl
  refine ee_of (fun p e s m args below meth c R α0 b1 b2 Q hF hB hg => ?_) k
  intro H locs cells slots ls cst ⟨α, clv, ws, hα, hP, hD, hS, hw, hls, hlr, hsr, e1, e2⟩
  obtain ⟨_, rfl, hs1_⟩ := hsr.i
  exact lv_istore hF.x hF.b hd hls hn rfl (fun ls2 hls2 => hg _ _ _ _ _ _ ⟨α, _, ws, hα, hP, hD, hS, hw, hls2, ⟨rfl, rfl, hlr.filter (fun k9 c9 => !(k9 == i) && !(k9 + 1 == i && c9 == 2))⟩, hs1_, e1, e2⟩)
theorem ee_lstore_n {kf : Fin 4} {x : Int64} {lv2 : List (Nat × Value)} (hd : decode (pm_cc μ) pc = .ok (.lstore_n kf, 1)) (hn : (kf : Nat) + 1 < pm_nL μ) (hl : ((kf : Nat), Value.long x) :: lv.filter (fun q => !(q.1 == (kf : Nat)) && (!(q.1 == (kf : Nat) + 1) && !(q.1 + 1 == (kf : Nat) && q.2.category == 2))) = lv2) (k : EE Γ μ (pc + 1) lv2 st w x0) : EE Γ μ pc lv (Value.long x :: st) w x0 := by
  subst hl
  refine ee_of (fun p e s m args below meth c R α0 b1 b2 Q hF hB hg => ?_) k
  intro H locs cells slots ls cst ⟨α, clv, ws, hα, hP, hD, hS, hw, hls, hlr, hsr, e1, e2⟩
  obtain ⟨_, rfl, hs1_⟩ := hsr.l
  exact lv_lstore_n hF.x hF.b hd rfl hls hn rfl (fun ls2 hls2 => hg _ _ _ _ _ _ ⟨α, _, ws, hα, hP, hD, hS, hw, hls2, ⟨rfl, rfl, hlr.filter (fun k9 c9 => !(k9 == (kf : Nat)) && (!(k9 == (kf : Nat) + 1) && !(k9 + 1 == (kf : Nat) && c9 == 2)))⟩, hs1_, e1, e2⟩)
theorem ee_lstore {i : Nat} {x : Int64} {lv2 : List (Nat × Value)} (hd : decode (pm_cc μ) pc = .ok (.lstore i, 2)) (hn : i + 1 < pm_nL μ) (hl : (i, Value.long x) :: lv.filter (fun q => !(q.1 == i) && (!(q.1 == i + 1) && !(q.1 + 1 == i && q.2.category == 2))) = lv2) (k : EE Γ μ (pc + 2) lv2 st w x0) : EE Γ μ pc lv (Value.long x :: st) w x0 := by
  subst hl
  refine ee_of (fun p e s m args below meth c R α0 b1 b2 Q hF hB hg => ?_) k
  intro H locs cells slots ls cst ⟨α, clv, ws, hα, hP, hD, hS, hw, hls, hlr, hsr, e1, e2⟩
  obtain ⟨_, rfl, hs1_⟩ := hsr.l
  exact lv_lstore hF.x hF.b hd hls hn rfl (fun ls2 hls2 => hg _ _ _ _ _ _ ⟨α, _, ws, hα, hP, hD, hS, hw, hls2, ⟨rfl, rfl, hlr.filter (fun k9 c9 => !(k9 == i) && (!(k9 == i + 1) && !(k9 + 1 == i && c9 == 2)))⟩, hs1_, e1, e2⟩)
theorem ee_astore_n {kf : Fin 4} {x : Nat} {lv2 : List (Nat × Value)} (hd : decode (pm_cc μ) pc = .ok (.astore_n kf, 1)) (hn : (kf : Nat) < pm_nL μ) (hl : ((kf : Nat), Value.ref x) :: lv.filter (fun q => !(q.1 == (kf : Nat)) && !(q.1 + 1 == (kf : Nat) && q.2.category == 2)) = lv2) (k : EE Γ μ (pc + 1) lv2 st w x0) : EE Γ μ pc lv (Value.ref x :: st) w x0 := by
  subst hl
  refine ee_of (fun p e s m args below meth c R α0 b1 b2 Q hF hB hg => ?_) k
  intro H locs cells slots ls cst ⟨α, clv, ws, hα, hP, hD, hS, hw, hls, hlr, hsr, e1, e2⟩
  obtain ⟨a0, _, rfl, ha0, hs1_⟩ := hsr.r
  exact lv_astore_n hF.x hF.b hd rfl hls hn rfl (fun ls2 hls2 => hg _ _ _ _ _ _ ⟨α, _, ws, hα, hP, hD, hS, hw, hls2, ⟨rfl, ⟨a0, ha0, rfl⟩, hlr.filter (fun k9 c9 => !(k9 == (kf : Nat)) && !(k9 + 1 == (kf : Nat) && c9 == 2))⟩, hs1_, e1, e2⟩)
theorem ee_astore {i : Nat} {x : Nat} {lv2 : List (Nat × Value)} (hd : decode (pm_cc μ) pc = .ok (.astore i, 2)) (hn : i < pm_nL μ) (hl : (i, Value.ref x) :: lv.filter (fun q => !(q.1 == i) && !(q.1 + 1 == i && q.2.category == 2)) = lv2) (k : EE Γ μ (pc + 2) lv2 st w x0) : EE Γ μ pc lv (Value.ref x :: st) w x0 := by
  subst hl
  refine ee_of (fun p e s m args below meth c R α0 b1 b2 Q hF hB hg => ?_) k
  intro H locs cells slots ls cst ⟨α, clv, ws, hα, hP, hD, hS, hw, hls, hlr, hsr, e1, e2⟩
  obtain ⟨a0, _, rfl, ha0, hs1_⟩ := hsr.r
  exact lv_astore hF.x hF.b hd hls hn rfl (fun ls2 hls2 => hg _ _ _ _ _ _ ⟨α, _, ws, hα, hP, hD, hS, hw, hls2, ⟨rfl, ⟨a0, ha0, rfl⟩, hlr.filter (fun k9 c9 => !(k9 == i) && !(k9 + 1 == i && c9 == 2))⟩, hs1_, e1, e2⟩)
theorem ee_iinc {i : Nat} {n : Int} {x e : Int32} {K : Int32 → PX} (j : Nat) (hd : decode (pm_cc μ) pc = .ok (.iinc i n, 3)) (hx : lv[j]? = some (i, .int x)) (he : Int32.ofInt n = e) (hn : i < pm_nL μ) (k : ∀ v, v = x + e → EE Γ μ (pc + 3) ((i, Value.int v) :: lv.filter (fun q => !(q.1 == i) && !(q.1 + 1 == i && q.2.category == 2))) st w (K v)) : EE Γ μ pc lv st w (p_let (x + e) K) := by
  refine ee_of (fun p e s m args below meth c R α0 b1 b2 Q hF hB hg => ?_) (k _ rfl)
  intro H locs cells slots ls cst ⟨α, clv, ws, hα, hP, hD, hS, hw, hls, hlr, hsr, e1, e2⟩
  obtain ⟨c1, hm, (rfl : c1 = .int x)⟩ := hlr.get hx
  obtain ⟨k9, hk9⟩ := List.getElem?_of_mem hm
  exact lv_iinc hF.x hF.b hd hls hk9 (by rw [he]) hn rfl (fun ls2 hls2 => hg _ _ _ _ _ _ ⟨α, _, ws, hα, hP, hD, hS, hw, hls2, ⟨rfl, rfl, hlr.filter (fun k9 c9 => !(k9 == i) && !(k9 + 1 == i && c9 == 2))⟩, hsr, e1, e2⟩)
theorem ee_lv {lv2 : List (Nat × Value)} (h : lv = lv2) (k : EE Γ μ pc lv2 st w x0) : EE Γ μ pc lv st w x0 := h ▸ k
theorem ee_iadd {x y : Int32} (hd : decode (pm_cc μ) pc = .ok (.iadd, 1)) (k : EE Γ μ (pc + 1) lv (.int (x + y) :: st) w x0) : EE Γ μ pc lv (.int y :: .int x :: st) w x0 := by
  refine ee_of (fun p e s m args below meth c R α0 b1 b2 Q hF hB hg => ?_) k
  intro H locs cells slots ls cst ⟨α, clv, ws, hα, hP, hD, hS, hw, hls, hlr, hsr, e1, e2⟩
  obtain ⟨_, rfl, hs1_⟩ := hsr.i
  obtain ⟨_, rfl, hs2_⟩ := hs1_.i
  exact lv_iadd hF.x hF.b hd (hg _ _ _ _ _ _ ⟨α, clv, ws, hα, hP, hD, hS, hw, hls, hlr, hs2_.pi, e1, e2⟩)
theorem ee_isub {x y : Int32} (hd : decode (pm_cc μ) pc = .ok (.isub, 1)) (k : EE Γ μ (pc + 1) lv (.int (x - y) :: st) w x0) : EE Γ μ pc lv (.int y :: .int x :: st) w x0 := by
  refine ee_of (fun p e s m args below meth c R α0 b1 b2 Q hF hB hg => ?_) k
  intro H locs cells slots ls cst ⟨α, clv, ws, hα, hP, hD, hS, hw, hls, hlr, hsr, e1, e2⟩
  obtain ⟨_, rfl, hs1_⟩ := hsr.i
  obtain ⟨_, rfl, hs2_⟩ := hs1_.i
  exact lv_isub hF.x hF.b hd (hg _ _ _ _ _ _ ⟨α, clv, ws, hα, hP, hD, hS, hw, hls, hlr, hs2_.pi, e1, e2⟩)
theorem ee_imul {x y : Int32} (hd : decode (pm_cc μ) pc = .ok (.imul, 1)) (k : EE Γ μ (pc + 1) lv (.int (x * y) :: st) w x0) : EE Γ μ pc lv (.int y :: .int x :: st) w x0 := by
  refine ee_of (fun p e s m args below meth c R α0 b1 b2 Q hF hB hg => ?_) k
  intro H locs cells slots ls cst ⟨α, clv, ws, hα, hP, hD, hS, hw, hls, hlr, hsr, e1, e2⟩
  obtain ⟨_, rfl, hs1_⟩ := hsr.i
  obtain ⟨_, rfl, hs2_⟩ := hs1_.i
  exact lv_imul hF.x hF.b hd (hg _ _ _ _ _ _ ⟨α, clv, ws, hα, hP, hD, hS, hw, hls, hlr, hs2_.pi, e1, e2⟩)
theorem ee_iand {x y : Int32} (hd : decode (pm_cc μ) pc = .ok (.iand, 1)) (k : EE Γ μ (pc + 1) lv (.int (x &&& y) :: st) w x0) : EE Γ μ pc lv (.int y :: .int x :: st) w x0 := by
  refine ee_of (fun p e s m args below meth c R α0 b1 b2 Q hF hB hg => ?_) k
  intro H locs cells slots ls cst ⟨α, clv, ws, hα, hP, hD, hS, hw, hls, hlr, hsr, e1, e2⟩
  obtain ⟨_, rfl, hs1_⟩ := hsr.i
  obtain ⟨_, rfl, hs2_⟩ := hs1_.i
  exact lv_iand hF.x hF.b hd (hg _ _ _ _ _ _ ⟨α, clv, ws, hα, hP, hD, hS, hw, hls, hlr, hs2_.pi, e1, e2⟩)
theorem ee_ior {x y : Int32} (hd : decode (pm_cc μ) pc = .ok (.ior, 1)) (k : EE Γ μ (pc + 1) lv (.int (x ||| y) :: st) w x0) : EE Γ μ pc lv (.int y :: .int x :: st) w x0 := by
  refine ee_of (fun p e s m args below meth c R α0 b1 b2 Q hF hB hg => ?_) k
  intro H locs cells slots ls cst ⟨α, clv, ws, hα, hP, hD, hS, hw, hls, hlr, hsr, e1, e2⟩
  obtain ⟨_, rfl, hs1_⟩ := hsr.i
  obtain ⟨_, rfl, hs2_⟩ := hs1_.i
  exact lv_ior hF.x hF.b hd (hg _ _ _ _ _ _ ⟨α, clv, ws, hα, hP, hD, hS, hw, hls, hlr, hs2_.pi, e1, e2⟩)
theorem ee_ixor {x y : Int32} (hd : decode (pm_cc μ) pc = .ok (.ixor, 1)) (k : EE Γ μ (pc + 1) lv (.int (x ^^^ y) :: st) w x0) : EE Γ μ pc lv (.int y :: .int x :: st) w x0 := by
  refine ee_of (fun p e s m args below meth c R α0 b1 b2 Q hF hB hg => ?_) k
  intro H locs cells slots ls cst ⟨α, clv, ws, hα, hP, hD, hS, hw, hls, hlr, hsr, e1, e2⟩
  obtain ⟨_, rfl, hs1_⟩ := hsr.i
  obtain ⟨_, rfl, hs2_⟩ := hs1_.i
  exact lv_ixor hF.x hF.b hd (hg _ _ _ _ _ _ ⟨α, clv, ws, hα, hP, hD, hS, hw, hls, hlr, hs2_.pi, e1, e2⟩)
theorem ee_ladd {x y : Int64} (hd : decode (pm_cc μ) pc = .ok (.ladd, 1)) (k : EE Γ μ (pc + 1) lv (.long (x + y) :: st) w x0) : EE Γ μ pc lv (.long y :: .long x :: st) w x0 := by
  refine ee_of (fun p e s m args below meth c R α0 b1 b2 Q hF hB hg => ?_) k
  intro H locs cells slots ls cst ⟨α, clv, ws, hα, hP, hD, hS, hw, hls, hlr, hsr, e1, e2⟩
  obtain ⟨_, rfl, hs1_⟩ := hsr.l
  obtain ⟨_, rfl, hs2_⟩ := hs1_.l
  exact lv_ladd hF.x hF.b hd (hg _ _ _ _ _ _ ⟨α, clv, ws, hα, hP, hD, hS, hw, hls, hlr, hs2_.pl, e1, e2⟩)
theorem ee_lsub {x y : Int64} (hd : decode (pm_cc μ) pc = .ok (.lsub, 1)) (k : EE Γ μ (pc + 1) lv (.long (x - y) :: st) w x0) : EE Γ μ pc lv (.long y :: .long x :: st) w x0 := by
  refine ee_of (fun p e s m args below meth c R α0 b1 b2 Q hF hB hg => ?_) k
  intro H locs cells slots ls cst ⟨α, clv, ws, hα, hP, hD, hS, hw, hls, hlr, hsr, e1, e2⟩
  obtain ⟨_, rfl, hs1_⟩ := hsr.l
  obtain ⟨_, rfl, hs2_⟩ := hs1_.l
  exact lv_lsub hF.x hF.b hd (hg _ _ _ _ _ _ ⟨α, clv, ws, hα, hP, hD, hS, hw, hls, hlr, hs2_.pl, e1, e2⟩)
theorem ee_lmul {x y : Int64} (hd : decode (pm_cc μ) pc = .ok (.lmul, 1)) (k : EE Γ μ (pc + 1) lv (.long (x * y) :: st) w x0) : EE Γ μ pc lv (.long y :: .long x :: st) w x0 := by
  refine ee_of (fun p e s m args below meth c R α0 b1 b2 Q hF hB hg => ?_) k
  intro H locs cells slots ls cst ⟨α, clv, ws, hα, hP, hD, hS, hw, hls, hlr, hsr, e1, e2⟩
  obtain ⟨_, rfl, hs1_⟩ := hsr.l
  obtain ⟨_, rfl, hs2_⟩ := hs1_.l
  exact lv_lmul hF.x hF.b hd (hg _ _ _ _ _ _ ⟨α, clv, ws, hα, hP, hD, hS, hw, hls, hlr, hs2_.pl, e1, e2⟩)
theorem ee_land {x y : Int64} (hd : decode (pm_cc μ) pc = .ok (.land, 1)) (k : EE Γ μ (pc + 1) lv (.long (x &&& y) :: st) w x0) : EE Γ μ pc lv (.long y :: .long x :: st) w x0 := by
  refine ee_of (fun p e s m args below meth c R α0 b1 b2 Q hF hB hg => ?_) k
  intro H locs cells slots ls cst ⟨α, clv, ws, hα, hP, hD, hS, hw, hls, hlr, hsr, e1, e2⟩
  obtain ⟨_, rfl, hs1_⟩ := hsr.l
  obtain ⟨_, rfl, hs2_⟩ := hs1_.l
  exact lv_land hF.x hF.b hd (hg _ _ _ _ _ _ ⟨α, clv, ws, hα, hP, hD, hS, hw, hls, hlr, hs2_.pl, e1, e2⟩)
theorem ee_lor {x y : Int64} (hd : decode (pm_cc μ) pc = .ok (.lor, 1)) (k : EE Γ μ (pc + 1) lv (.long (x ||| y) :: st) w x0) : EE Γ μ pc lv (.long y :: .long x :: st) w x0 := by
  refine ee_of (fun p e s m args below meth c R α0 b1 b2 Q hF hB hg => ?_) k
  intro H locs cells slots ls cst ⟨α, clv, ws, hα, hP, hD, hS, hw, hls, hlr, hsr, e1, e2⟩
  obtain ⟨_, rfl, hs1_⟩ := hsr.l
  obtain ⟨_, rfl, hs2_⟩ := hs1_.l
  exact lv_lor hF.x hF.b hd (hg _ _ _ _ _ _ ⟨α, clv, ws, hα, hP, hD, hS, hw, hls, hlr, hs2_.pl, e1, e2⟩)
theorem ee_i2l {x : Int32} (hd : decode (pm_cc μ) pc = .ok (.i2l, 1)) (k : EE Γ μ (pc + 1) lv (.long x.toInt64 :: st) w x0) : EE Γ μ pc lv (.int x :: st) w x0 := by
  refine ee_of (fun p e s m args below meth c R α0 b1 b2 Q hF hB hg => ?_) k
  intro H locs cells slots ls cst ⟨α, clv, ws, hα, hP, hD, hS, hw, hls, hlr, hsr, e1, e2⟩
  obtain ⟨_, rfl, hs1_⟩ := hsr.i
  exact lv_i2l hF.x hF.b hd rfl (hg _ _ _ _ _ _ ⟨α, clv, ws, hα, hP, hD, hS, hw, hls, hlr, hs1_.pl, e1, e2⟩)
theorem ee_l2i {x : Int64} (hd : decode (pm_cc μ) pc = .ok (.l2i, 1)) (k : EE Γ μ (pc + 1) lv (.int x.toInt32 :: st) w x0) : EE Γ μ pc lv (.long x :: st) w x0 := by
  refine ee_of (fun p e s m args below meth c R α0 b1 b2 Q hF hB hg => ?_) k
  intro H locs cells slots ls cst ⟨α, clv, ws, hα, hP, hD, hS, hw, hls, hlr, hsr, e1, e2⟩
  obtain ⟨_, rfl, hs1_⟩ := hsr.l
  exact lv_l2i hF.x hF.b hd rfl (hg _ _ _ _ _ _ ⟨α, clv, ws, hα, hP, hD, hS, hw, hls, hlr, hs1_.pi, e1, e2⟩)
theorem ee_i2b {x : Int32} (hd : decode (pm_cc μ) pc = .ok (.i2b, 1)) (k : EE Γ μ (pc + 1) lv (.int (p_i2b x) :: st) w x0) : EE Γ μ pc lv (.int x :: st) w x0 := by
  refine ee_of (fun p e s m args below meth c R α0 b1 b2 Q hF hB hg => ?_) k
  intro H locs cells slots ls cst ⟨α, clv, ws, hα, hP, hD, hS, hw, hls, hlr, hsr, e1, e2⟩
  obtain ⟨_, rfl, hs1_⟩ := hsr.i
  exact lv_i2b hF.x hF.b hd rfl (hg _ _ _ _ _ _ ⟨α, clv, ws, hα, hP, hD, hS, hw, hls, hlr, hs1_.pi, e1, e2⟩)
theorem ee_iushr {x y : Int32} (hd : decode (pm_cc μ) pc = .ok (.iushr, 1)) (k : EE Γ μ (pc + 1) lv (.int (p_ushr x y) :: st) w x0) : EE Γ μ pc lv (.int y :: .int x :: st) w x0 := by
  refine ee_of (fun p e s m args below meth c R α0 b1 b2 Q hF hB hg => ?_) k
  intro H locs cells slots ls cst ⟨α, clv, ws, hα, hP, hD, hS, hw, hls, hlr, hsr, e1, e2⟩
  obtain ⟨_, rfl, hs1_⟩ := hsr.i
  obtain ⟨_, rfl, hs2_⟩ := hs1_.i
  exact lv_iushr hF.x hF.b hd rfl (hg _ _ _ _ _ _ ⟨α, clv, ws, hα, hP, hD, hS, hw, hls, hlr, hs2_.pi, e1, e2⟩)
theorem ee_ishl {x y : Int32} (hd : decode (pm_cc μ) pc = .ok (.ishl, 1)) (k : EE Γ μ (pc + 1) lv (.int (p_ishl x y) :: st) w x0) : EE Γ μ pc lv (.int y :: .int x :: st) w x0 := by
  refine ee_of (fun p e s m args below meth c R α0 b1 b2 Q hF hB hg => ?_) k
  intro H locs cells slots ls cst ⟨α, clv, ws, hα, hP, hD, hS, hw, hls, hlr, hsr, e1, e2⟩
  obtain ⟨_, rfl, hs1_⟩ := hsr.i
  obtain ⟨_, rfl, hs2_⟩ := hs1_.i
  exact lv_ishl hF.x hF.b hd (hg _ _ _ _ _ _ ⟨α, clv, ws, hα, hP, hD, hS, hw, hls, hlr, hs2_.pi, e1, e2⟩)
theorem ee_ishr {x y : Int32} (hd : decode (pm_cc μ) pc = .ok (.ishr, 1)) (k : EE Γ μ (pc + 1) lv (.int (p_ishr x y) :: st) w x0) : EE Γ μ pc lv (.int y :: .int x :: st) w x0 := by
  refine ee_of (fun p e s m args below meth c R α0 b1 b2 Q hF hB hg => ?_) k
  intro H locs cells slots ls cst ⟨α, clv, ws, hα, hP, hD, hS, hw, hls, hlr, hsr, e1, e2⟩
  obtain ⟨_, rfl, hs1_⟩ := hsr.i
  obtain ⟨_, rfl, hs2_⟩ := hs1_.i
  exact lv_ishr hF.x hF.b hd (hg _ _ _ _ _ _ ⟨α, clv, ws, hα, hP, hD, hS, hw, hls, hlr, hs2_.pi, e1, e2⟩)
theorem ee_lshl {x : Int64} {y : Int32} (hd : decode (pm_cc μ) pc = .ok (.lshl, 1)) (k : EE Γ μ (pc + 1) lv (.long (p_lshl x y) :: st) w x0) : EE Γ μ pc lv (.int y :: .long x :: st) w x0 := by
  refine ee_of (fun p e s m args below meth c R α0 b1 b2 Q hF hB hg => ?_) k
  intro H locs cells slots ls cst ⟨α, clv, ws, hα, hP, hD, hS, hw, hls, hlr, hsr, e1, e2⟩
  obtain ⟨_, rfl, hs1_⟩ := hsr.i
  obtain ⟨_, rfl, hs2_⟩ := hs1_.l
  exact lv_lshl hF.x hF.b hd rfl (hg _ _ _ _ _ _ ⟨α, clv, ws, hα, hP, hD, hS, hw, hls, hlr, hs2_.pl, e1, e2⟩)
theorem ee_ineg {x : Int32} (hd : decode (pm_cc μ) pc = .ok (.ineg, 1)) (k : EE Γ μ (pc + 1) lv (.int (-x) :: st) w x0) : EE Γ μ pc lv (.int x :: st) w x0 := by
  refine ee_of (fun p e s m args below meth c R α0 b1 b2 Q hF hB hg => ?_) k
  intro H locs cells slots ls cst ⟨α, clv, ws, hα, hP, hD, hS, hw, hls, hlr, hsr, e1, e2⟩
  obtain ⟨_, rfl, hs1_⟩ := hsr.i
  exact lv_ineg hF.x hF.b hd (hg _ _ _ _ _ _ ⟨α, clv, ws, hα, hP, hD, hS, hw, hls, hlr, hs1_.pi, e1, e2⟩)
theorem ee_dup {v : Value} (hd : decode (pm_cc μ) pc = .ok (.dup, 1)) (hv : v.category = 1) (k : EE Γ μ (pc + 1) lv (v :: v :: st) w x0) : EE Γ μ pc lv (v :: st) w x0 := by
  refine ee_of (fun p e s m args below meth c R α0 b1 b2 Q hF hB hg => ?_) k
  intro H locs cells slots ls cst ⟨α, clv, ws, hα, hP, hD, hS, hw, hls, hlr, hsr, e1, e2⟩
  obtain ⟨c0, _, rfl, hc0, hs1_⟩ := hsr.c
  exact lv_dup hF.x hF.b hd (hc0.cat.trans hv) (hg _ _ _ _ _ _ ⟨α, clv, ws, hα, hP, hD, hS, hw, hls, hlr, ((hs1_.pc hc0).pc hc0), e1, e2⟩)
theorem ee_pop {v : Value} (hd : decode (pm_cc μ) pc = .ok (.pop, 1)) (hv : v.category = 1) (k : EE Γ μ (pc + 1) lv st w x0) : EE Γ μ pc lv (v :: st) w x0 := by
  refine ee_of (fun p e s m args below meth c R α0 b1 b2 Q hF hB hg => ?_) k
  intro H locs cells slots ls cst ⟨α, clv, ws, hα, hP, hD, hS, hw, hls, hlr, hsr, e1, e2⟩
  obtain ⟨c0, _, rfl, hc0, hs1_⟩ := hsr.c
  exact lv_pop hF.x hF.b hd (hc0.cat.trans hv) (hg _ _ _ _ _ _ ⟨α, clv, ws, hα, hP, hD, hS, hw, hls, hlr, hs1_, e1, e2⟩)
theorem ee_dup2 {v u : Value} (hd : decode (pm_cc μ) pc = .ok (.dup2, 1)) (hv : v.category = 1) (hu : u.category = 1) (k : EE Γ μ (pc + 1) lv (v :: u :: v :: u :: st) w x0) : EE Γ μ pc lv (v :: u :: st) w x0 := by
  refine ee_of (fun p e s m args below meth c R α0 b1 b2 Q hF hB hg => ?_) k
  intro H locs cells slots ls cst ⟨α, clv, ws, hα, hP, hD, hS, hw, hls, hlr, hsr, e1, e2⟩
  obtain ⟨c0, _, rfl, hc0, hs1_⟩ := hsr.c
  obtain ⟨c1, _, rfl, hc1, hs2_⟩ := hs1_.c
  exact lv_dup2_11 hF.x hF.b hd (hc0.cat.trans hv) (hc1.cat.trans hu) (hg _ _ _ _ _ _ ⟨α, clv, ws, hα, hP, hD, hS, hw, hls, hlr, ((((hs2_.pc hc1).pc hc0).pc hc1).pc hc0), e1, e2⟩)
theorem ee_dup_x1 {v u : Value} (hd : decode (pm_cc μ) pc = .ok (.dup_x1, 1)) (hv : v.category = 1) (hu : u.category = 1) (k : EE Γ μ (pc + 1) lv (v :: u :: v :: st) w x0) : EE Γ μ pc lv (v :: u :: st) w x0 := by
  refine ee_of (fun p e s m args below meth c R α0 b1 b2 Q hF hB hg => ?_) k
  intro H locs cells slots ls cst ⟨α, clv, ws, hα, hP, hD, hS, hw, hls, hlr, hsr, e1, e2⟩
  obtain ⟨c0, _, rfl, hc0, hs1_⟩ := hsr.c
  obtain ⟨c1, _, rfl, hc1, hs2_⟩ := hs1_.c
  exact lv_dup_x1 hF.x hF.b hd (hc0.cat.trans hv) (hc1.cat.trans hu) (hg _ _ _ _ _ _ ⟨α, clv, ws, hα, hP, hD, hS, hw, hls, hlr, (((hs2_.pc hc0).pc hc1).pc hc0), e1, e2⟩)
theorem ee_goto {off : Int} {tgt : Nat} (hd : decode (pm_cc μ) pc = .ok (.goto off, 3)) (ht : (pc : Int) + off = (tgt : Int)) (k : EE Γ μ tgt lv st w x0) : EE Γ μ pc lv st w x0 := by
  refine ee_of (fun p e s m args below meth c R α0 b1 b2 Q hF hB hg => ?_) k
  intro H locs cells slots ls cst ⟨α, clv, ws, hα, hP, hD, hS, hw, hls, hlr, hsr, e1, e2⟩
  exact lv_goto hF.x hF.b hd ht (hg _ _ _ _ _ _ ⟨α, clv, ws, hα, hP, hD, hS, hw, hls, hlr, hsr, e1, e2⟩)
theorem ee_icmp_eq {x y : Int32} {off : Int} {tgt : Nat} {x1 x2 : PX} (hd : decode (pm_cc μ) pc = .ok (.if_icmp .eq off, 3)) (ht : (pc : Int) + off = (tgt : Int)) (kt : x = y → EE Γ μ tgt lv st w x1) (kf : ¬ (x = y) → EE Γ μ (pc + 3) lv st w x2) : EE Γ μ pc lv (.int y :: .int x :: st) w (if x = y then x1 else x2) := by
  by_cases hcd : x = y
  · rw [if_pos hcd]
    refine ee_of (fun p e s m args below meth c R α0 b1 b2 Q hF hB hg => ?_) (kt hcd)
    intro H locs cells slots ls cst ⟨α, clv, ws, hα, hP, hD, hS, hw, hls, hlr, hsr, e1, e2⟩
    obtain ⟨_, rfl, hs1_⟩ := hsr.i
    obtain ⟨_, rfl, hs2_⟩ := hs1_.i
    exact lv_icmp_eq hF.x hF.b hd ht (fun _ => (hg _ _ _ _ _ _ ⟨α, clv, ws, hα, hP, hD, hS, hw, hls, hlr, hs2_, e1, e2⟩)) (fun hn9 => absurd hcd hn9)
  · rw [if_neg hcd]
    refine ee_of (fun p e s m args below meth c R α0 b1 b2 Q hF hB hg => ?_) (kf hcd)
    intro H locs cells slots ls cst ⟨α, clv, ws, hα, hP, hD, hS, hw, hls, hlr, hsr, e1, e2⟩
    obtain ⟨_, rfl, hs3_⟩ := hsr.i
    obtain ⟨_, rfl, hs4_⟩ := hs3_.i
    exact lv_icmp_eq hF.x hF.b hd ht (fun hn9 => absurd hn9 hcd) (fun _ => (hg _ _ _ _ _ _ ⟨α, clv, ws, hα, hP, hD, hS, hw, hls, hlr, hs4_, e1, e2⟩))
theorem ee_icmp_ne {x y : Int32} {off : Int} {tgt : Nat} {x1 x2 : PX} (hd : decode (pm_cc μ) pc = .ok (.if_icmp .ne off, 3)) (ht : (pc : Int) + off = (tgt : Int)) (kt : ¬ x = y → EE Γ μ tgt lv st w x1) (kf : ¬ (¬ x = y) → EE Γ μ (pc + 3) lv st w x2) : EE Γ μ pc lv (.int y :: .int x :: st) w (if ¬ x = y then x1 else x2) := by
  by_cases hcd : ¬ x = y
  · rw [if_pos hcd]
    refine ee_of (fun p e s m args below meth c R α0 b1 b2 Q hF hB hg => ?_) (kt hcd)
    intro H locs cells slots ls cst ⟨α, clv, ws, hα, hP, hD, hS, hw, hls, hlr, hsr, e1, e2⟩
    obtain ⟨_, rfl, hs1_⟩ := hsr.i
    obtain ⟨_, rfl, hs2_⟩ := hs1_.i
    exact lv_icmp_ne hF.x hF.b hd ht (fun _ => (hg _ _ _ _ _ _ ⟨α, clv, ws, hα, hP, hD, hS, hw, hls, hlr, hs2_, e1, e2⟩)) (fun hn9 => absurd hn9 hcd)
  · rw [if_neg hcd]
    refine ee_of (fun p e s m args below meth c R α0 b1 b2 Q hF hB hg => ?_) (kf hcd)
    intro H locs cells slots ls cst ⟨α, clv, ws, hα, hP, hD, hS, hw, hls, hlr, hsr, e1, e2⟩
    obtain ⟨_, rfl, hs3_⟩ := hsr.i
    obtain ⟨_, rfl, hs4_⟩ := hs3_.i
    exact lv_icmp_ne hF.x hF.b hd ht (fun hn9 => absurd hn9 hcd) (fun _ => (hg _ _ _ _ _ _ ⟨α, clv, ws, hα, hP, hD, hS, hw, hls, hlr, hs4_, e1, e2⟩))
theorem ee_icmp_lt {x y : Int32} {off : Int} {tgt : Nat} {x1 x2 : PX} (hd : decode (pm_cc μ) pc = .ok (.if_icmp .lt off, 3)) (ht : (pc : Int) + off = (tgt : Int)) (kt : x < y → EE Γ μ tgt lv st w x1) (kf : ¬ (x < y) → EE Γ μ (pc + 3) lv st w x2) : EE Γ μ pc lv (.int y :: .int x :: st) w (if x < y then x1 else x2) := by
  by_cases hcd : x < y
  · rw [if_pos hcd]
    refine ee_of (fun p e s m args below meth c R α0 b1 b2 Q hF hB hg => ?_) (kt hcd)
    intro H locs cells slots ls cst ⟨α, clv, ws, hα, hP, hD, hS, hw, hls, hlr, hsr, e1, e2⟩
    obtain ⟨_, rfl, hs1_⟩ := hsr.i
    obtain ⟨_, rfl, hs2_⟩ := hs1_.i
    exact lv_icmp_lt hF.x hF.b hd ht (fun _ => (hg _ _ _ _ _ _ ⟨α, clv, ws, hα, hP, hD, hS, hw, hls, hlr, hs2_, e1, e2⟩)) (fun hn9 => absurd hcd hn9)
  · rw [if_neg hcd]
    refine ee_of (fun p e s m args below meth c R α0 b1 b2 Q hF hB hg => ?_) (kf hcd)
    intro H locs cells slots ls cst ⟨α, clv, ws, hα, hP, hD, hS, hw, hls, hlr, hsr, e1, e2⟩
    obtain ⟨_, rfl, hs3_⟩ := hsr.i
    obtain ⟨_, rfl, hs4_⟩ := hs3_.i
    exact lv_icmp_lt hF.x hF.b hd ht (fun hn9 => absurd hn9 hcd) (fun _ => (hg _ _ _ _ _ _ ⟨α, clv, ws, hα, hP, hD, hS, hw, hls, hlr, hs4_, e1, e2⟩))
theorem ee_icmp_ge {x y : Int32} {off : Int} {tgt : Nat} {x1 x2 : PX} (hd : decode (pm_cc μ) pc = .ok (.if_icmp .ge off, 3)) (ht : (pc : Int) + off = (tgt : Int)) (kt : y ≤ x → EE Γ μ tgt lv st w x1) (kf : ¬ (y ≤ x) → EE Γ μ (pc + 3) lv st w x2) : EE Γ μ pc lv (.int y :: .int x :: st) w (if y ≤ x then x1 else x2) := by
  by_cases hcd : y ≤ x
  · rw [if_pos hcd]
    refine ee_of (fun p e s m args below meth c R α0 b1 b2 Q hF hB hg => ?_) (kt hcd)
    intro H locs cells slots ls cst ⟨α, clv, ws, hα, hP, hD, hS, hw, hls, hlr, hsr, e1, e2⟩
    obtain ⟨_, rfl, hs1_⟩ := hsr.i
    obtain ⟨_, rfl, hs2_⟩ := hs1_.i
    exact lv_icmp_ge hF.x hF.b hd ht (fun _ => (hg _ _ _ _ _ _ ⟨α, clv, ws, hα, hP, hD, hS, hw, hls, hlr, hs2_, e1, e2⟩)) (fun hn9 => absurd hcd hn9)
  · rw [if_neg hcd]
    refine ee_of (fun p e s m args below meth c R α0 b1 b2 Q hF hB hg => ?_) (kf hcd)
    intro H locs cells slots ls cst ⟨α, clv, ws, hα, hP, hD, hS, hw, hls, hlr, hsr, e1, e2⟩
    obtain ⟨_, rfl, hs3_⟩ := hsr.i
    obtain ⟨_, rfl, hs4_⟩ := hs3_.i
    exact lv_icmp_ge hF.x hF.b hd ht (fun hn9 => absurd hn9 hcd) (fun _ => (hg _ _ _ _ _ _ ⟨α, clv, ws, hα, hP, hD, hS, hw, hls, hlr, hs4_, e1, e2⟩))
theorem ee_icmp_gt {x y : Int32} {off : Int} {tgt : Nat} {x1 x2 : PX} (hd : decode (pm_cc μ) pc = .ok (.if_icmp .gt off, 3)) (ht : (pc : Int) + off = (tgt : Int)) (kt : y < x → EE Γ μ tgt lv st w x1) (kf : ¬ (y < x) → EE Γ μ (pc + 3) lv st w x2) : EE Γ μ pc lv (.int y :: .int x :: st) w (if y < x then x1 else x2) := by
  by_cases hcd : y < x
  · rw [if_pos hcd]
    refine ee_of (fun p e s m args below meth c R α0 b1 b2 Q hF hB hg => ?_) (kt hcd)
    intro H locs cells slots ls cst ⟨α, clv, ws, hα, hP, hD, hS, hw, hls, hlr, hsr, e1, e2⟩
    obtain ⟨_, rfl, hs1_⟩ := hsr.i
    obtain ⟨_, rfl, hs2_⟩ := hs1_.i
    exact lv_icmp_gt hF.x hF.b hd ht (fun _ => (hg _ _ _ _ _ _ ⟨α, clv, ws, hα, hP, hD, hS, hw, hls, hlr, hs2_, e1, e2⟩)) (fun hn9 => absurd hcd hn9)
  · rw [if_neg hcd]
    refine ee_of (fun p e s m args below meth c R α0 b1 b2 Q hF hB hg => ?_) (kf hcd)
    intro H locs cells slots ls cst ⟨α, clv, ws, hα, hP, hD, hS, hw, hls, hlr, hsr, e1, e2⟩
    obtain ⟨_, rfl, hs3_⟩ := hsr.i
    obtain ⟨_, rfl, hs4_⟩ := hs3_.i
    exact lv_icmp_gt hF.x hF.b hd ht (fun hn9 => absurd hn9 hcd) (fun _ => (hg _ _ _ _ _ _ ⟨α, clv, ws, hα, hP, hD, hS, hw, hls, hlr, hs4_, e1, e2⟩))
theorem ee_icmp_le {x y : Int32} {off : Int} {tgt : Nat} {x1 x2 : PX} (hd : decode (pm_cc μ) pc = .ok (.if_icmp .le off, 3)) (ht : (pc : Int) + off = (tgt : Int)) (kt : x ≤ y → EE Γ μ tgt lv st w x1) (kf : ¬ (x ≤ y) → EE Γ μ (pc + 3) lv st w x2) : EE Γ μ pc lv (.int y :: .int x :: st) w (if x ≤ y then x1 else x2) := by
  by_cases hcd : x ≤ y
  · rw [if_pos hcd]
    refine ee_of (fun p e s m args below meth c R α0 b1 b2 Q hF hB hg => ?_) (kt hcd)
    intro H locs cells slots ls cst ⟨α, clv, ws, hα, hP, hD, hS, hw, hls, hlr, hsr, e1, e2⟩
    obtain ⟨_, rfl, hs1_⟩ := hsr.i
    obtain ⟨_, rfl, hs2_⟩ := hs1_.i
    exact lv_icmp_le hF.x hF.b hd ht (fun _ => (hg _ _ _ _ _ _ ⟨α, clv, ws, hα, hP, hD, hS, hw, hls, hlr, hs2_, e1, e2⟩)) (fun hn9 => absurd hcd hn9)
  · rw [if_neg hcd]
    refine ee_of (fun p e s m args below meth c R α0 b1 b2 Q hF hB hg => ?_) (kf hcd)
    intro H locs cells slots ls cst ⟨α, clv, ws, hα, hP, hD, hS, hw, hls, hlr, hsr, e1, e2⟩
    obtain ⟨_, rfl, hs3_⟩ := hsr.i
    obtain ⟨_, rfl, hs4_⟩ := hs3_.i
    exact lv_icmp_le hF.x hF.b hd ht (fun hn9 => absurd hn9 hcd) (fun _ => (hg _ _ _ _ _ _ ⟨α, clv, ws, hα, hP, hD, hS, hw, hls, hlr, hs4_, e1, e2⟩))
theorem ee_if_eq {x : Int32} {off : Int} {tgt : Nat} {x1 x2 : PX} (hd : decode (pm_cc μ) pc = .ok (.ifCond .eq off, 3)) (ht : (pc : Int) + off = (tgt : Int)) (kt : x = 0 → EE Γ μ tgt lv st w x1) (kf : ¬ (x = 0) → EE Γ μ (pc + 3) lv st w x2) : EE Γ μ pc lv (.int x :: st) w (if x = 0 then x1 else x2) := by
  by_cases hcd : x = 0
  · rw [if_pos hcd]
    refine ee_of (fun p e s m args below meth c R α0 b1 b2 Q hF hB hg => ?_) (kt hcd)
    intro H locs cells slots ls cst ⟨α, clv, ws, hα, hP, hD, hS, hw, hls, hlr, hsr, e1, e2⟩
    obtain ⟨_, rfl, hs1_⟩ := hsr.i
    exact lv_if_eq hF.x hF.b hd ht (fun _ => (hg _ _ _ _ _ _ ⟨α, clv, ws, hα, hP, hD, hS, hw, hls, hlr, hs1_, e1, e2⟩)) (fun hn9 => absurd hcd hn9)
  · rw [if_neg hcd]
    refine ee_of (fun p e s m args below meth c R α0 b1 b2 Q hF hB hg => ?_) (kf hcd)
    intro H locs cells slots ls cst ⟨α, clv, ws, hα, hP, hD, hS, hw, hls, hlr, hsr, e1, e2⟩
    obtain ⟨_, rfl, hs2_⟩ := hsr.i
    exact lv_if_eq hF.x hF.b hd ht (fun hn9 => absurd hn9 hcd) (fun _ => (hg _ _ _ _ _ _ ⟨α, clv, ws, hα, hP, hD, hS, hw, hls, hlr, hs2_, e1, e2⟩))
theorem ee_if_ne {x : Int32} {off : Int} {tgt : Nat} {x1 x2 : PX} (hd : decode (pm_cc μ) pc = .ok (.ifCond .ne off, 3)) (ht : (pc : Int) + off = (tgt : Int)) (kt : ¬ x = 0 → EE Γ μ tgt lv st w x1) (kf : ¬ (¬ x = 0) → EE Γ μ (pc + 3) lv st w x2) : EE Γ μ pc lv (.int x :: st) w (if ¬ x = 0 then x1 else x2) := by
  by_cases hcd : ¬ x = 0
  · rw [if_pos hcd]
    refine ee_of (fun p e s m args below meth c R α0 b1 b2 Q hF hB hg => ?_) (kt hcd)
    intro H locs cells slots ls cst ⟨α, clv, ws, hα, hP, hD, hS, hw, hls, hlr, hsr, e1, e2⟩
    obtain ⟨_, rfl, hs1_⟩ := hsr.i
    exact lv_if_ne hF.x hF.b hd ht (fun _ => (hg _ _ _ _ _ _ ⟨α, clv, ws, hα, hP, hD, hS, hw, hls, hlr, hs1_, e1, e2⟩)) (fun hn9 => absurd hn9 hcd)
  · rw [if_neg hcd]
    refine ee_of (fun p e s m args below meth c R α0 b1 b2 Q hF hB hg => ?_) (kf hcd)
    intro H locs cells slots ls cst ⟨α, clv, ws, hα, hP, hD, hS, hw, hls, hlr, hsr, e1, e2⟩
    obtain ⟨_, rfl, hs2_⟩ := hsr.i
    exact lv_if_ne hF.x hF.b hd ht (fun hn9 => absurd hn9 hcd) (fun _ => (hg _ _ _ _ _ _ ⟨α, clv, ws, hα, hP, hD, hS, hw, hls, hlr, hs2_, e1, e2⟩))
theorem ee_if_lt {x : Int32} {off : Int} {tgt : Nat} {x1 x2 : PX} (hd : decode (pm_cc μ) pc = .ok (.ifCond .lt off, 3)) (ht : (pc : Int) + off = (tgt : Int)) (kt : x < 0 → EE Γ μ tgt lv st w x1) (kf : ¬ (x < 0) → EE Γ μ (pc + 3) lv st w x2) : EE Γ μ pc lv (.int x :: st) w (if x < 0 then x1 else x2) := by
  by_cases hcd : x < 0
  · rw [if_pos hcd]
    refine ee_of (fun p e s m args below meth c R α0 b1 b2 Q hF hB hg => ?_) (kt hcd)
    intro H locs cells slots ls cst ⟨α, clv, ws, hα, hP, hD, hS, hw, hls, hlr, hsr, e1, e2⟩
    obtain ⟨_, rfl, hs1_⟩ := hsr.i
    exact lv_if_lt hF.x hF.b hd ht (fun _ => (hg _ _ _ _ _ _ ⟨α, clv, ws, hα, hP, hD, hS, hw, hls, hlr, hs1_, e1, e2⟩)) (fun hn9 => absurd hcd hn9)
  · rw [if_neg hcd]
    refine ee_of (fun p e s m args below meth c R α0 b1 b2 Q hF hB hg => ?_) (kf hcd)
    intro H locs cells slots ls cst ⟨α, clv, ws, hα, hP, hD, hS, hw, hls, hlr, hsr, e1, e2⟩
    obtain ⟨_, rfl, hs2_⟩ := hsr.i
    exact lv_if_lt hF.x hF.b hd ht (fun hn9 => absurd hn9 hcd) (fun _ => (hg _ _ _ _ _ _ ⟨α, clv, ws, hα, hP, hD, hS, hw, hls, hlr, hs2_, e1, e2⟩))
theorem ee_if_ge {x : Int32} {off : Int} {tgt : Nat} {x1 x2 : PX} (hd : decode (pm_cc μ) pc = .ok (.ifCond .ge off, 3)) (ht : (pc : Int) + off = (tgt : Int)) (kt : 0 ≤ x → EE Γ μ tgt lv st w x1) (kf : ¬ (0 ≤ x) → EE Γ μ (pc + 3) lv st w x2) : EE Γ μ pc lv (.int x :: st) w (if 0 ≤ x then x1 else x2) := by
  by_cases hcd : 0 ≤ x
  · rw [if_pos hcd]
    refine ee_of (fun p e s m args below meth c R α0 b1 b2 Q hF hB hg => ?_) (kt hcd)
    intro H locs cells slots ls cst ⟨α, clv, ws, hα, hP, hD, hS, hw, hls, hlr, hsr, e1, e2⟩
    obtain ⟨_, rfl, hs1_⟩ := hsr.i
    exact lv_if_ge hF.x hF.b hd ht (fun _ => (hg _ _ _ _ _ _ ⟨α, clv, ws, hα, hP, hD, hS, hw, hls, hlr, hs1_, e1, e2⟩)) (fun hn9 => absurd hcd hn9)
  · rw [if_neg hcd]
    refine ee_of (fun p e s m args below meth c R α0 b1 b2 Q hF hB hg => ?_) (kf hcd)
    intro H locs cells slots ls cst ⟨α, clv, ws, hα, hP, hD, hS, hw, hls, hlr, hsr, e1, e2⟩
    obtain ⟨_, rfl, hs2_⟩ := hsr.i
    exact lv_if_ge hF.x hF.b hd ht (fun hn9 => absurd hn9 hcd) (fun _ => (hg _ _ _ _ _ _ ⟨α, clv, ws, hα, hP, hD, hS, hw, hls, hlr, hs2_, e1, e2⟩))
theorem ee_if_gt {x : Int32} {off : Int} {tgt : Nat} {x1 x2 : PX} (hd : decode (pm_cc μ) pc = .ok (.ifCond .gt off, 3)) (ht : (pc : Int) + off = (tgt : Int)) (kt : 0 < x → EE Γ μ tgt lv st w x1) (kf : ¬ (0 < x) → EE Γ μ (pc + 3) lv st w x2) : EE Γ μ pc lv (.int x :: st) w (if 0 < x then x1 else x2) := by
  by_cases hcd : 0 < x
  · rw [if_pos hcd]
    refine ee_of (fun p e s m args below meth c R α0 b1 b2 Q hF hB hg => ?_) (kt hcd)
    intro H locs cells slots ls cst ⟨α, clv, ws, hα, hP, hD, hS, hw, hls, hlr, hsr, e1, e2⟩
    obtain ⟨_, rfl, hs1_⟩ := hsr.i
    exact lv_if_gt hF.x hF.b hd ht (fun _ => (hg _ _ _ _ _ _ ⟨α, clv, ws, hα, hP, hD, hS, hw, hls, hlr, hs1_, e1, e2⟩)) (fun hn9 => absurd hcd hn9)
  · rw [if_neg hcd]
    refine ee_of (fun p e s m args below meth c R α0 b1 b2 Q hF hB hg => ?_) (kf hcd)
    intro H locs cells slots ls cst ⟨α, clv, ws, hα, hP, hD, hS, hw, hls, hlr, hsr, e1, e2⟩
    obtain ⟨_, rfl, hs2_⟩ := hsr.i
    exact lv_if_gt hF.x hF.b hd ht (fun hn9 => absurd hn9 hcd) (fun _ => (hg _ _ _ _ _ _ ⟨α, clv, ws, hα, hP, hD, hS, hw, hls, hlr, hs2_, e1, e2⟩))
theorem ee_if_le {x : Int32} {off : Int} {tgt : Nat} {x1 x2 : PX} (hd : decode (pm_cc μ) pc = .ok (.ifCond .le off, 3)) (ht : (pc : Int) + off = (tgt : Int)) (kt : x ≤ 0 → EE Γ μ tgt lv st w x1) (kf : ¬ (x ≤ 0) → EE Γ μ (pc + 3) lv st w x2) : EE Γ μ pc lv (.int x :: st) w (if x ≤ 0 then x1 else x2) := by
  by_cases hcd : x ≤ 0
  · rw [if_pos hcd]
    refine ee_of (fun p e s m args below meth c R α0 b1 b2 Q hF hB hg => ?_) (kt hcd)
    intro H locs cells slots ls cst ⟨α, clv, ws, hα, hP, hD, hS, hw, hls, hlr, hsr, e1, e2⟩
    obtain ⟨_, rfl, hs1_⟩ := hsr.i
    exact lv_if_le hF.x hF.b hd ht (fun _ => (hg _ _ _ _ _ _ ⟨α, clv, ws, hα, hP, hD, hS, hw, hls, hlr, hs1_, e1, e2⟩)) (fun hn9 => absurd hcd hn9)
  · rw [if_neg hcd]
    refine ee_of (fun p e s m args below meth c R α0 b1 b2 Q hF hB hg => ?_) (kf hcd)
    intro H locs cells slots ls cst ⟨α, clv, ws, hα, hP, hD, hS, hw, hls, hlr, hsr, e1, e2⟩
    obtain ⟨_, rfl, hs2_⟩ := hsr.i
    exact lv_if_le hF.x hF.b hd ht (fun hn9 => absurd hn9 hcd) (fun _ => (hg _ _ _ _ _ _ ⟨α, clv, ws, hα, hP, hD, hS, hw, hls, hlr, hs2_, e1, e2⟩))
theorem ee_lcmp {x y : Int64} (hd : decode (pm_cc μ) pc = .ok (.lcmp, 1)) (k : EE Γ μ (pc + 1) lv (.int (lg_cmp x y) :: st) w x0) : EE Γ μ pc lv (.long y :: .long x :: st) w x0 := by
  refine ee_of (fun p e s m args below meth c R α0 b1 b2 Q hF hB hg => ?_) k
  intro H locs cells slots ls cst ⟨α, clv, ws, hα, hP, hD, hS, hw, hls, hlr, hsr, e1, e2⟩
  obtain ⟨_, rfl, hs1_⟩ := hsr.l
  obtain ⟨_, rfl, hs2_⟩ := hs1_.l
  exact W.lcmp hF.x hF.b hd (hg _ _ _ _ _ _ ⟨α, clv, ws, hα, hP, hD, hS, hw, hls, hlr, hs2_.pi, e1, e2⟩)
theorem ee_letI {e : Int32} {K : Int32 → PX} (k : ∀ v, v = e → EE Γ μ pc lv (.int v :: st) w (K v)) : EE Γ μ pc lv (.int e :: st) w (p_let e K) := k e rfl
theorem ee_letJ {e : Int64} {K : Int64 → PX} (k : ∀ v, v = e → EE Γ μ pc lv (.long v :: st) w (K v)) : EE Γ μ pc lv (.long e :: st) w (p_let e K) := k e rfl
theorem ee_ite {c : Prop} [Decidable c] {x1 x2 : PX} (kt : c → EE Γ μ pc lv st w x1) (kf : ¬ c → EE Γ μ pc lv st w x2) : EE Γ μ pc lv st w (if c then x1 else x2) := by
  by_cases h : c
  · rw [if_pos h]; exact kt h
  · rw [if_neg h]; exact kf h
theorem ee_bind {α : Type} {y : Option α} {K : α → PX} (k : ∀ v, y = some v → EE Γ μ pc lv st w (K v)) : EE Γ μ pc lv st w (y.bind K) := by
  cases y with
  | none => exact ee_none
  | some v => exact k v rfl
theorem ee_ldiv {x y : Int64} {K : Int64 → PX} (hd : decode (pm_cc μ) pc = .ok (.ldiv, 1)) (k : ∀ v, p_ldiv x y = some v → EE Γ μ (pc + 1) lv (.long v :: st) w (K v)) : EE Γ μ pc lv (.long y :: .long x :: st) w ((p_ldiv x y).bind K) := by
  refine ee_bind (fun v hv => ?_)
  have h9 := k v hv
  unfold p_ldiv at hv
  by_cases hy : y = 0
  · rw [if_pos hy] at hv; cases hv
  rw [if_neg hy] at hv
  cases hv
  refine ee_of (fun p e s m args below meth c R α0 b1 b2 Q hF hB hg => ?_) h9
  intro H locs cells slots ls cst ⟨α, clv, ws, hα, hP, hD, hS, hw, hls, hlr, hsr, e1, e2⟩
  obtain ⟨_, rfl, hs1_⟩ := hsr.l
  obtain ⟨_, rfl, hs2_⟩ := hs1_.l
  exact lv_ldiv hF.x hF.b hd hy (hg _ _ _ _ _ _ ⟨α, clv, ws, hα, hP, hD, hS, hw, hls, hlr, hs2_.pl, e1, e2⟩)
theorem ee_idiv {x y : Int32} {K : Int32 → PX} (hd : decode (pm_cc μ) pc = .ok (.idiv, 1)) (k : ∀ v, p_idiv x y = some v → EE Γ μ (pc + 1) lv (.int v :: st) w (K v)) : EE Γ μ pc lv (.int y :: .int x :: st) w ((p_idiv x y).bind K) := by
  refine ee_bind (fun v hv => ?_)
  have h9 := k v hv
  unfold p_idiv at hv
  by_cases hy : y = 0
  · rw [if_pos hy] at hv; cases hv
  rw [if_neg hy] at hv
  cases hv
  refine ee_of (fun p e s m args below meth c R α0 b1 b2 Q hF hB hg => ?_) h9
  intro H locs cells slots ls cst ⟨α, clv, ws, hα, hP, hD, hS, hw, hls, hlr, hsr, e1, e2⟩
  obtain ⟨_, rfl, hs1_⟩ := hsr.i
  obtain ⟨_, rfl, hs2_⟩ := hs1_.i
  exact lv_idiv hF.x hF.b hd hy (hg _ _ _ _ _ _ ⟨α, clv, ws, hα, hP, hD, hS, hw, hls, hlr, hs2_.pi, e1, e2⟩)
theorem ee_irem {x y : Int32} {K : Int32 → PX} (hd : decode (pm_cc μ) pc = .ok (.irem, 1)) (k : ∀ v, p_irem x y = some v → EE Γ μ (pc + 1) lv (.int v :: st) w (K v)) : EE Γ μ pc lv (.int y :: .int x :: st) w ((p_irem x y).bind K) := by
  refine ee_bind (fun v hv => ?_)
  have h9 := k v hv
  unfold p_irem at hv
  by_cases hy : y = 0
  · rw [if_pos hy] at hv; cases hv
  rw [if_neg hy] at hv
  cases hv
  refine ee_of (fun p e s m args below meth c R α0 b1 b2 Q hF hB hg => ?_) h9
  intro H locs cells slots ls cst ⟨α, clv, ws, hα, hP, hD, hS, hw, hls, hlr, hsr, e1, e2⟩
  obtain ⟨_, rfl, hs1_⟩ := hsr.i
  obtain ⟨_, rfl, hs2_⟩ := hs1_.i
  exact lv_irem hF.x hF.b hd hy (hg _ _ _ _ _ _ ⟨α, clv, ws, hα, hP, hD, hS, hw, hls, hlr, hs2_.pi, e1, e2⟩)
theorem ee_tabIn {dflt lo hi : Int} {offs : Array Int} {len : Nat} {x : Int32} {off : Int} {tgt : Nat} (hd : decode (pm_cc μ) pc = .ok (.tableswitch dflt lo hi offs, len)) (h1 : ¬ x.toInt < lo) (h2 : ¬ hi < x.toInt) (ho : offs[(x.toInt - lo).toNat]? = some off) (ht : (pc : Int) + off = (tgt : Int)) (k : EE Γ μ tgt lv st w x0) : EE Γ μ pc lv (.int x :: st) w x0 := by
  refine ee_of (fun p e s m args below meth c R α0 b1 b2 Q hF hB hg => ?_) k
  intro H locs cells slots ls cst ⟨α, clv, ws, hα, hP, hD, hS, hw, hls, hlr, hsr, e1, e2⟩
  obtain ⟨_, rfl, hs1_⟩ := hsr.i
  exact lv_tableIn hF.x hF.b hd h1 h2 ho ht (hg _ _ _ _ _ _ ⟨α, clv, ws, hα, hP, hD, hS, hw, hls, hlr, hs1_, e1, e2⟩)
theorem ee_tabOut {dflt lo hi : Int} {offs : Array Int} {len : Nat} {x : Int32} {tgt : Nat} (hd : decode (pm_cc μ) pc = .ok (.tableswitch dflt lo hi offs, len)) (h : x.toInt < lo ∨ hi < x.toInt) (ht : (pc : Int) + dflt = (tgt : Int)) (k : EE Γ μ tgt lv st w x0) : EE Γ μ pc lv (.int x :: st) w x0 := by
  refine ee_of (fun p e s m args below meth c R α0 b1 b2 Q hF hB hg => ?_) k
  intro H locs cells slots ls cst ⟨α, clv, ws, hα, hP, hD, hS, hw, hls, hlr, hsr, e1, e2⟩
  obtain ⟨_, rfl, hs1_⟩ := hsr.i
  exact lv_tableOut hF.x hF.b hd h ht (hg _ _ _ _ _ _ ⟨α, clv, ws, hα, hP, hD, hS, hw, hls, hlr, hs1_, e1, e2⟩)
theorem ee_look {dflt : Int} {ps : Array (Int × Int)} {len : Nat} {x : Int32} {off : Int} {tgt : Nat} (hd : decode (pm_cc μ) pc = .ok (.lookupswitch dflt ps, len)) (hp : (ps.toList.zip (ps.toList.drop 1)).all (fun (a, next) => a.1 < next.1) = true) (ho : Op.lookupswitch.offset ps.toList dflt x.toInt = off) (ht : (pc : Int) + off = (tgt : Int)) (k : EE Γ μ tgt lv st w x0) : EE Γ μ pc lv (.int x :: st) w x0 := by
  refine ee_of (fun p e s m args below meth c R α0 b1 b2 Q hF hB hg => ?_) k
  intro H locs cells slots ls cst ⟨α, clv, ws, hα, hP, hD, hS, hw, hls, hlr, hsr, e1, e2⟩
  obtain ⟨_, rfl, hs1_⟩ := hsr.i
  exact lv_lookup hF.x hF.b hd hp ho ht (hg _ _ _ _ _ _ ⟨α, clv, ws, hα, hP, hD, hS, hw, hls, hlr, hs1_, e1, e2⟩)
/-- Object's constructor -/
theorem ee_objInit {idx a : Nat} (hd : decode (pm_cc μ) pc = .ok (.invokespecial idx, 3)) (h1 : Cond.methodLink (pm_own μ) idx Lib.objectInit ∈ GW) (h2 : Cond.instanceMethod Lib.objectInit ∈ GW) (h3 : Cond.code Lib.objectInit ⟨#[0xb1]⟩ 1 none ∈ GW) (hR : 1 ≤ pm_F μ ∧ (st.map fun v => v.category).sum + 12 ≤ pm_L μ) (k : EE Γ μ (pc + 3) lv st w x0) : EE Γ μ pc lv (.ref a :: st) w x0 := by
  refine ee_of (fun p e s m args below meth c R α0 b1 b2 Q hF hB hg => ?_) k
  intro H locs cells slots ls cst ⟨α, clv, ws, hα, hP, hD, hS, hw, hls, hlr, hsr, e1, e2⟩
  obtain ⟨a0, rest, rfl, ha0, hs1_⟩ := hsr.r
  refine W.objInit hF.x hF.b hF.o (hF.w _ h1) (hF.w _ h2) (hF.w _ h3) rfl (by rw [hF.l]; exact hls.1) rfl hd (by rw [hF.F]; exact hR.1) (by rw [hF.L]; show 0 + (rest.map fun v => v.category).sum + 12 ≤ _; rw [hs1_.cats, Nat.zero_add]; exact hR.2) ?_
  exact hg _ _ _ _ _ _ ⟨α, clv, ws, hα, hP, hD, hS, hw, hls, hlr, hs1_, e1, e2⟩
theorem ee_mmax {idx : Nat} {x y : Int32} (hd : decode (pm_cc μ) pc = .ok (.invokestatic idx, 3)) (h1 : Cond.methodLink (pm_own μ) idx Lib.Math.max.name ∈ GW) (h2 : Cond.static Lib.Math.max.name ∈ GW) (h3 : Cond.initialized "java/lang/Math" ∈ GW) (h4 : Cond.code Lib.Math.max.name Lib.Math.max.code 2 (some .int) ∈ GW) (hR : 1 ≤ pm_F μ ∧ (st.map fun v => v.category).sum + 13 ≤ pm_L μ) (k : EE Γ μ (pc + 3) lv (.int (p_max x y) :: st) w x0) : EE Γ μ pc lv (.int y :: .int x :: st) w x0 := by
  refine ee_of (fun p e s m args below meth c R α0 b1 b2 Q hF hB hg => ?_) k
  intro H locs cells slots ls cst ⟨α, clv, ws, hα, hP, hD, hS, hw, hls, hlr, hsr, e1, e2⟩
  obtain ⟨_, rfl, hs1_⟩ := hsr.i
  obtain ⟨rest, rfl, hs2_⟩ := hs1_.i
  exact va_mmax hF.x hF.b (by rw [hF.l]; exact hls.1.symm) hF.o (hF.w _ h1) (hF.w _ h2) (hF.w _ h3) (hF.w _ h4) (by rw [hF.F]; exact hR.1) (by rw [hs2_.cats, hF.L]; exact hR.2) (by omega) (by omega) hd (hg _ _ _ _ _ _ ⟨α, clv, ws, hα, hP, hD, hS, hw, hls, hlr, hs2_.pi, e1, e2⟩)
theorem ee_mmin {idx : Nat} {x y : Int32} (hd : decode (pm_cc μ) pc = .ok (.invokestatic idx, 3)) (h1 : Cond.methodLink (pm_own μ) idx Lib.Math.min.name ∈ GW) (h2 : Cond.static Lib.Math.min.name ∈ GW) (h3 : Cond.initialized "java/lang/Math" ∈ GW) (h4 : Cond.code Lib.Math.min.name Lib.Math.min.code 2 (some .int) ∈ GW) (hR : 1 ≤ pm_F μ ∧ (st.map fun v => v.category).sum + 13 ≤ pm_L μ) (k : EE Γ μ (pc + 3) lv (.int (p_min x y) :: st) w x0) : EE Γ μ pc lv (.int y :: .int x :: st) w x0 := by
  refine ee_of (fun p e s m args below meth c R α0 b1 b2 Q hF hB hg => ?_) k
  intro H locs cells slots ls cst ⟨α, clv, ws, hα, hP, hD, hS, hw, hls, hlr, hsr, e1, e2⟩
  obtain ⟨_, rfl, hs1_⟩ := hsr.i
  obtain ⟨rest, rfl, hs2_⟩ := hs1_.i
  exact va_mmin hF.x hF.b (by rw [hF.l]; exact hls.1.symm) hF.o (hF.w _ h1) (hF.w _ h2) (hF.w _ h3) (hF.w _ h4) (by rw [hF.F]; exact hR.1) (by rw [hs2_.cats, hF.L]; exact hR.2) (by omega) (by omega) hd (hg _ _ _ _ _ _ ⟨α, clv, ws, hα, hP, hD, hS, hw, hls, hlr, hs2_.pi, e1, e2⟩)
end RULES
