/-! Rules for what touches the world. -/
def p_obj (w : PW) (a ci : Nat) : Option (List Value) := match w.1[a]? with
  | some (.inr (c, fs)) => if c = ci then some fs else none
  | _ => none
theorem p_obj_eq {w : PW} {a ci : Nat} {fs : List Value} : p_obj w a ci = some fs ↔ w.1[a]? = some (.inr (ci, fs)) := by
  unfold p_obj
  constructor
  · intro h
    split at h
    · rename_i c fs' he
      by_cases hc : c = ci
      · rw [if_pos hc] at h
        cases h
        rw [he, hc]
      · rw [if_neg hc] at h
        cases h
    · cases h
  · intro h
    rw [h]
    simp
def p_vI (v : Option Value) : Option Int32 := match v with
  | some (.int x) => some x
  | _ => none
def p_vJ (v : Option Value) : Option Int64 := match v with
  | some (.long x) => some x
  | _ => none
def p_vR (v : Option Value) : Option Nat := match v with
  | some (.ref x) => some x
  | _ => none
theorem p_vI_eq {v : Option Value} {x : Int32} (h : p_vI v = some x) : v = some (.int x) := by
  unfold p_vI at h
  split at h
  · cases h; rfl
  · cases h
theorem p_vJ_eq {v : Option Value} {x : Int64} (h : p_vJ v = some x) : v = some (.long x) := by
  unfold p_vJ at h
  split at h
  · cases h; rfl
  · cases h
theorem p_vR_eq {v : Option Value} {x : Nat} (h : p_vR v = some x) : v = some (.ref x) := by
  unfold p_vR at h
  split at h
  · cases h; rfl
  · cases h
def p_getI (w : PW) (a ci k : Nat) : Option Int32 := (p_obj w a ci).bind fun fs => p_vI fs[k]?
def p_getJ (w : PW) (a ci k : Nat) : Option Int64 := (p_obj w a ci).bind fun fs => p_vJ fs[k]?
def p_getR (w : PW) (a ci k : Nat) : Option Nat := (p_obj w a ci).bind fun fs => p_vR fs[k]?
def p_put (w : PW) (a ci k : Nat) (v : Value) : Option PW := (p_obj w a ci).bind fun fs => if k < fs.length then some (w.1.set a (.inr (ci, fs.set k v)), w.2) else none
def p_arr (w : PW) (a t : Nat) : Option (Nat × (Nat → Int32)) := match w.1[a]? with
  | some (.inl (t', n, .inl f)) => if t' = t then some (n, f) else none
  | _ => none
theorem p_arr_eq {w : PW} {a t : Nat} {q : Nat × (Nat → Int32)} : p_arr w a t = some q ↔ w.1[a]? = some (.inl (t, q.1, .inl q.2)) := by
  unfold p_arr
  constructor
  · intro h
    split at h
    · rename_i t' n f he
      by_cases hc : t' = t
      · rw [if_pos hc] at h
        cases h
        rw [he, hc]
      · rw [if_neg hc] at h
        cases h
    · cases h
  · intro h
    rw [h]
    simp
def p_ald (w : PW) (a t : Nat) (i : Int32) : Option Int32 := (p_arr w a t).bind fun q => if i < 0 ∨ q.1 ≤ i.toNatClampNeg then none else some (q.2 i.toNatClampNeg)
def p_ast (w : PW) (a t : Nat) (i x : Int32) : Option PW := (p_arr w a t).bind fun q => if i < 0 ∨ q.1 ≤ i.toNatClampNeg then none else some (w.1.set a (.inl (t, q.1, .inl (upd q.2 i.toNatClampNeg x))), w.2)
def p_len (w : PW) (a : Nat) : Option Int32 := match w.1[a]? with
  | some (.inl (_, n, _)) => some (Int32.ofNat n)
  | _ => none
theorem p_len_eq {w : PW} {a : Nat} {v : Int32} (h : p_len w a = some v) : ∃ t n f, w.1[a]? = some (.inl (t, n, f)) ∧ Int32.ofNat n = v := by
  unfold p_len at h
  split at h
  · rename_i t n f he
    cases h
    exact ⟨t, n, f, he, rfl⟩
  · cases h
def p_newO (w : PW) (ci N : Nat) (fs : List Value) (K : Nat → PW → PX) : PX := K w.1.length (w.1 ++ [.inr (ci, fs)], w.2.1 + 1, w.2.2 + N)
def p_newA (w : PW) (t B : Nat) (i : Int32) (K : Nat → PW → PX) : PX := if i < 0 ∨ 536870912 < i.toNatClampNeg * B then none else K w.1.length (w.1 ++ [.inl (t, i.toNatClampNeg, .inl fun _ => 0)], w.2.1 + 1, w.2.2 + i.toNatClampNeg)
/-- a class of the worlds -/
def pz_cf (ci : Nat) (C : String) (T : u_T) (N : Nat) (ty : Nat → FieldType) : Prop := vwCl[ci]? = some (C, T, N) ∧ (∀ w ∈ u_ws C T N, w ∈ GW) ∧ (∀ k, k < N → parseFieldDescriptor (T k).2.2.1 = some (ty k)) ∧ (∀ a, a < N → ∀ b, b < N → a ≠ b → (T a).2.1 ≠ (T b).2.1)
def pz_lk (own : String) (idx : Nat) (O n d : String) : Prop := Cond.fieldLink own idx O n d ∈ GW ∨ (∃ host, Cond.fieldLinkNest own idx O n d host ∈ NW) ∨ ∃ ref, Cond.fieldLink own idx ref n d ∈ GW ∧ Cond.sameField ref O n d ∈ GW
/-- a field that an instruction names -/
def pz_fl (own : String) (idx ci k : Nat) : Prop := ∃ (C : String) (T : u_T) (N : Nat) (ty : Nat → FieldType), pz_cf ci C T N ty ∧ k < N ∧ pz_lk own idx (T k).1 (T k).2.1 (T k).2.2.1
def pz_pl (own name : String) (idx ci k : Nat) (t : FieldType) : Prop := ∃ (C : String) (T : u_T) (N : Nat) (ty : Nat → FieldType), pz_cf ci C T N ty ∧ k < N ∧ parseFieldDescriptor (T k).2.2.1 = some t ∧ ((pz_lk own idx (T k).1 (T k).2.1 (T k).2.2.1 ∧ (T k).2.2.2 = false) ∨ (Cond.fieldLink own idx (T k).1 (T k).2.1 (T k).2.2.1 ∈ GW ∧ (T k).2.2.2 = true ∧ name = "<init>" ∧ (T k).1 = own))
def pz_nl (own : String) (idx ci N : Nat) (fs : List Value) : Prop := ∃ (C : String) (T : u_T) (ty : Nat → FieldType), pz_cf ci C T N ty ∧ Cond.classLink own idx C ∈ GW ∧ Cond.instantiable C N ∈ GW ∧ Cond.initialized C ∈ GW ∧ (∀ j, j < N → defaultValue (ty j) = vp_V fs j) ∧ ∀ α X, pz_sr α X fs fs
section HEAP
variable {Γ : PG} {μ : PM} {pc : Nat} {lv : List (Nat × Value)} {st : List Value} {w : PW} {x0 : PX}
/-- an instruction that makes w into w1 -/
theorem ee_w {pc2 : Nat} {lv2 : List (Nat × Value)} {st2 : List Value} {w1 : PW} (hle : w.2.1 ≤ w1.2.1 ∧ w.2.2 ≤ w1.2.2)
    (T : ∀ (p : Program) (e : Env) (s : State) (m : MethodId) (args : Array Value) (below : List Frame) (meth : Method) (c : Code) (R : Room) (α0 : List Nat) (b1 b2 : Nat) (Q : State → Prop), pz_Fx Γ μ p s m args meth c R → (w1.2.1 ≤ b1 + R.cells ∧ w1.2.2 ≤ b2 + R.slots) → pz_G Γ μ p e s m args below meth c R α0 b1 b2 Q pc2 lv2 st2 w1 → pz_G Γ μ p e s m args below meth c R α0 b1 b2 Q pc lv st w)
    (k : EE Γ μ pc2 lv2 st2 w1 x0) : EE Γ μ pc lv st w x0 := by
  intro r w' h
  obtain ⟨h1, h2, h3⟩ := k r w' h
  refine ⟨Nat.le_trans hle.1 h1, Nat.le_trans hle.2 h2, fun p e s m args below meth c R α0 b1 b2 Q hF hQ => ?_⟩
  exact T p e s m args below meth c R α0 b1 b2 Q hF ⟨Nat.le_trans h1 hQ.1, Nat.le_trans h2 hQ.2.1⟩ (h3 p e s m args below meth c R α0 b1 b2 Q hF hQ)
theorem ee_let {α : Type} {a : α} {K : α → PX} (k : ∀ v, v = a → EE Γ μ pc lv st w (K v)) : EE Γ μ pc lv st w (p_let a K) := k a rfl
theorem ee_getv {idx a ci k : Nat} {fs : List Value} {v : Value} (hd : decode (pm_cc μ) pc = .ok (.getfield idx, 3)) (hl : pz_fl (pm_own μ) idx ci k) (ho : w.1[a]? = some (.inr (ci, fs))) (hv : fs[k]? = some v) (kk : EE Γ μ (pc + 3) lv (v :: st) w x0) : EE Γ μ pc lv (.ref a :: st) w x0 := by
  refine ee_of (fun p e s m args below meth c R α0 b1 b2 Q hF hB hg => ?_) kk
  intro H locs cells slots ls cst ⟨α, clv, ws, hα, hP, hD, hS, hw, hls, hlr, hsr, e1, e2⟩
  obtain ⟨a0, _, rfl, ha0, hs1_⟩ := hsr.r
  obtain ⟨y, hy, gs, rfl, hgs⟩ := hw.at ha0 ho
  obtain ⟨c1, hc1, hvr⟩ := hgs.get hv
  obtain ⟨C, T, N, ty, ⟨q1, q2, q3, q4⟩, hk, hlk | ⟨host, hlk⟩ | ⟨ref, hlk, hsm⟩⟩ := hl
  · exact va_get hF.x hF.b hF.w q2 hF.o hF.K hP a hy q1 k hk (hF.w _ hlk) (fun _ h9 => h9) hc1 hd (hg _ _ _ _ _ _ ⟨α, clv, ws, hα, hP, hD, hS, hw, hls, hlr, hs1_.pc hvr, e1, e2⟩)
  · exact va_getN hF.x hF.b hF.w q2 hF.o hF.K hP a hy q1 k hk (va_Nw.use rfl (hF.N hlk)) (fun _ h9 => h9) hc1 hd (hg _ _ _ _ _ _ ⟨α, clv, ws, hα, hP, hD, hS, hw, hls, hlr, hs1_.pc hvr, e1, e2⟩)
  · exact va_get hF.x hF.b hF.w q2 hF.o hF.K hP a hy q1 k hk (hF.w _ hlk) (u_same (hF.w _ hsm)) hc1 hd (hg _ _ _ _ _ _ ⟨α, clv, ws, hα, hP, hD, hS, hw, hls, hlr, hs1_.pc hvr, e1, e2⟩)

theorem ee_getI {idx a ci k : Nat} {K : Int32 → PX} (hd : decode (pm_cc μ) pc = .ok (.getfield idx, 3)) (hl : pz_fl (pm_own μ) idx ci k) (kk : ∀ v, p_getI w a ci k = some v → EE Γ μ (pc + 3) lv (.int v :: st) w (K v)) : EE Γ μ pc lv (.ref a :: st) w ((p_getI w a ci k).bind K) := by
  refine ee_bind (fun v hv => ?_)
  have hk := kk v hv
  unfold p_getI at hv
  obtain ⟨fs, h1, h2⟩ := Option.bind_eq_some_iff.mp hv
  exact ee_getv hd hl (p_obj_eq.mp h1) (p_vI_eq h2) hk
theorem ee_getJ {idx a ci k : Nat} {K : Int64 → PX} (hd : decode (pm_cc μ) pc = .ok (.getfield idx, 3)) (hl : pz_fl (pm_own μ) idx ci k) (kk : ∀ v, p_getJ w a ci k = some v → EE Γ μ (pc + 3) lv (.long v :: st) w (K v)) : EE Γ μ pc lv (.ref a :: st) w ((p_getJ w a ci k).bind K) := by
  refine ee_bind (fun v hv => ?_)
  have hk := kk v hv
  unfold p_getJ at hv
  obtain ⟨fs, h1, h2⟩ := Option.bind_eq_some_iff.mp hv
  exact ee_getv hd hl (p_obj_eq.mp h1) (p_vJ_eq h2) hk
theorem ee_getR {idx a ci k : Nat} {K : Nat → PX} (hd : decode (pm_cc μ) pc = .ok (.getfield idx, 3)) (hl : pz_fl (pm_own μ) idx ci k) (kk : ∀ v, p_getR w a ci k = some v → EE Γ μ (pc + 3) lv (.ref v :: st) w (K v)) : EE Γ μ pc lv (.ref a :: st) w ((p_getR w a ci k).bind K) := by
  refine ee_bind (fun v hv => ?_)
  have hk := kk v hv
  unfold p_getR at hv
  obtain ⟨fs, h1, h2⟩ := Option.bind_eq_some_iff.mp hv
  exact ee_getv hd hl (p_obj_eq.mp h1) (p_vR_eq h2) hk
theorem ee_putv {idx a ci k : Nat} {fs : List Value} {v : Value} {t : FieldType} (hd : decode (pm_cc μ) pc = .ok (.putfield idx, 3)) (hl : pz_pl (pm_own μ) (pm_y μ).name idx ci k t) (ho : w.1[a]? = some (.inr (ci, fs))) (hk : k < fs.length) (hn : ∀ (α : List Nat) (X : Nat → Nat) (c : Value), pz_vr α X v c → narrow t c = c ∧ fits t c = true) (kk : EE Γ μ (pc + 3) lv st (w.1.set a (.inr (ci, fs.set k v)), w.2) x0) : EE Γ μ pc lv (v :: .ref a :: st) w x0 := by
  refine ee_w ⟨by exact Nat.le_refl _, by exact Nat.le_refl _⟩ (fun p e s m args below meth c R α0 b1 b2 Q hF hB hg => ?_) kk
  intro H locs cells slots ls cst ⟨α, clv, ws, hα, hP, hD, hS, hw, hls, hlr, hsr, e1, e2⟩
  obtain ⟨c1, _, rfl, hc1, hs1_⟩ := hsr.c
  obtain ⟨a0, _, rfl, ha0, hs2_⟩ := hs1_.r
  obtain ⟨y, hy, gs, rfl, hgs⟩ := hw.at ha0 ho
  obtain ⟨n1, n2⟩ := hn _ _ _ hc1
  have hkg : k < gs.length := by rw [hgs.len]; exact hk
  have hcr : pz_cr α (pg_X Γ) (pg_T Γ) (.inr (ci, fs.set k v)) (.inr (ci, gs.set k c1)) := ⟨_, rfl, hgs.set hc1 k⟩
  obtain ⟨C, T, N, ty, ⟨q1, q2, q3, q4⟩, hkN, hd9, ⟨hlk | ⟨host, hlk⟩ | ⟨ref, hlk, hsm⟩, hf9⟩ | ⟨hlk, hf9, hi9, ho9⟩⟩ := hl
  · exact va_put hF.x hF.b hF.w q2 ty q3 q4 hF.o hF.K hP hD hS a hy q1 k hkN (hF.w _ hlk) (fun _ h9 => h9) hf9 hd9 n1 n2 hkg hd (fun H1 locs1 hP1 hD1 hS1 => hg _ _ _ _ _ _ ⟨α, clv, _, hα, hP1, hD1, hS1, hw.set ha0 hcr, hls, hlr, hs2_, e1, e2⟩)
  · exact va_putN hF.x hF.b hF.w q2 ty q3 q4 hF.o hF.K hP hD hS a hy q1 k hkN (va_Nw.use rfl (hF.N hlk)) (fun _ h9 => h9) hf9 hd9 n1 n2 hkg hd (fun H1 locs1 hP1 hD1 hS1 => hg _ _ _ _ _ _ ⟨α, clv, _, hα, hP1, hD1, hS1, hw.set ha0 hcr, hls, hlr, hs2_, e1, e2⟩)
  · exact va_put hF.x hF.b hF.w q2 ty q3 q4 hF.o hF.K hP hD hS a hy q1 k hkN (hF.w _ hlk) (u_same (hF.w _ hsm)) hf9 hd9 n1 n2 hkg hd (fun H1 locs1 hP1 hD1 hS1 => hg _ _ _ _ _ _ ⟨α, clv, _, hα, hP1, hD1, hS1, hw.set ha0 hcr, hls, hlr, hs2_, e1, e2⟩)
  · exact va_putF hF.x hF.b hF.w q2 ty q3 q4 hF.o hF.K hP hD hS a hy q1 k hkN (hF.w _ hlk) (fun _ h9 => h9) hf9 (hF.n.trans hi9) ho9 hd9 n1 n2 hkg hd (fun H1 locs1 hP1 hD1 hS1 => hg _ _ _ _ _ _ ⟨α, clv, _, hα, hP1, hD1, hS1, hw.set ha0 hcr, hls, hlr, hs2_, e1, e2⟩)
theorem ee_put {idx a ci k : Nat} {v : Value} {t : FieldType} {K : PW → PX} (hd : decode (pm_cc μ) pc = .ok (.putfield idx, 3)) (hl : pz_pl (pm_own μ) (pm_y μ).name idx ci k t) (hn : ∀ (α : List Nat) (X : Nat → Nat) (c : Value), pz_vr α X v c → narrow t c = c ∧ fits t c = true) (kk : ∀ w1, p_put w a ci k v = some w1 → EE Γ μ (pc + 3) lv st w1 (K w1)) : EE Γ μ pc lv (v :: .ref a :: st) w ((p_put w a ci k v).bind K) := by
  refine ee_bind (fun w1 hv => ?_)
  have h9 := kk w1 hv
  unfold p_put at hv
  obtain ⟨fs, h1, h2⟩ := Option.bind_eq_some_iff.mp hv
  by_cases hk : k < fs.length
  · rw [if_pos hk] at h2
    cases h2
    exact ee_putv hd hl (p_obj_eq.mp h1) hk hn h9
  · rw [if_neg hk] at h2
    cases h2
theorem ee_nI (x : Int32) : ∀ (α : List Nat) (X : Nat → Nat) (c : Value), pz_vr α X (.int x) c → narrow .int c = c ∧ fits .int c = true := by
  intro α X c h
  rw [show c = .int x from h]
  exact ⟨rfl, rfl⟩
theorem ee_nJ (x : Int64) : ∀ (α : List Nat) (X : Nat → Nat) (c : Value), pz_vr α X (.long x) c → narrow .long c = c ∧ fits .long c = true := by
  intro α X c h
  rw [show c = .long x from h]
  exact ⟨rfl, rfl⟩
theorem ee_nR (i : Nat) (C : String) : ∀ (α : List Nat) (X : Nat → Nat) (c : Value), pz_vr α X (.ref i) c → narrow (.object C) c = c ∧ fits (.object C) c = true := by
  intro α X c h
  obtain ⟨a, -, rfl⟩ := h
  exact ⟨rfl, rfl⟩
theorem ee_nRA (i : Nat) (t : FieldType) : ∀ (α : List Nat) (X : Nat → Nat) (c : Value), pz_vr α X (.ref i) c → narrow (.array t) c = c ∧ fits (.array t) c = true := by
  intro α X c h
  obtain ⟨a, -, rfl⟩ := h
  exact ⟨rfl, rfl⟩
theorem ee_nZ (x : Int32) (hx : x = 0 ∨ x = 1) : ∀ (α : List Nat) (X : Nat → Nat) (c : Value), pz_vr α X (.int x) c → narrow .boolean c = c ∧ fits .boolean c = true := by
  intro α X c h
  rw [show c = .int x from h]
  rcases hx with rfl | rfl
  · exact ⟨by decide, by decide⟩
  · exact ⟨by decide, by decide⟩
theorem ee_new {idx ci N : Nat} {fs : List Value} {K : Nat → PW → PX} (hd : decode (pm_cc μ) pc = .ok (.new idx, 3)) (hl : pz_nl (pm_own μ) idx ci N fs) (kk : ∀ a w1, a = w.1.length → w1 = (w.1 ++ [.inr (ci, fs)], w.2.1 + 1, w.2.2 + N) → EE Γ μ (pc + 3) lv (.ref a :: st) w1 (K a w1)) : EE Γ μ pc lv st w (p_newO w ci N fs K) := by
  refine ee_w (w1 := (w.1 ++ [.inr (ci, fs)], w.2.1 + 1, w.2.2 + N)) ⟨Nat.le_succ _, Nat.le_add_right _ _⟩ (fun p e s m args below meth c R α0 b1 b2 Q hF hB hg => ?_) (kk _ _ rfl rfl)
  intro H locs cells slots ls cst ⟨α, clv, ws, hα, hP, hD, hS, hw, hls, hlr, hsr, e1, e2⟩
  obtain ⟨C, T, ty, ⟨q1, q2, q3, q4⟩, h1, h2, h3, h4, h5⟩ := hl
  have hB1 : w.2.1 + 1 ≤ b1 + R.cells := hB.1
  have hB2 : w.2.2 + N ≤ b2 + R.slots := hB.2
  refine va_new hF.x hF.b hF.w q2 ty q3 hF.o (hF.w _ h1) (hF.w _ h2) (hF.w _ h3) hF.K hP hD hS hF.A q1 h4 (by omega) (by omega) hd (fun q H1 hP1 hD1 hS1 => ?_)
  have hle : pz_le α (α ++ [q]) := ⟨[q], rfl⟩
  exact hg _ _ _ _ _ _ ⟨α ++ [q], clv, _, hα.tr hle, hP1, hD1, hS1, hw.push ⟨_, rfl, h5 _ _⟩, hls, hlr.mono hle, (hsr.mono hle).pr (hw.new q), by show w.2.1 + 1 = _; omega, by show w.2.2 + N = _; omega⟩
theorem pz_ty (hT : (pg_T Γ).map (fun q => q.2) = pz_TYS) {t : Nat} {c : ClassId} {ty ty2 : FieldType} (h : (pg_T Γ)[t]? = some (c, ty)) (h2 : pz_TYS[t]? = some ty2) : ty = ty2 := by
  rw [← hT, List.getElem?_map, h] at h2
  exact Option.some.inj h2
theorem ee_newa {ak : ArrayType} {ty : FieldType} {t B : Nat} {i : Int32} {K : Nat → PW → PX} (hd : decode (pm_cc μ) pc = .ok (.newarray ak, 2)) (ht : pz_TYS[t]? = some ty) (hak : newarray.typeOf ak = ty) (hdv : defaultValue ty = .int 0) (hcb : componentBytes ty = B) (hrf : ∀ U cA, va_RA U cA ty → U.vm.findClass ("[" ++ ty.toString) = some cA) (hac : Cond.arrayClass ty ∈ GW) (kk : ∀ a w1, a = w.1.length → w1 = (w.1 ++ [.inl (t, i.toNatClampNeg, .inl fun _ => 0)], w.2.1 + 1, w.2.2 + i.toNatClampNeg) → ¬ i < 0 → EE Γ μ (pc + 2) lv (.ref a :: st) w1 (K a w1)) : EE Γ μ pc lv (.int i :: st) w (p_newA w t B i K) := by
  unfold p_newA
  by_cases hc : i < 0 ∨ 536870912 < i.toNatClampNeg * B
  · rw [if_pos hc]; exact ee_none
  rw [if_neg hc]
  have hi : ¬ i < 0 := fun h => hc (Or.inl h)
  have hb : ¬ 536870912 < i.toNatClampNeg * B := fun h => hc (Or.inr h)
  refine ee_w (w1 := (w.1 ++ [.inl (t, i.toNatClampNeg, .inl fun _ => 0)], w.2.1 + 1, w.2.2 + i.toNatClampNeg)) ⟨Nat.le_succ _, Nat.le_add_right _ _⟩ (fun p e s m args below meth c R α0 b1 b2 Q hF hB hg => ?_) (kk _ _ rfl rfl hi)
  intro H locs cells slots ls cst ⟨α, clv, ws, hα, hP, hD, hS, hw, hls, hlr, hsr, e1, e2⟩
  obtain ⟨_, rfl, hs1_⟩ := hsr.i
  have hB1 : w.2.1 + 1 ≤ b1 + R.cells := hB.1
  have hB2 : w.2.2 + i.toNatClampNeg ≤ b2 + R.slots := hB.2
  refine va_newa hF.x hF.b (by rw [hak]; exact hF.w _ hac) hak hF.K hP hD hS hF.A (a0 := (i.toNatClampNeg, .inl fun _ => 0)) (fun cA => by rw [vp_cell_i, hdv]) hi rfl (by rw [hcb]; omega) (by omega) (by omega) hd (fun q cA H1 hK1 hP1 hD1 hS1 => ?_)
  have hle : pz_le α (α ++ [q]) := ⟨[q], rfl⟩
  obtain ⟨c2, ty2, h2⟩ : ∃ c2 ty2, (pg_T Γ)[t]? = some (c2, ty2) := by
    have h9 := ht
    rw [← hF.T, List.getElem?_map] at h9
    cases h8 : (pg_T Γ)[t]? with
    | none => rw [h8] at h9; cases h9
    | some q9 => exact ⟨q9.1, q9.2, rfl⟩
  have e9 : ty2 = ty := pz_ty hF.T h2 ht
  subst e9
  have r1 := hrf _ _ (hF.K.2 t _ h2).2
  have r2 := hrf _ _ (hK1.2 (pg_T Γ).length (cA, ty2) (by rw [List.getElem?_append_right (Nat.le_refl _), Nat.sub_self]; rfl)).2
  have e8 : c2 = cA := Option.some.inj (r1.symm.trans r2)
  subst e8
  exact hg _ _ _ _ _ _ ⟨α ++ [q], clv, _, hα.tr hle, hP1, hD1, hS1, hw.push ⟨_, _, _, h2, rfl, rfl⟩, hls, hlr.mono hle, (hs1_.mono hle).pr (hw.new q), by show w.2.1 + 1 = _; omega, by show w.2.2 + i.toNatClampNeg = _; omega⟩

theorem ee_iald {t a : Nat} {i : Int32} {K : Int32 → PX} (hd : decode (pm_cc μ) pc = .ok (.iaload, 1)) (ht : pz_TYS[t]? = some .int) (kk : ∀ v, p_ald w a t i = some v → EE Γ μ (pc + 1) lv (.int v :: st) w (K v)) : EE Γ μ pc lv (.int i :: .ref a :: st) w ((p_ald w a t i).bind K) := by
  refine ee_bind (fun v hv => ?_)
  have h9 := kk v hv
  unfold p_ald at hv
  obtain ⟨q, h1, h2⟩ := Option.bind_eq_some_iff.mp hv
  by_cases hc : i < 0 ∨ q.1 ≤ i.toNatClampNeg
  · rw [if_pos hc] at h2; cases h2
  rw [if_neg hc] at h2
  cases h2
  refine ee_of (fun p e s m args below meth c R α0 b1 b2 Q hF hB hg => ?_) h9
  intro H locs cells slots ls cst ⟨α, clv, ws, hα, hP, hD, hS, hw, hls, hlr, hsr, e1, e2⟩
  obtain ⟨_, rfl, hs1_⟩ := hsr.i
  obtain ⟨a0, _, rfl, ha0, hs2_⟩ := hs1_.r
  obtain ⟨y, hy, cA, ty2, g, hT, rfl, (rfl : g = .inl q.2)⟩ := hw.at ha0 (p_arr_eq.mp h1)
  have e9 := pz_ty hF.T hT ht
  subst e9
  exact va_iald hF.x hF.b hF.K hP a t hy hT hc hd (hg _ _ _ _ _ _ ⟨α, clv, ws, hα, hP, hD, hS, hw, hls, hlr, hs2_.pi, e1, e2⟩)
theorem ee_bald {t a : Nat} {i : Int32} {K : Int32 → PX} (hd : decode (pm_cc μ) pc = .ok (.baload, 1)) (ht : pz_TYS[t]? = some .byte) (kk : ∀ v, p_ald w a t i = some v → EE Γ μ (pc + 1) lv (.int v :: st) w (K v)) : EE Γ μ pc lv (.int i :: .ref a :: st) w ((p_ald w a t i).bind K) := by
  refine ee_bind (fun v hv => ?_)
  have h9 := kk v hv
  unfold p_ald at hv
  obtain ⟨q, h1, h2⟩ := Option.bind_eq_some_iff.mp hv
  by_cases hc : i < 0 ∨ q.1 ≤ i.toNatClampNeg
  · rw [if_pos hc] at h2; cases h2
  rw [if_neg hc] at h2
  cases h2
  refine ee_of (fun p e s m args below meth c R α0 b1 b2 Q hF hB hg => ?_) h9
  intro H locs cells slots ls cst ⟨α, clv, ws, hα, hP, hD, hS, hw, hls, hlr, hsr, e1, e2⟩
  obtain ⟨_, rfl, hs1_⟩ := hsr.i
  obtain ⟨a0, _, rfl, ha0, hs2_⟩ := hs1_.r
  obtain ⟨y, hy, cA, ty2, g, hT, rfl, (rfl : g = .inl q.2)⟩ := hw.at ha0 (p_arr_eq.mp h1)
  have e9 := pz_ty hF.T hT ht
  subst e9
  exact va_bald hF.x hF.b hF.K hP a t hy hT hc hd (hg _ _ _ _ _ _ ⟨α, clv, ws, hα, hP, hD, hS, hw, hls, hlr, hs2_.pi, e1, e2⟩)
theorem ee_zald {t a : Nat} {i : Int32} {K : Int32 → PX} (hd : decode (pm_cc μ) pc = .ok (.baload, 1)) (ht : pz_TYS[t]? = some .boolean) (kk : ∀ v, p_ald w a t i = some v → EE Γ μ (pc + 1) lv (.int v :: st) w (K v)) : EE Γ μ pc lv (.int i :: .ref a :: st) w ((p_ald w a t i).bind K) := by
  refine ee_bind (fun v hv => ?_)
  have h9 := kk v hv
  unfold p_ald at hv
  obtain ⟨q, h1, h2⟩ := Option.bind_eq_some_iff.mp hv
  by_cases hc : i < 0 ∨ q.1 ≤ i.toNatClampNeg
  · rw [if_pos hc] at h2; cases h2
  rw [if_neg hc] at h2
  cases h2
  refine ee_of (fun p e s m args below meth c R α0 b1 b2 Q hF hB hg => ?_) h9
  intro H locs cells slots ls cst ⟨α, clv, ws, hα, hP, hD, hS, hw, hls, hlr, hsr, e1, e2⟩
  obtain ⟨_, rfl, hs1_⟩ := hsr.i
  obtain ⟨a0, _, rfl, ha0, hs2_⟩ := hs1_.r
  obtain ⟨y, hy, cA, ty2, g, hT, rfl, (rfl : g = .inl q.2)⟩ := hw.at ha0 (p_arr_eq.mp h1)
  have e9 := pz_ty hF.T hT ht
  subst e9
  exact va_zald hF.x hF.b hF.K hP a t hy hT hc hd (hg _ _ _ _ _ _ ⟨α, clv, ws, hα, hP, hD, hS, hw, hls, hlr, hs2_.pi, e1, e2⟩)
theorem ee_iast {t a : Nat} {i x : Int32} {K : PW → PX} (hd : decode (pm_cc μ) pc = .ok (.iastore, 1)) (ht : pz_TYS[t]? = some .int) (kk : ∀ w1, p_ast w a t i x = some w1 → EE Γ μ (pc + 1) lv st w1 (K w1)) : EE Γ μ pc lv (.int x :: .int i :: .ref a :: st) w ((p_ast w a t i x).bind K) := by
  refine ee_bind (fun v hv => ?_)
  have h9 := kk v hv
  unfold p_ast at hv
  obtain ⟨q, h1, h2⟩ := Option.bind_eq_some_iff.mp hv
  by_cases hc : i < 0 ∨ q.1 ≤ i.toNatClampNeg
  · rw [if_pos hc] at h2; cases h2
  rw [if_neg hc] at h2
  cases h2
  refine ee_w ⟨by exact Nat.le_refl _, by exact Nat.le_refl _⟩ (fun p e s m args below meth c R α0 b1 b2 Q hF hB hg => ?_) h9
  intro H locs cells slots ls cst ⟨α, clv, ws, hα, hP, hD, hS, hw, hls, hlr, hsr, e1, e2⟩
  obtain ⟨_, rfl, hs1_⟩ := hsr.i
  obtain ⟨_, rfl, hs2_⟩ := hs1_.i
  obtain ⟨a0, _, rfl, ha0, hs3_⟩ := hs2_.r
  obtain ⟨y, hy, cA, ty2, g, hT, rfl, (rfl : g = .inl q.2)⟩ := hw.at ha0 (p_arr_eq.mp h1)
  have e9 := pz_ty hF.T hT ht
  subst e9
  exact va_iast hF.x hF.b hF.K hP hD hS a t hy hT hc hd (fun H1 locs1 hP1 hD1 hS1 => hg _ _ _ _ _ _ ⟨α, clv, _, hα, hP1, hD1, hS1, hw.set ha0 ⟨_, _, _, hT, rfl, rfl⟩, hls, hlr, hs3_, e1, e2⟩)
theorem ee_bast {t a : Nat} {i x : Int32} {K : PW → PX} (hd : decode (pm_cc μ) pc = .ok (.bastore, 1)) (ht : pz_TYS[t]? = some .byte) (kk : ∀ w1, p_ast w a t i (vp_nar .byte x) = some w1 → EE Γ μ (pc + 1) lv st w1 (K w1)) : EE Γ μ pc lv (.int x :: .int i :: .ref a :: st) w ((p_ast w a t i (vp_nar .byte x)).bind K) := by
  refine ee_bind (fun v hv => ?_)
  have h9 := kk v hv
  unfold p_ast at hv
  obtain ⟨q, h1, h2⟩ := Option.bind_eq_some_iff.mp hv
  by_cases hc : i < 0 ∨ q.1 ≤ i.toNatClampNeg
  · rw [if_pos hc] at h2; cases h2
  rw [if_neg hc] at h2
  cases h2
  refine ee_w ⟨by exact Nat.le_refl _, by exact Nat.le_refl _⟩ (fun p e s m args below meth c R α0 b1 b2 Q hF hB hg => ?_) h9
  intro H locs cells slots ls cst ⟨α, clv, ws, hα, hP, hD, hS, hw, hls, hlr, hsr, e1, e2⟩
  obtain ⟨_, rfl, hs1_⟩ := hsr.i
  obtain ⟨_, rfl, hs2_⟩ := hs1_.i
  obtain ⟨a0, _, rfl, ha0, hs3_⟩ := hs2_.r
  obtain ⟨y, hy, cA, ty2, g, hT, rfl, (rfl : g = .inl q.2)⟩ := hw.at ha0 (p_arr_eq.mp h1)
  have e9 := pz_ty hF.T hT ht
  subst e9
  exact va_bast hF.x hF.b hF.K hP hD hS a t hy hT hc hd (fun H1 locs1 hP1 hD1 hS1 => hg _ _ _ _ _ _ ⟨α, clv, _, hα, hP1, hD1, hS1, hw.set ha0 ⟨_, _, _, hT, rfl, rfl⟩, hls, hlr, hs3_, e1, e2⟩)
theorem ee_zast {t a : Nat} {i x : Int32} {K : PW → PX} (hd : decode (pm_cc μ) pc = .ok (.bastore, 1)) (ht : pz_TYS[t]? = some .boolean) (kk : ∀ w1, p_ast w a t i (vp_nar .boolean x) = some w1 → EE Γ μ (pc + 1) lv st w1 (K w1)) : EE Γ μ pc lv (.int x :: .int i :: .ref a :: st) w ((p_ast w a t i (vp_nar .boolean x)).bind K) := by
  refine ee_bind (fun v hv => ?_)
  have h9 := kk v hv
  unfold p_ast at hv
  obtain ⟨q, h1, h2⟩ := Option.bind_eq_some_iff.mp hv
  by_cases hc : i < 0 ∨ q.1 ≤ i.toNatClampNeg
  · rw [if_pos hc] at h2; cases h2
  rw [if_neg hc] at h2
  cases h2
  refine ee_w ⟨by exact Nat.le_refl _, by exact Nat.le_refl _⟩ (fun p e s m args below meth c R α0 b1 b2 Q hF hB hg => ?_) h9
  intro H locs cells slots ls cst ⟨α, clv, ws, hα, hP, hD, hS, hw, hls, hlr, hsr, e1, e2⟩
  obtain ⟨_, rfl, hs1_⟩ := hsr.i
  obtain ⟨_, rfl, hs2_⟩ := hs1_.i
  obtain ⟨a0, _, rfl, ha0, hs3_⟩ := hs2_.r
  obtain ⟨y, hy, cA, ty2, g, hT, rfl, (rfl : g = .inl q.2)⟩ := hw.at ha0 (p_arr_eq.mp h1)
  have e9 := pz_ty hF.T hT ht
  subst e9
  exact va_zast hF.x hF.b hF.K hP hD hS a t hy hT hc hd (fun H1 locs1 hP1 hD1 hS1 => hg _ _ _ _ _ _ ⟨α, clv, _, hα, hP1, hD1, hS1, hw.set ha0 ⟨_, _, _, hT, rfl, rfl⟩, hls, hlr, hs3_, e1, e2⟩)
theorem ee_alen {a : Nat} {K : Int32 → PX} (hd : decode (pm_cc μ) pc = .ok (.arraylength, 1)) (kk : ∀ v, p_len w a = some v → EE Γ μ (pc + 1) lv (.int v :: st) w (K v)) : EE Γ μ pc lv (.ref a :: st) w ((p_len w a).bind K) := by
  refine ee_bind (fun v hv => ?_)
  have h9 := kk v hv
  obtain ⟨t, n, f, h1, h2⟩ := p_len_eq hv
  refine ee_of (fun p e s m args below meth c R α0 b1 b2 Q hF hB hg => ?_) h9
  intro H locs cells slots ls cst ⟨α, clv, ws, hα, hP, hD, hS, hw, hls, hlr, hsr, e1, e2⟩
  obtain ⟨a0, _, rfl, ha0, hs1_⟩ := hsr.r
  obtain ⟨y, hy, cA, ty2, g, hT, rfl, hkr⟩ := hw.at ha0 h1
  exact va_alen hF.x hF.b hF.K hP a t hy hT h2 hd (hg _ _ _ _ _ _ ⟨α, clv, ws, hα, hP, hD, hS, hw, hls, hlr, hs1_.pi, e1, e2⟩)
/-- answers -/
theorem pz_end {p : Program} {e : Env} {s : State} {m : MethodId} {args : Array Value} {below : List Frame} {meth : Method} {c : Code} {R : Room} {α0 : List Nat} {b1 b2 : Nat} {Q : State → Prop} {H : Heap} {locs : List Loc} {cells slots : Nat} {g : JFrame} {rv : Option Value} (hQ : pz_Fin Γ s args below c R α0 b1 b2 Q (.inl rv) w) (e1 : w.2.1 = b1 + cells) (e2 : w.2.2 = b2 + slots)
    (k : W p (pg_l Γ) e R s m args below meth c H locs cells slots (MQ below (pz_Qc Γ α0 rv w) args s cells slots (pg_A Γ)) g) : W p (pg_l Γ) e R s m args below meth c H locs cells slots Q g := by
  refine pz_mono ?_ k
  intro t h
  have h3 := hQ.2.2 t
  rw [show w.2.1 - b1 = cells by omega, show w.2.2 - b2 = slots by omega] at h3
  exact h3 h

theorem ee_iret {v : Int32} (hr : pm_ret μ = some .int) (hd : decode (pm_cc μ) pc = .ok (.ireturn, 1)) : EE Γ μ pc lv [.int v] w (some (.inl (some (.int v)), w)) := by
  intro r w' h
  cases h
  refine ⟨Nat.le_refl _, Nat.le_refl _, fun p e s m args below meth c R α0 b1 b2 Q hF hQ => ?_⟩
  intro H locs cells slots ls cst ⟨α, clv, ws, hα, hP, hD, hS, hw, hls, hlr, hsr, e1, e2⟩
  obtain ⟨_, rfl, hs1_⟩ := hsr.i
  cases hs1_.n
  refine pz_end hQ e1 e2 ?_
  exact W.iret hF.x hF.b (hF.r.trans hr) (fun t ht hW => ⟨⟨some (.int v), α, ws, rfl, hs1_.pi, hα, by rw [ht]; exact hP, hD, hw⟩, hS.F ht⟩) hS.2.2 hd (hlocks := hF.k)
theorem ee_lret {v : Int64} (hr : pm_ret μ = some .long) (hd : decode (pm_cc μ) pc = .ok (.lreturn, 1)) : EE Γ μ pc lv [.long v] w (some (.inl (some (.long v)), w)) := by
  intro r w' h
  cases h
  refine ⟨Nat.le_refl _, Nat.le_refl _, fun p e s m args below meth c R α0 b1 b2 Q hF hQ => ?_⟩
  intro H locs cells slots ls cst ⟨α, clv, ws, hα, hP, hD, hS, hw, hls, hlr, hsr, e1, e2⟩
  obtain ⟨_, rfl, hs1_⟩ := hsr.l
  cases hs1_.n
  refine pz_end hQ e1 e2 ?_
  exact W.lret hF.x hF.b (hF.r.trans hr) (fun t ht hW => ⟨⟨some (.long v), α, ws, rfl, hs1_.pl, hα, by rw [ht]; exact hP, hD, hw⟩, hS.F ht⟩) hS.2.2 hd (hlocks := hF.k)
theorem ee_vret (hr : pm_ret μ = none) (hd : decode (pm_cc μ) pc = .ok (.return_, 1)) : EE Γ μ pc lv [] w (some (.inl (none), w)) := by
  intro r w' h
  cases h
  refine ⟨Nat.le_refl _, Nat.le_refl _, fun p e s m args below meth c R α0 b1 b2 Q hF hQ => ?_⟩
  intro H locs cells slots ls cst ⟨α, clv, ws, hα, hP, hD, hS, hw, hls, hlr, hsr, e1, e2⟩
  cases hsr.n
  refine pz_end hQ e1 e2 ?_
  exact W.vret hF.x hF.b (hF.r.trans hr) (fun t ht hW => ⟨⟨none, α, ws, rfl, trivial, hα, by rw [ht]; exact hP, hD, hw⟩, hS.F ht⟩) hS.2.2 hd (hlocks := hF.k)
theorem ee_aret {v : Nat} {rt : FieldType} (hr : pm_ret μ = some rt) (hrt : (∃ n, rt = .object n) ∨ ∃ t, rt = .array t) (hd : decode (pm_cc μ) pc = .ok (.areturn, 1)) : EE Γ μ pc lv [.ref v] w (some (.inl (some (.ref v)), w)) := by
  intro r w' h
  cases h
  refine ⟨Nat.le_refl _, Nat.le_refl _, fun p e s m args below meth c R α0 b1 b2 Q hF hQ => ?_⟩
  intro H locs cells slots ls cst ⟨α, clv, ws, hα, hP, hD, hS, hw, hls, hlr, hsr, e1, e2⟩
  obtain ⟨a0, _, rfl, ha0, hs1_⟩ := hsr.r
  cases hs1_.n
  refine pz_end hQ e1 e2 ?_
  exact W.aret hF.x hF.b (hF.r.trans hr) hrt (Or.inr ⟨a0, rfl⟩) (fun t ht hW => ⟨⟨some (.ref a0), α, ws, rfl, hs1_.pr ha0, hα, by rw [ht]; exact hP, hD, hw⟩, hS.F ht⟩) hS.2.2 hd (hlocks := hF.k)
def p_retZ (v : Int32) (w : PW) : PX := if v = 0 ∨ v = 1 then some (.inl (some (.int v)), w) else none
theorem ee_zret {v : Int32} (hr : pm_ret μ = some .boolean) (hd : decode (pm_cc μ) pc = .ok (.ireturn, 1)) : EE Γ μ pc lv [.int v] w (p_retZ v w) := by
  unfold p_retZ
  by_cases hc : v = 0 ∨ v = 1
  · rw [if_pos hc]
    intro r w' h
    cases h
    refine ⟨Nat.le_refl _, Nat.le_refl _, fun p e s m args below meth c R α0 b1 b2 Q hF hQ => ?_⟩
    intro H locs cells slots ls cst ⟨α, clv, ws, hα, hP, hD, hS, hw, hls, hlr, hsr, e1, e2⟩
    obtain ⟨_, rfl, hs1_⟩ := hsr.i
    cases hs1_.n
    refine pz_end hQ e1 e2 ?_
    exact W.zret hF.x hF.b (hF.r.trans hr) (by rcases hc with rfl | rfl <;> decide) (fun t ht hW => ⟨⟨some (.int v), α, ws, rfl, hs1_.pi, hα, by rw [ht]; exact hP, hD, hw⟩, hS.F ht⟩) hS.2.2 hd (hlocks := hF.k)
  · rw [if_neg hc]; exact ee_none
end HEAP
