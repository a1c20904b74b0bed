/-! Rules for the JDK's own methods: copies, rows of references, class objects. -/
def p_copy (w : PW) (t : Nat) (ty : FieldType) (a0 : Nat) (sp : Int32) (a1 : Nat) (dp n : Int32) : Option PW := (p_arr w a0 t).bind fun q0 => (p_arr w a1 t).bind fun q1 =>
  if (¬ sp < 0 ∧ ¬ dp < 0 ∧ ¬ n < 0 ∧ sp.toNatClampNeg + n.toNatClampNeg ≤ q0.1 ∧ dp.toNatClampNeg + n.toNatClampNeg ≤ q1.1) ∧ ∀ i, i < n.toNatClampNeg → fits ty (.int (q0.2 (sp.toNatClampNeg + i))) = true then some (w.1.set a1 (.inl (t, q1.1, .inl (va_cpy q0.2 q1.2 sp.toNatClampNeg dp.toNatClampNeg n.toNatClampNeg))), w.2) else none
def p_arrR (w : PW) (a : Nat) : Option (Nat × (Nat → Option Nat)) := match w.1[a]? with
  | some (.inl (t', n, .inr (.inr (.inr (.inr f))))) => if t' = 4 then some (n, f) else none
  | _ => none
theorem p_arrR_eq {w : PW} {a : Nat} {q : Nat × (Nat → Option Nat)} : p_arrR w a = some q ↔ w.1[a]? = some (.inl (4, q.1, .inr (.inr (.inr (.inr q.2))))) := by
  unfold p_arrR
  constructor
  · intro h
    split at h
    · rename_i t' n f he
      by_cases hc : t' = 4
      · rw [if_pos hc] at h
        cases h
        rw [he, hc]
      · rw [if_neg hc] at h
        cases h
    · cases h
  · intro h
    rw [h]
    simp
/-- a made box or a tile part lies there -/
def p_elt (w : PW) (a : Nat) : Bool := match w.1[a]? with
  | some (.inr (c, _)) => c == 4 || c == 8
  | _ => false
def p_eltO (w : PW) (x : Option Nat) : Bool := match x with
  | none => true
  | some a => p_elt w a
def p_aldR (w : PW) (a : Nat) (i : Int32) : Option Nat := (p_arrR w a).bind fun q => if i < 0 ∨ q.1 ≤ i.toNatClampNeg then none else q.2 i.toNatClampNeg
def p_astR (w : PW) (a : Nat) (i : Int32) (x : Option Nat) : Option PW := (p_arrR w a).bind fun q => if i < 0 ∨ q.1 ≤ i.toNatClampNeg ∨ p_eltO w x = false then none else some (w.1.set a (.inl (4, q.1, .inr (.inr (.inr (.inr (va_up q.2 i.toNatClampNeg x)))))), w.2)
def p_newR (w : PW) (i : Int32) (K : Nat → PW → PX) : PX := if i < 0 ∨ 536870912 < i.toNatClampNeg * 4 then none else K w.1.length (w.1 ++ [.inl (4, i.toNatClampNeg, .inr (.inr (.inr (.inr fun _ => none))))], w.2.1 + 1, w.2.2 + i.toNatClampNeg)
def p_copyR (w : PW) (a0 : Nat) (sp : Int32) (a1 : Nat) (dp n : Int32) : Option PW := (p_arrR w a0).bind fun q0 => (p_arrR w a1).bind fun q1 =>
  if (¬ sp < 0 ∧ ¬ dp < 0 ∧ ¬ n < 0 ∧ sp.toNatClampNeg + n.toNatClampNeg ≤ q0.1 ∧ dp.toNatClampNeg + n.toNatClampNeg ≤ q1.1) ∧ ∀ i, i < n.toNatClampNeg → p_eltO w (q0.2 (sp.toNatClampNeg + i)) = true then some (w.1.set a1 (.inl (4, q1.1, .inr (.inr (.inr (.inr (va_cpy q0.2 q1.2 sp.toNatClampNeg dp.toNatClampNeg n.toNatClampNeg)))))), w.2) else none
theorem p_elt_eq {w : PW} {a : Nat} (h : p_elt w a = true) : ∃ ci fs, (ci = 4 ∨ ci = 8) ∧ w.1[a]? = some (.inr (ci, fs)) := by
  unfold p_elt at h
  split at h
  · rename_i c fs he
    simp at h
    exact ⟨c, fs, h, he⟩
  · cases h
section JDKR
variable {Γ : PG} {μ : PM} {pc : Nat} {lv : List (Nat × Value)} {st : List Value} {w : PW} {x0 : PX}
theorem ee_copy {t : Nat} {ty : FieldType} {idx a0 a1 : Nat} {sp dp n : Int32} {K : PW → PX} (hd : decode (pm_cc μ) pc = .ok (.invokestatic idx, 3)) (ht : pz_TYS[t]? = some ty) (hp9 : refKind ty = false) (h1 : Cond.methodLink (pm_own μ) idx arraycopyName ∈ GW) (h2 : Cond.native arraycopyName ∈ GW) (h3 : Cond.static arraycopyName ∈ GW) (h4 : Cond.initialized "java/lang/System" ∈ GW) (hR : 1 ≤ pm_F μ ∧ (st.map fun v => v.category).sum + (nativeFrameWords "java/lang/System" "arraycopy" 5 + 11) ≤ pm_L μ)
    (kk : ∀ w1, p_copy w t ty a0 sp a1 dp n = some w1 → EE Γ μ (pc + 3) lv st w1 (K w1)) : EE Γ μ pc lv (.int n :: .int dp :: .ref a1 :: .int sp :: .ref a0 :: st) w ((p_copy w t ty a0 sp a1 dp n).bind K) := by
  refine ee_bind (fun w1 hv => ?_)
  have h9 := kk w1 hv
  unfold p_copy at hv
  obtain ⟨q0, g1, hv⟩ := Option.bind_eq_some_iff.mp hv
  obtain ⟨q1, g2, hv⟩ := Option.bind_eq_some_iff.mp hv
  split at hv
  · rename_i hc
    cases hv
    obtain ⟨⟨c1, c2, c3, c4, c5⟩, c6⟩ := hc
    refine ee_w ⟨by exact Nat.le_refl _, by exact Nat.le_refl _⟩ (fun p e s m args below meth c R α0 b1 b2 Q hF hB hg => ?_) h9
    intro H locs cells slots ls cst ⟨α, clv, ws, hα, hP, hD, hS, hw, hls, hlr, hsr, e1, e2⟩
    obtain ⟨_, rfl, hs1_⟩ := hsr.i
    obtain ⟨_, rfl, hs2_⟩ := hs1_.i
    obtain ⟨x1, _, rfl, hx1, hs3_⟩ := hs2_.r
    obtain ⟨_, rfl, hs4_⟩ := hs3_.i
    obtain ⟨x0, rest, rfl, hx0, hs5_⟩ := hs4_.r
    obtain ⟨y, hy, cA, ty2, g, hT, rfl, (rfl : g = .inl q0.2)⟩ := hw.at hx0 (p_arr_eq.mp g1)
    obtain ⟨y, hz, cB, ty3, g, hT3, rfl, (rfl : g = .inl q1.2)⟩ := hw.at hx1 (p_arr_eq.mp g2)
    have e9 := pz_ty hF.T hT ht
    have e8 := pz_ty hF.T hT3 ht
    subst e9
    subst e8
    exact va_copyi hF.x hF.b (by rw [hF.l]; exact hls.1.symm) hF.o (hF.w _ h1) (hF.w _ h2) (hF.w _ h3) (hF.w _ h4) hF.K hP hD hS a0 a1 t t hy hz hT hT3 hp9 c1 c2 c3 c4 c5 c6 (by rw [hF.F]; exact hR.1) (by rw [hs5_.cats, hF.L]; exact hR.2) hd (fun H1 locs1 hP1 hD1 hS1 => hg _ _ _ _ _ _ ⟨α, clv, _, hα, hP1, hD1, hS1, hw.set hx1 ⟨_, _, _, hT3, rfl, rfl⟩, hls, hlr, hs5_, e1, e2⟩)
  · cases hv
/-- ArrayList's empty row -/
theorem ee_getsE {idx : Nat} (hd : decode (pm_cc μ) pc = .ok (.getstatic idx, 3)) (hl : Cond.fieldLink (pm_own μ) idx "java/util/ArrayList" "DEFAULTCAPACITY_EMPTY_ELEMENTDATA" "[Ljava/lang/Object;" ∈ GW) (k : EE Γ μ (pc + 3) lv (.retAddr 3 :: st) w x0) : EE Γ μ pc lv st w x0 := by
  refine ee_of (fun p e s m args below meth c R α0 b1 b2 Q hF hB hg => ?_) k
  intro H locs cells slots ls cst ⟨α, clv, ws, hα, hP, hD, hS, hw, hls, hlr, hsr, e1, e2⟩
  exact va_gets hF.x hF.b (hF.S s hF.E).2.2.1 hS hF.o (hF.w _ hl) (fun _ h => h) hd (hg _ _ _ _ _ _ ⟨α, clv, ws, hα, hP, hD, hS, hw, hls, hlr, hsr.px, e1, e2⟩)
theorem ee_tlenE (hd : decode (pm_cc μ) pc = .ok (.arraylength, 1)) (k : EE Γ μ (pc + 1) lv (.int 0 :: st) w x0) : EE Γ μ pc lv (.retAddr 3 :: st) w x0 := by
  refine ee_of (fun p e s m args below meth c R α0 b1 b2 Q hF hB hg => ?_) k
  intro H locs cells slots ls cst ⟨α, clv, ws, hα, hP, hD, hS, hw, hls, hlr, hsr, e1, e2⟩
  obtain ⟨_, rfl, hs1_⟩ := hsr.x
  exact va_tlen hF.x hF.b (hF.S s hF.E).2.2.2.1 hS (v := 0) (by decide) hd (hg _ _ _ _ _ _ ⟨α, clv, ws, hα, hP, hD, hS, hw, hls, hlr, hs1_.pi, e1, e2⟩)
def p_getV (w : PW) (a ci k : Nat) : Option Value := (p_obj w a ci).bind fun fs => fs[k]?
def p_spl (v : Value) (K1 : Nat → PX) (K2 : PX) : PX := match v with
  | .ref x => K1 x
  | .retAddr n => if n = 3 then K2 else none
  | _ => none
theorem ee_spl {v : Value} {K1 : Nat → PX} {K2 : PX} (k1 : ∀ x, EE Γ μ pc lv (.ref x :: st) w (K1 x)) (k2 : EE Γ μ pc lv (.retAddr 3 :: st) w K2) : EE Γ μ pc lv (v :: st) w (p_spl v K1 K2) := by
  match v with
  | .ref x => exact k1 x
  | .retAddr n =>
    show EE Γ μ pc lv (.retAddr n :: st) w (if n = 3 then K2 else none)
    by_cases h : n = 3
    · subst h; rw [if_pos rfl]; exact k2
    · rw [if_neg h]; exact ee_none
  | .int _ => exact ee_none
  | .long _ => exact ee_none
  | .float _ => exact ee_none
  | .double _ => exact ee_none
  | .null => exact ee_none
theorem ee_getV {idx a ci k : Nat} {K1 : Nat → PX} {K2 : PX} (hd : decode (pm_cc μ) pc = .ok (.getfield idx, 3)) (hl : pz_fl (pm_own μ) idx ci k) (k1 : ∀ x, EE Γ μ (pc + 3) lv (.ref x :: st) w (K1 x)) (k2 : EE Γ μ (pc + 3) lv (.retAddr 3 :: st) w K2) : EE Γ μ pc lv (.ref a :: st) w ((p_getV w a ci k).bind fun v => p_spl v K1 K2) := by
  refine ee_bind (fun v hv => ?_)
  unfold p_getV at hv
  obtain ⟨fs, h1, h2⟩ := Option.bind_eq_some_iff.mp hv
  exact ee_getv hd hl (p_obj_eq.mp h1) h2 (ee_spl k1 k2)
/-- a split of a local -/
theorem ee_splL {v : Value} {K1 : Nat → PX} {K2 : PX} {l1 l2 : List (Nat × Value)} {i : Nat} (k1 : ∀ x, EE Γ μ pc (l1 ++ (i, .ref x) :: l2) st w (K1 x)) (k2 : EE Γ μ pc (l1 ++ (i, .retAddr 3) :: l2) st w K2) : EE Γ μ pc (l1 ++ (i, v) :: l2) st w (p_spl v K1 K2) := by
  match v with
  | .ref x => exact k1 x
  | .retAddr n =>
    show EE Γ μ pc (l1 ++ (i, .retAddr n) :: l2) st w (if n = 3 then K2 else none)
    by_cases h : n = 3
    · subst h; rw [if_pos rfl]; exact k2
    · rw [if_neg h]; exact ee_none
  | .int _ => exact ee_none
  | .long _ => exact ee_none
  | .float _ => exact ee_none
  | .double _ => exact ee_none
  | .null => exact ee_none
theorem ee_aload_nT {kf : Fin 4} {x : Nat} (j : Nat) (hd : decode (pm_cc μ) pc = .ok (.aload_n kf, 1)) (hl : lv[j]? = some ((kf : Nat), .retAddr x)) (k : EE Γ μ (pc + 1) lv (.retAddr x :: st) w x0) : EE Γ μ pc lv st w x0 := by
  refine ee_of (fun p e s m args below meth c R α0 b1 b2 Q hF hB hg => ?_) k
  intro H locs cells slots ls cst ⟨α, clv, ws, hα, hP, hD, hS, hw, hls, hlr, hsr, e1, e2⟩
  obtain ⟨c1, hm, (rfl : c1 = .ref (pg_X Γ x))⟩ := hlr.get hl
  exact lv_aload_n hF.x hF.b hd rfl (hls.2.2 _ hm) (hg _ _ _ _ _ _ ⟨α, clv, ws, hα, hP, hD, hS, hw, hls, hlr, hsr.px, e1, e2⟩)
theorem ee_astore_nT {kf : Fin 4} {x : Nat} {lv2 : List (Nat × Value)} (hd : decode (pm_cc μ) pc = .ok (.astore_n kf, 1)) (hn : (kf : Nat) < pm_nL μ) (hl : ((kf : Nat), Value.retAddr x) :: lv.filter (fun q => !(q.1 == (kf : Nat)) && !(q.1 + 1 == (kf : Nat) && q.2.category == 2)) = lv2) (k : EE Γ μ (pc + 1) lv2 st w x0) : EE Γ μ pc lv (Value.retAddr x :: st) w x0 := by
  subst hl
  refine ee_of (fun p e s m args below meth c R α0 b1 b2 Q hF hB hg => ?_) k
  intro H locs cells slots ls cst ⟨α, clv, ws, hα, hP, hD, hS, hw, hls, hlr, hsr, e1, e2⟩
  obtain ⟨_, rfl, hs1_⟩ := hsr.x
  exact lv_astore_n hF.x hF.b hd rfl hls hn rfl (fun ls2 hls2 => hg _ _ _ _ _ _ ⟨α, _, ws, hα, hP, hD, hS, hw, hls2, ⟨rfl, rfl, hlr.filter (fun k9 c9 => !(k9 == (kf : Nat)) && !(k9 + 1 == (kf : Nat) && c9 == 2))⟩, hs1_, e1, e2⟩)
theorem ee_nT (k : Nat) (t : FieldType) : ∀ (α : List Nat) (X : Nat → Nat) (c : Value), pz_vr α X (.retAddr k) c → narrow (.array t) c = c ∧ fits (.array t) c = true := by
  intro α X c h
  rw [show c = .ref (X k) from h]
  exact ⟨rfl, rfl⟩
theorem ee_null (hd : decode (pm_cc μ) pc = .ok (.aconst_null, 1)) (k : EE Γ μ (pc + 1) lv (.null :: st) w x0) : EE Γ μ pc lv st w x0 := by
  refine ee_of (fun p e s m args below meth c R α0 b1 b2 Q hF hB hg => ?_) k
  intro H locs cells slots ls cst ⟨α, clv, ws, hα, hP, hD, hS, hw, hls, hlr, hsr, e1, e2⟩
  exact lv_null hF.x hF.b hd (hg _ _ _ _ _ _ ⟨α, clv, ws, hα, hP, hD, hS, hw, hls, hlr, (hsr.pc (show pz_vr α (pg_X Γ) .null .null from rfl)), e1, e2⟩)
theorem ee_aald {a : Nat} {i : Int32} {K : Nat → PX} (hd : decode (pm_cc μ) pc = .ok (.aaload, 1)) (kk : ∀ v, p_aldR w a i = some v → EE Γ μ (pc + 1) lv (.ref v :: st) w (K v)) : EE Γ μ pc lv (.int i :: .ref a :: st) w ((p_aldR w a i).bind K) := by
  refine ee_bind (fun v hv => ?_)
  have h9 := kk v hv
  unfold p_aldR at hv
  obtain ⟨q, h1, h2⟩ := Option.bind_eq_some_iff.mp hv
  by_cases hc : i < 0 ∨ q.1 ≤ i.toNatClampNeg
  · rw [if_pos hc] at h2; cases h2
  rw [if_neg hc] at h2
  refine ee_of (fun p e s m args below meth c R α0 b1 b2 Q hF hB hg => ?_) h9
  intro H locs cells slots ls cst ⟨α, clv, ws, hα, hP, hD, hS, hw, hls, hlr, hsr, e1, e2⟩
  obtain ⟨_, rfl, hs1_⟩ := hsr.i
  obtain ⟨a0, _, rfl, ha0, hs2_⟩ := hs1_.r
  obtain ⟨y, hy, cA, ty2, g, hT, rfl, f, rfl, hf⟩ := hw.at ha0 (p_arrR_eq.mp h1)
  have e9 := pz_ty hF.T hT (ty2 := .object "java/lang/Object") rfl
  subst e9
  have h5 := hf i.toNatClampNeg
  rw [h2] at h5
  obtain ⟨b, hb, h6⟩ := h5
  refine va_aldq hF.x hF.b hF.K hP a 4 hy hT hc hd ?_
  rw [h6]
  exact hg _ _ _ _ _ _ ⟨α, clv, ws, hα, hP, hD, hS, hw, hls, hlr, hs2_.pr hb, e1, e2⟩
theorem pz_upr {α : List Nat} {f g : Nat → Option Nat} {x y : Option Nat} (h : ∀ j, pz_or α (f j) (g j)) (hx : pz_or α x y) (k : Nat) : ∀ j, pz_or α (va_up f k x j) (va_up g k y j) := by
  intro j
  unfold va_up
  by_cases e : j = k
  · rw [if_pos e, if_pos e]; exact hx
  · rw [if_neg e, if_neg e]; exact h j
theorem pz_cpr {α : List Nat} {f g f' g' : Nat → Option Nat} (h : ∀ j, pz_or α (f j) (f' j)) (h2 : ∀ j, pz_or α (g j) (g' j)) (sp dp n : Nat) : ∀ j, pz_or α (va_cpy f g sp dp n j) (va_cpy f' g' sp dp n j) := by
  intro j
  unfold va_cpy
  by_cases e : dp ≤ j ∧ j < dp + n
  · rw [if_pos e, if_pos e]; exact h _
  · rw [if_neg e, if_neg e]; exact h2 _
theorem ee_aastN {a : Nat} {i : Int32} {K : PW → PX} (hd : decode (pm_cc μ) pc = .ok (.aastore, 1)) (kk : ∀ w1, p_astR w a i none = some w1 → EE Γ μ (pc + 1) lv st w1 (K w1)) : EE Γ μ pc lv (.null :: .int i :: .ref a :: st) w ((p_astR w a i none).bind K) := by
  refine ee_bind (fun v hv => ?_)
  have h9 := kk v hv
  unfold p_astR at hv
  obtain ⟨q, h1, h2⟩ := Option.bind_eq_some_iff.mp hv
  by_cases hc : i < 0 ∨ q.1 ≤ i.toNatClampNeg ∨ p_eltO w none = false
  · rw [if_pos hc] at h2; cases h2
  rw [if_neg hc] at h2
  cases h2
  have hin : vp_in i q.1 := fun h => hc (h.elim Or.inl (fun h => Or.inr (Or.inl h)))
  refine ee_w ⟨by exact Nat.le_refl _, by exact Nat.le_refl _⟩ (fun p e s m args below meth c R α0 b1 b2 Q hF hB hg => ?_) h9
  intro H locs cells slots ls cst ⟨α, clv, ws, hα, hP, hD, hS, hw, hls, hlr, hsr, e1, e2⟩
  obtain ⟨c0, _, rfl, (rfl : c0 = .null), hs1_⟩ := hsr.c
  obtain ⟨_, rfl, hs2_⟩ := hs1_.i
  obtain ⟨a0, _, rfl, ha0, hs3_⟩ := hs2_.r
  obtain ⟨y, hy, cA, ty2, g, hT, rfl, f, rfl, hf⟩ := hw.at ha0 (p_arrR_eq.mp h1)
  have e9 := pz_ty hF.T hT (ty2 := .object "java/lang/Object") rfl
  subst e9
  exact va_astqN hF.x hF.b hF.K hP hD hS a 4 hy hT hin hd (fun H1 locs1 hP1 hD1 hS1 => hg _ _ _ _ _ _ ⟨α, clv, _, hα, hP1, hD1, hS1, hw.set ha0 ⟨_, _, _, hT, rfl, _, rfl, pz_upr hf (show pz_or α none none from rfl) _⟩, hls, hlr, hs3_, e1, e2⟩)
theorem ee_aast {a x : Nat} {i : Int32} {K : PW → PX} (hd : decode (pm_cc μ) pc = .ok (.aastore, 1)) (kk : ∀ w1, p_astR w a i (some x) = some w1 → EE Γ μ (pc + 1) lv st w1 (K w1)) : EE Γ μ pc lv (.ref x :: .int i :: .ref a :: st) w ((p_astR w a i (some x)).bind K) := by
  refine ee_bind (fun v hv => ?_)
  have h9 := kk v hv
  unfold p_astR at hv
  obtain ⟨q, h1, h2⟩ := Option.bind_eq_some_iff.mp hv
  by_cases hc : i < 0 ∨ q.1 ≤ i.toNatClampNeg ∨ p_eltO w (some x) = false
  · rw [if_pos hc] at h2; cases h2
  rw [if_neg hc] at h2
  cases h2
  have hin : vp_in i q.1 := fun h => hc (h.elim Or.inl (fun h => Or.inr (Or.inl h)))
  have hel : p_elt w x = true := by
    cases h8 : p_elt w x with
    | true => rfl
    | false => exact absurd (Or.inr (Or.inr h8)) hc
  obtain ⟨ci, fs, hci, hx⟩ := p_elt_eq hel
  refine ee_w ⟨by exact Nat.le_refl _, by exact Nat.le_refl _⟩ (fun p e s m args below meth c R α0 b1 b2 Q hF hB hg => ?_) h9
  intro H locs cells slots ls cst ⟨α, clv, ws, hα, hP, hD, hS, hw, hls, hlr, hsr, e1, e2⟩
  obtain ⟨b0, _, rfl, hb0, hs1_⟩ := hsr.r
  obtain ⟨_, rfl, hs2_⟩ := hs1_.i
  obtain ⟨a0, _, rfl, ha0, hs3_⟩ := hs2_.r
  obtain ⟨y, hy, cA, ty2, g, hT, rfl, f, rfl, hf⟩ := hw.at ha0 (p_arrR_eq.mp h1)
  obtain ⟨y, hz, gs, rfl, hgs⟩ := hw.at hb0 hx
  have e9 := pz_ty hF.T hT (ty2 := .object "java/lang/Object") rfl
  subst e9
  rcases hci with rfl | rfl
  · exact va_astqO hF.x hF.b hF.K hP hD hS a 4 x 4 hy hT (r := (R4, T4, 3)) (hF.N gw_ca4) hz rfl hin hd (fun H1 locs1 hP1 hD1 hS1 => hg _ _ _ _ _ _ ⟨α, clv, _, hα, hP1, hD1, hS1, hw.set ha0 ⟨_, _, _, hT, rfl, _, rfl, pz_upr hf (show pz_or α (some x) (some b0) from ⟨_, hb0, rfl⟩) _⟩, hls, hlr, hs3_, e1, e2⟩)
  · exact va_astqO hF.x hF.b hF.K hP hD hS a 4 x 8 hy hT (r := (R8, T8, 5)) (hF.N gw_ca8) hz rfl hin hd (fun H1 locs1 hP1 hD1 hS1 => hg _ _ _ _ _ _ ⟨α, clv, _, hα, hP1, hD1, hS1, hw.set ha0 ⟨_, _, _, hT, rfl, _, rfl, pz_upr hf (show pz_or α (some x) (some b0) from ⟨_, hb0, rfl⟩) _⟩, hls, hlr, hs3_, e1, e2⟩)
theorem ee_newR {idx : Nat} {i : Int32} {K : Nat → PW → PX} (hd : decode (pm_cc μ) pc = .ok (.anewarray idx, 3)) (hl : Cond.classLink (pm_own μ) idx "java/lang/Object" ∈ GW) (kk : ∀ a w1, a = w.1.length → w1 = (w.1 ++ [.inl (4, i.toNatClampNeg, .inr (.inr (.inr (.inr fun _ => none))))], w.2.1 + 1, w.2.2 + i.toNatClampNeg) → ¬ i < 0 → EE Γ μ (pc + 3) lv (.ref a :: st) w1 (K a w1)) : EE Γ μ pc lv (.int i :: st) w (p_newR w i K) := by
  unfold p_newR
  by_cases hc : i < 0 ∨ 536870912 < i.toNatClampNeg * 4
  · rw [if_pos hc]; exact ee_none
  rw [if_neg hc]
  have hi : ¬ i < 0 := fun h => hc (Or.inl h)
  have hb : ¬ 536870912 < i.toNatClampNeg * 4 := fun h => hc (Or.inr h)
  refine ee_w (w1 := (w.1 ++ [.inl (4, i.toNatClampNeg, .inr (.inr (.inr (.inr fun _ => none))))], w.2.1 + 1, w.2.2 + i.toNatClampNeg)) ⟨Nat.le_succ _, Nat.le_add_right _ _⟩ (fun p e s m args below meth c R α0 b1 b2 Q hF hB hg => ?_) (kk _ _ rfl rfl hi)
  intro H locs cells slots ls cst ⟨α, clv, ws, hα, hP, hD, hS, hw, hls, hlr, hsr, e1, e2⟩
  obtain ⟨_, rfl, hs1_⟩ := hsr.i
  have hB1 : w.2.1 + 1 ≤ b1 + R.cells := hB.1
  have hB2 : w.2.2 + i.toNatClampNeg ≤ b2 + R.slots := hB.2
  refine va_newq hF.x hF.b hF.o (hF.w _ hl) (hF.S s hF.E).2.2.2.2.2.1 hF.K hP hD hS hF.A hi rfl (by omega) (by omega) (by omega) hd (fun q cA H1 hK1 hP1 hD1 hS1 => ?_)
  have hle : pz_le α (α ++ [q]) := ⟨[q], rfl⟩
  obtain ⟨c2, ty2, h2⟩ : ∃ c2 ty2, (pg_T Γ)[4]? = some (c2, ty2) := by
    have h9 : pz_TYS[4]? = some (.object "java/lang/Object") := rfl
    rw [← hF.T, List.getElem?_map] at h9
    cases h8 : (pg_T Γ)[4]? with
    | none => rw [h8] at h9; cases h9
    | some q9 => exact ⟨q9.1, q9.2, rfl⟩
  have e9 := pz_ty hF.T h2 (ty2 := .object "java/lang/Object") rfl
  subst e9
  obtain ⟨k1, p1, _, _, _, r1⟩ := (hF.K.2 4 _ h2).2
  obtain ⟨k2, p2, _, _, _, r2⟩ := (hK1.2 (pg_T Γ).length (cA, .object "java/lang/Object") (by rw [List.getElem?_append_right (Nat.le_refl _), Nat.sub_self]; rfl)).2
  have e8 : c2 = cA := Option.some.inj (r1.symm.trans r2)
  subst e8
  exact hg _ _ _ _ _ _ ⟨α ++ [q], clv, _, hα.tr hle, hP1, hD1, hS1, hw.push ⟨_, _, _, h2, rfl, _, rfl, fun _ => rfl⟩, hls, hlr.mono hle, (hs1_.mono hle).pr (hw.new q), by show w.2.1 + 1 = _; omega, by show w.2.2 + i.toNatClampNeg = _; omega⟩
theorem ee_acmpRT {x : Nat} {off : Int} (hd : decode (pm_cc μ) pc = .ok (.if_acmp .eq off, 3)) {tgt : Nat} (ht : (pc : Int) + off = (tgt : Int)) {fs : va_E} (hx : w.1[x]? = some fs) (k : EE Γ μ (pc + 3) lv st w x0) : EE Γ μ pc lv (.retAddr 3 :: .ref x :: st) w x0 := by
  refine ee_of (fun p e s m args below meth c R α0 b1 b2 Q hF hB hg => ?_) k
  intro H locs cells slots ls cst ⟨α, clv, ws, hα, hP, hD, hS, hw, hls, hlr, hsr, e1, e2⟩
  obtain ⟨_, rfl, hs1_⟩ := hsr.x
  obtain ⟨a0, _, rfl, ha0, hs2_⟩ := hs1_.r
  obtain ⟨y, hy, hcr⟩ := hw.at ha0 hx
  have hA : pg_A Γ a0 := hD.2 x _ hy
  obtain ⟨cell, _, _, _, _, _, _, hn⟩ := (hF.S s hF.E).2.2.2.1
  refine lv_acmp_eq (rx := some a0) (ry := some (pg_X Γ 3)) hF.x hF.b hd ht (fun h => ?_) (fun _ => (hg _ _ _ _ _ _ ⟨α, clv, ws, hα, hP, hD, hS, hw, hls, hlr, hs2_, e1, e2⟩))
  cases h
  exact absurd hA hn
theorem ee_acmpTT {k9 : Nat} {off : Int} {tgt : Nat} (hd : decode (pm_cc μ) pc = .ok (.if_acmp .eq off, 3)) (ht : (pc : Int) + off = (tgt : Int)) (k : EE Γ μ tgt lv st w x0) : EE Γ μ pc lv (.retAddr k9 :: .retAddr k9 :: st) w x0 := by
  refine ee_of (fun p e s m args below meth c R α0 b1 b2 Q hF hB hg => ?_) k
  intro H locs cells slots ls cst ⟨α, clv, ws, hα, hP, hD, hS, hw, hls, hlr, hsr, e1, e2⟩
  obtain ⟨_, rfl, hs1_⟩ := hsr.x
  obtain ⟨_, rfl, hs2_⟩ := hs1_.x
  exact lv_acmp_eq (rx := some (pg_X Γ k9)) (ry := some (pg_X Γ k9)) hF.x hF.b hd ht (fun _ => (hg _ _ _ _ _ _ ⟨α, clv, ws, hα, hP, hD, hS, hw, hls, hlr, hs2_, e1, e2⟩)) (fun h => absurd rfl h)
theorem ee_acmpneTT {k9 : Nat} {off : Int} {tgt : Nat} (hd : decode (pm_cc μ) pc = .ok (.if_acmp .ne off, 3)) (ht : (pc : Int) + off = (tgt : Int)) (k : EE Γ μ (pc + 3) lv st w x0) : EE Γ μ pc lv (.retAddr k9 :: .retAddr k9 :: st) w x0 := by
  refine ee_of (fun p e s m args below meth c R α0 b1 b2 Q hF hB hg => ?_) k
  intro H locs cells slots ls cst ⟨α, clv, ws, hα, hP, hD, hS, hw, hls, hlr, hsr, e1, e2⟩
  obtain ⟨_, rfl, hs1_⟩ := hsr.x
  obtain ⟨_, rfl, hs2_⟩ := hs1_.x
  exact lv_acmp_ne (rx := some (pg_X Γ k9)) (ry := some (pg_X Γ k9)) hF.x hF.b hd ht (fun h => absurd rfl h) (fun _ => (hg _ _ _ _ _ _ ⟨α, clv, ws, hα, hP, hD, hS, hw, hls, hlr, hs2_, e1, e2⟩))
theorem ee_ldcM {idx : Nat} (hd : decode (pm_cc μ) pc = .ok (.ldc idx, 2)) (hl : Cond.classLink (pm_own μ) idx "[Ljava/lang/Object;" ∈ GW) (k : EE Γ μ (pc + 2) lv (.retAddr 4 :: st) w x0) : EE Γ μ pc lv st w x0 := by
  refine ee_of (fun p e s m args below meth c R α0 b1 b2 Q hF hB hg => ?_) k
  intro H locs cells slots ls cst ⟨α, clv, ws, hα, hP, hD, hS, hw, hls, hlr, hsr, e1, e2⟩
  exact va_ldcM hF.x hF.b hF.o (hF.w _ hl) (hF.S s hF.E).2.2.2.2.1 hd (hg _ _ _ _ _ _ ⟨α, clv, ws, hα, hP, hD, hS, hw, hls, hlr, hsr.px, e1, e2⟩)
def yObj_getClass : MethodName := ⟨"java/lang/Object", "getClass", "()Ljava/lang/Class;"⟩
theorem ee_getC {idx a : Nat} {q : Nat × (Nat → Option Nat)} (hd : decode (pm_cc μ) pc = .ok (.invokevirtual idx, 3)) (ha : p_arrR w a = some q) (h1 : Cond.methodLink (pm_own μ) idx yObj_getClass ∈ GW) (h2 : Cond.declares yObj_getClass ∈ NW) (h3 : Cond.selects "[Ljava/lang/Object;" yObj_getClass yObj_getClass ∈ GW) (h4 : Cond.instanceMethod yObj_getClass ∈ GW) (h5 : Cond.native yObj_getClass ∈ GW) (hR : 1 ≤ pm_F μ ∧ (st.map fun v => v.category).sum + 14 ≤ pm_L μ) (k : EE Γ μ (pc + 3) lv (.retAddr 4 :: st) w x0) : EE Γ μ pc lv (.ref a :: st) w x0 := by
  refine ee_of (fun p e s m args below meth c R α0 b1 b2 Q hF hB hg => ?_) k
  intro H locs cells slots ls cst ⟨α, clv, ws, hα, hP, hD, hS, hw, hls, hlr, hsr, e1, e2⟩
  obtain ⟨a0, rest, rfl, ha0, hs1_⟩ := hsr.r
  obtain ⟨y, hy, cA, ty2, g, hT, rfl, f, rfl, hf⟩ := hw.at ha0 (p_arrR_eq.mp ha)
  have e9 := pz_ty hF.T hT (ty2 := .object "java/lang/Object") rfl
  subst e9
  have hcell := hP a _ hy
  exact va_getC (C := "[Ljava/lang/Object;") hF.x hF.b (by rw [hF.l]; exact hls.1.symm) hF.o (hF.w _ h1) (va_Nw.use rfl (hF.N h2)) (hF.w _ h3) (hF.w _ h4) (hF.w _ h5) (hF.S s hF.E).2.2.2.2.1 ⟨_, hcell, rfl, va_nmO (hF.K.2 4 _ hT).2 (by decide)⟩ (by rw [hF.F]; exact hR.1) (by rw [hs1_.cats, hF.L]; exact hR.2) hd (hg _ _ _ _ _ _ ⟨α, clv, ws, hα, hP, hD, hS, hw, hls, hlr, hs1_.px, e1, e2⟩)
theorem pz_any {p : Program} {s : State} {m : MethodId} {args : Array Value} {meth : Method} {c : Code} {R : Room} {H : Heap} {ws : va_W} {α : List Nat} (hF : pz_Fx Γ μ p s m args meth c R) (hP : va_P (pg_D Γ) vwCl ws H) (hw : pz_wr α (pg_X Γ) (pg_T Γ) w.1 ws) {x a : Nat} (hx : p_elt w x = true) (ha : α[x]? = some a) : va_Any "java/lang/Object" s H a := by
  obtain ⟨ci, fs, hci, hx⟩ := p_elt_eq hx
  obtain ⟨y, hz, gs, rfl, hgs⟩ := hw.at ha hx
  rcases hci with rfl | rfl
  · refine va_rAny hF.K hP hz (r := (R4, T4, 3)) rfl (fun comp c0 g1 g2 => ?_)
    obtain ⟨c3, c4, h3, h4, h5⟩ := Cond.castable_spec (hF.N gw_ca4)
    cases h3.symm.trans g2
    cases h4.symm.trans g1
    exact h5
  · refine va_rAny hF.K hP hz (r := (R8, T8, 5)) rfl (fun comp c0 g1 g2 => ?_)
    obtain ⟨c3, c4, h3, h4, h5⟩ := Cond.castable_spec (hF.N gw_ca8)
    cases h3.symm.trans g2
    cases h4.symm.trans g1
    exact h5
theorem ee_copyR {idx a0 a1 : Nat} {sp dp n : Int32} {K : PW → PX} (hd : decode (pm_cc μ) pc = .ok (.invokestatic idx, 3)) (h1 : Cond.methodLink (pm_own μ) idx arraycopyName ∈ GW) (h2 : Cond.native arraycopyName ∈ GW) (h3 : Cond.static arraycopyName ∈ GW) (h4 : Cond.initialized "java/lang/System" ∈ GW) (hR : 1 ≤ pm_F μ ∧ (st.map fun v => v.category).sum + (nativeFrameWords "java/lang/System" "arraycopy" 5 + 11) ≤ pm_L μ)
    (kk : ∀ w1, p_copyR w a0 sp a1 dp n = some w1 → EE Γ μ (pc + 3) lv st w1 (K w1)) : EE Γ μ pc lv (.int n :: .int dp :: .ref a1 :: .int sp :: .ref a0 :: st) w ((p_copyR w a0 sp a1 dp n).bind K) := by
  refine ee_bind (fun w1 hv => ?_)
  have h9 := kk w1 hv
  unfold p_copyR at hv
  obtain ⟨q0, g1, hv⟩ := Option.bind_eq_some_iff.mp hv
  obtain ⟨q1, g2, hv⟩ := Option.bind_eq_some_iff.mp hv
  split at hv
  · rename_i hc
    cases hv
    obtain ⟨⟨c1, c2, c3, c4, c5⟩, c6⟩ := hc
    refine ee_w ⟨by exact Nat.le_refl _, by exact Nat.le_refl _⟩ (fun p e s m args below meth c R α0 b1 b2 Q hF hB hg => ?_) h9
    intro H locs cells slots ls cst ⟨α, clv, ws, hα, hP, hD, hS, hw, hls, hlr, hsr, e1, e2⟩
    obtain ⟨_, rfl, hs1_⟩ := hsr.i
    obtain ⟨_, rfl, hs2_⟩ := hs1_.i
    obtain ⟨x1, _, rfl, hx1, hs3_⟩ := hs2_.r
    obtain ⟨_, rfl, hs4_⟩ := hs3_.i
    obtain ⟨x0, rest, rfl, hx0, hs5_⟩ := hs4_.r
    obtain ⟨y, hy, cA, ty2, g, hT, rfl, f, rfl, hf⟩ := hw.at hx0 (p_arrR_eq.mp g1)
    obtain ⟨y, hz, cB, ty3, g, hT3, rfl, f3, rfl, hf3⟩ := hw.at hx1 (p_arrR_eq.mp g2)
    have e9 := pz_ty hF.T hT (ty2 := .object "java/lang/Object") rfl
    have e8 := pz_ty hF.T hT3 (ty2 := .object "java/lang/Object") rfl
    subst e9
    subst e8
    refine va_copyM hF.x hF.b (by rw [hF.l]; exact hls.1.symm) hF.o (hF.w _ h1) (hF.w _ h2) (hF.w _ h3) (hF.w _ h4) hF.K hP hD hS a0 a1 4 4 hy hz hT hT3 c1 c2 c3 c4 c5 ?_ (by rw [hF.F]; exact hR.1) (by rw [hs5_.cats, hF.L]; exact hR.2) hd (fun H1 locs1 hP1 hD1 hS1 => hg _ _ _ _ _ _ ⟨α, clv, _, hα, hP1, hD1, hS1, hw.set hx1 ⟨_, _, _, hT3, rfl, _, rfl, pz_cpr hf hf3 _ _ _⟩, hls, hlr, hs5_, e1, e2⟩)
    intro i hi y9 hy9
    have h5 := hf (sp.toNatClampNeg + i)
    have h6 := c6 i hi
    rw [hy9] at h5
    cases h7 : q0.2 (sp.toNatClampNeg + i) with
    | none => rw [h7] at h5; cases h5
    | some x9 =>
      rw [h7] at h5 h6
      obtain ⟨b9, hb9, h8⟩ := h5
      cases h8
      exact pz_any hF hP hw h6 hb9
  · cases hv
end JDKR

