/-! Calls. -/
def p_call (x : PX) (K : Option Value → PW → PX) : PX := match x with
  | some (.inl rv, w1) => K rv w1
  | _ => none
def p_kI (K : Int32 → PW → PX) : Option Value → PW → PX := fun rv w1 => match rv with
  | some (.int v) => K v w1
  | _ => none
def p_kJ (K : Int64 → PW → PX) : Option Value → PW → PX := fun rv w1 => match rv with
  | some (.long v) => K v w1
  | _ => none
def p_kR (K : Nat → PW → PX) : Option Value → PW → PX := fun rv w1 => match rv with
  | some (.ref v) => K v w1
  | _ => none
def p_kV (K : PW → PX) : Option Value → PW → PX := fun rv w1 => match rv with
  | none => K w1
  | _ => none
/-- the words and the room of a method -/
abbrev pm_ws (μ : PM) : List Cond := Cond.code (pm_y μ) (pm_cc μ) (pm_nL μ) (pm_ret μ) :: GW
abbrev pm_rm (μ : PM) (w w1 : PW) : Room := { frames := pm_F μ, locals := pm_L μ, cells := w1.2.1 - w.2.1, slots := w1.2.2 - w.2.2 }
def pz_Pre (Γ : PG) (ws : va_W) (U : State) : Prop := va_P (pg_D Γ) vwCl ws U.heap ∧ va_K (pg_D Γ) vwCl (pg_T Γ) U ∧ (∀ q : Nat, U.heap.size ≤ q → pg_A Γ q) ∧ pg_E Γ U
theorem pz_blind {Γ : PG} {ws : va_W} {cas : List Value} (hM : pz_mv Γ) : FrameBlind (va_Pc cas (pz_Pre Γ ws)) := by
  intro a U g mk h
  obtain ⟨q0, q1, q2, q3, q4⟩ := h
  exact ⟨q0, q1, va_K.moved (u := U) (U := U.calling g mk a) (Vm.Alike.refl U.vm) q2, q3, hM U (U.calling g mk a) q4 (State.WarmedH.refl U) (Nat.le_refl _) (fun _ _ _ => rfl)⟩
/-- a body's judgement is the method's contract -/
theorem pz_met {Γ : PG} {μ : PM} {as cas : List Value} {w w1 : PW} {x : PX} {rv : Option Value} {α : List Nat} {ws : va_W} (hE : EE Γ μ 0 (lv_args 0 as) [] w x) (hx : x = some (.inl rv, w1))
    (hT : (pg_T Γ).map (fun q => q.2) = pz_TYS) (hM : pz_mv Γ) (hS : ∀ U : State, pg_E Γ U → pz_ext (pg_l Γ) (pg_A Γ) (pg_X Γ) (pg_S Γ) U)
    (hw : pz_wr α (pg_X Γ) (pg_T Γ) w.1 ws) (hD : va_D (pg_A Γ) ws) (has : pz_sr α (pg_X Γ) as cas) (hy : plainName (pm_y μ).cls = true ∧ (pm_y μ).cls = pm_own μ) (hn : (lg_sl as).length ≤ pm_nL μ) :
    Met (pg_l Γ) (pm_y μ) (pm_ws μ) (pm_rm μ w w1) (va_Pc cas (pz_Pre Γ ws)) (pz_Qc Γ α rv w1) (w1.2.1 - w.2.1) (w1.2.2 - w.2.2) (pg_A Γ) := by
  refine Met.ofW (cc := pm_cc μ) (maxL := pm_nL μ) (ret := pm_ret μ) hy.1 rfl ?_
  intro p e s m args below meth c s₁ B hml hv
  obtain ⟨rfl, hP, hK, hA, hX⟩ := hv
  obtain ⟨h1, h2, h3⟩ := hE _ _ hx
  have hts := atoms_spec (ws := pm_ws μ) B.pre
  have hl := lv_entry cas (n := pm_nL μ) (by rw [pz_sl has]; exact hn)
  have hown : s.vm.findClass (pm_own μ) = some m.cls := by rw [← hy.2]; exact findClass_of_methodNamed B.named
  rw [lg_entry_eq]
  refine h3 p e s m cas.toArray below meth c _ α w.2.1 w.2.2 _ ⟨B.exec, B.bytes, B.returns, hml, fun w9 h9 => hts w9 (List.mem_cons_of_mem _ h9), hown, B.notSynchronized, hK, hA, hX, rfl, rfl, (name_of_methodNamed B.named B.method).1, B.named, hT, hM, hS⟩ ⟨?_, ?_, fun t h => h⟩ _ _ _ _ _ _ ⟨α, _, ws, pz_le.rf, hP, hD, va_S.rf, hw, hl, pz_args 0 has, trivial, rfl, rfl⟩
  · show w1.2.1 ≤ w.2.1 + (w1.2.1 - w.2.1)
    omega
  · show w1.2.2 ≤ w.2.2 + (w1.2.2 - w.2.2)
    omega
theorem g_call {Γ : PG} {p : Program} {e : Env} {R : Room} {s : State} {m : MethodId} {args : Array Value} {below : List Frame} {meth : Method} {c : Code} {H : Heap} {locs : List Loc} {cells slots mc ms : Nat} {Q : State → Prop} {pc : Nat} {ls : Array Slot} {rest st0 : List Value} {a : Array Value} {α : List Nat} {rv : Option Value} {w1 : PW}
    (hr : va_Run p (pg_l Γ) e R s m args below meth c H locs cells slots mc ms (F0 m pc ls st0) rest (pz_Qc Γ α rv w1 a) (pg_A Γ)) (hS : va_S (pg_A Γ) s.heap H locs)
    (kk : ∀ (cv : Option Value) (α' : List Nat) (ws' : va_W) (H1 : Heap) (locs1 : List Loc), pz_ov α' (pg_X Γ) rv cv → pz_le α α' → va_P (pg_D Γ) vwCl ws' H1 → va_D (pg_A Γ) ws' → pz_wr α' (pg_X Γ) (pg_T Γ) w1.1 ws' → va_S (pg_A Γ) s.heap H1 locs1 → W p (pg_l Γ) e R s m args below meth c H1 locs1 (cells + mc) (slots + ms) Q (F0 m (pc + 3) ls (cv.toList ++ rest))) :
    W p (pg_l Γ) e R s m args below meth c H locs cells slots Q (F0 m pc ls st0) := by
  intro T hT X
  obtain ⟨v, st₀, t, T', L, h0, X', hL, e1, e2, ⟨⟨cv, α', ws', hv, g1, g2, g3, g4, g5⟩, hz, hk⟩, st⟩ := hr T hT X
  cases hv
  rw [h0] at hz hk
  obtain ⟨t2, a1, b1⟩ := kk v α' ws' T'.heap (locs ++ L) g1 g2 (by rw [e1]; exact g3) g4 g5
    ⟨Nat.le_trans hS.1 (by rw [e1]; exact hz), fun q h1 h2 => by rw [e1, hk q (Nat.lt_of_lt_of_le h1 hS.1) h2]; exact hS.2.1 q h1 h2, fun q hq => by
      rcases List.mem_append.mp hq with h | h
      · exact hS.2.2 q h
      · exact hL q h⟩ T' rfl X'
  exact ⟨t2, st t2 a1, b1⟩
theorem goodIn_gw {ws : List Cond} (h : ∀ w ∈ ws, w ∈ GW) : GoodIn GW ws := fun w hw => ⟨h w hw, pz_good w (h w hw)⟩
def pz_my (μ : PM) : Prop := plainName (pm_y μ).cls = true ∧ (pm_y μ).cls = pm_own μ ∧ ((pm_y μ).cls ≠ "java/lang/invoke/MethodHandle" ∧ (pm_y μ).cls ≠ "java/lang/invoke/VarHandle") ∧ Cond.code (pm_y μ) (pm_cc μ) (pm_nL μ) (pm_ret μ) ∈ GW ∧ Cond.initialized (pm_y μ).cls ∈ GW
/-- how many arguments -/
def pz_na (μ : PM) (n : Nat) : Prop := (parseMethodDescriptor (pm_y μ).desc).map (fun d => d.parameters.length) = some n
theorem pz_wsin {μ : PM} (h : pz_my μ) : ∀ w ∈ pm_ws μ, w ∈ GW := by
  intro w hw
  rcases List.mem_cons.mp hw with rfl | h9
  · exact h.2.2.2.1
  · exact h9
section CALLS
variable {Γ : PG} {μ ν : PM} {pc : Nat} {lv : List (Nat × Value)} {st : List Value} {w : PW} {x1 : PX} {K : Option Value → PW → PX}
/-- what every call has in common: from the run of the callee to the caller's judgement -/
theorem ee_call {as stk : List Value}
    (hE : EE Γ ν 0 (lv_args 0 as) [] w x1) (hy : pz_my ν) (hn : (lg_sl as).length ≤ pm_nL ν)
    (hrun : ∀ (p : Program) (e : Env) (s : State) (m : MethodId) (args : Array Value) (below : List Frame) (meth : Method) (c : Code) (R : Room) (H : Heap) (locs : List Loc) (cells slots : Nat) (ls : Array Slot) (cst : List Value) (α : List Nat) (ws : va_W) (rv : Option Value) (w1 : PW),
      pz_Fx Γ μ p s m args meth c R → va_P (pg_D Γ) vwCl ws H → va_D (pg_A Γ) ws → va_S (pg_A Γ) s.heap H locs → pz_wr α (pg_X Γ) (pg_T Γ) w.1 ws → ls.size = pm_nL μ → pz_sr α (pg_X Γ) stk cst →
      (∀ cas, pz_sr α (pg_X Γ) as cas → Met (pg_l Γ) (pm_y ν) (pm_ws ν) (pm_rm ν w w1) (va_Pc cas (pz_Pre Γ ws)) (pz_Qc Γ α rv w1) (w1.2.1 - w.2.1) (w1.2.2 - w.2.2) (pg_A Γ)) →
      cells + (w1.2.1 - w.2.1) ≤ R.cells → slots + (w1.2.2 - w.2.2) ≤ R.slots →
      ∃ (rest : List Value) (a : Array Value), pz_sr α (pg_X Γ) st rest ∧ va_Run p (pg_l Γ) e R s m args below meth c H locs cells slots (w1.2.1 - w.2.1) (w1.2.2 - w.2.2) (F0 m pc ls cst) rest (pz_Qc Γ α rv w1 a) (pg_A Γ))
    (kk : ∀ rv w1, x1 = some (.inl rv, w1) → EE Γ μ (pc + 3) lv (rv.toList ++ st) w1 (K rv w1)) : EE Γ μ pc lv stk w (p_call x1 K) := by
  intro r w' h
  unfold p_call at h
  match x1, hE, kk, h with
  | some (.inl rv, w1), hE, kk, h =>
    obtain ⟨k1, k2, k3⟩ := kk rv w1 rfl r w' h
    obtain ⟨c1, c2, -⟩ := hE _ _ rfl
    refine ⟨Nat.le_trans c1 k1, Nat.le_trans c2 k2, fun p e s m args below meth c R α0 b1 b2 Q hF hQ => ?_⟩
    have hG := k3 p e s m args below meth c R α0 b1 b2 Q hF hQ
    have hQ1 := hQ.1
    have hQ2 := hQ.2.1
    intro H locs cells slots ls cst ⟨α, clv, ws, hα, hP, hD, hS, hw, hls, hlr, hsr, e1, e2⟩
    obtain ⟨rest, a, hrest, hr⟩ := hrun p e s m args below meth c R H locs cells slots ls cst α ws rv w1 hF hP hD hS hw hls.1 hsr (fun cas hcas => pz_met hE rfl hF.T hF.M hF.S hw hD hcas ⟨hy.1, hy.2.1⟩ hn) (by omega) (by omega)
    refine g_call hr hS (fun cv α' ws' H1 locs1 g1 g2 g3 g4 g5 g6 => ?_)
    exact hG _ _ _ _ _ _ ⟨α', clv, ws', hα.tr g2, g3, g4, g6, g5, hls, hlr.mono g2, (hrest.mono g2).app g1, by omega, by omega⟩
  | none, _, _, h => cases h
  | some (.inr _, _), _, _, h => cases h
theorem pz_pre {p : Program} {s : State} {m : MethodId} {args : Array Value} {meth : Method} {c : Code} {R : Room} {H : Heap} {locs : List Loc} {ws : va_W} (hF : pz_Fx Γ μ p s m args meth c R) (hP : va_P (pg_D Γ) vwCl ws H) (hS : va_S (pg_A Γ) s.heap H locs) : ∀ U : State, U.heap = H → s.WarmedH U.vm → pz_Pre Γ ws U := by
  intro U hU hW
  subst hU
  exact ⟨hP, va_K.moved hW.alike hF.K, fun q hq => hF.A q (Nat.le_trans hS.1 hq), hF.M s U hF.E hW hS.1 (fun q h1 h2 => hS.2.1 q h1 h2)⟩
theorem ee_callV {idx b ci n : Nat} {as : List Value} {C : String} {T : u_T} {N : Nat} {fs : List Value} (hd : decode (pm_cc μ) pc = .ok (.invokevirtual idx, 3)) (hE : EE Γ ν 0 (lv_args 0 (.ref b :: as)) [] w x1) (hy : pz_my ν) (hn : (lg_sl (.ref b :: as)).length ≤ pm_nL ν) (hna : pz_na ν n) (hal : as.length = n)
    (hc : vwCl[ci]? = some (C, T, N)) (hC : (pm_y ν).cls = C) (hob : w.1[b]? = some (.inr (ci, fs)))
    (h1 : Cond.methodLink (pm_own μ) idx (pm_y ν) ∈ GW) (h2 : Cond.instanceMethod (pm_y ν) ∈ GW) (h3 : Cond.selects C (pm_y ν) (pm_y ν) ∈ GW)
    (hR : pm_F ν + 1 ≤ pm_F μ ∧ 8 + (pm_nL ν + 11) + pm_L ν ≤ pm_L μ) (hst : (st.map fun v => v.category).sum ≤ 8)
    (kk : ∀ rv w1, x1 = some (.inl rv, w1) → EE Γ μ (pc + 3) lv (rv.toList ++ st) w1 (K rv w1)) : EE Γ μ pc lv (as.reverse ++ .ref b :: st) w (p_call x1 K) := by
  refine ee_call hE hy hn ?_ kk
  intro p e s m args below meth c R H locs cells slots ls cst α ws rv w1 hF hP hD hS hw hls hsr hMet hc1 hc2
  obtain ⟨l1, k1, rfl, hs1, hs2⟩ := hsr.split
  obtain ⟨a, rest, rfl, hb, hs3⟩ := hs2.r
  have has : pz_sr α (pg_X Γ) as l1.reverse := by
    have h9 := hs1.rev
    rwa [List.reverse_reverse] at h9
  obtain ⟨y, hy9, gs, rfl, hgs⟩ := hw.at hb hob
  refine ⟨rest, _, hs3, va_runV (As := l1.reverse) (rest := rest) (C := C) ⟨hF.x, hF.b, hF.l, hF.o, hF.w⟩ (hMet (.ref a :: l1.reverse) (has.pr hb)) (cwV n hF.w (goodIn_gw ?_) rfl rfl rfl ⟨hC, hy.2.2.1.1, hy.2.2.1.2, hna⟩ (by rw [hF.F, hF.L]; exact hR)) ⟨pz_blind hF.M, va_recv hF.K hP hc hy9, fun U hU hW => ⟨rfl, pz_pre hF hP hS U hU hW⟩⟩ rfl (by rw [has.len]; exact hal) hls (by rw [List.reverse_reverse]) (lv_room (by rw [hs3.cats]; exact hst)) hd ⟨hc1, hc2⟩⟩
  intro w9 h9
  unfold wsV at h9
  rcases List.mem_append.mp h9 with h9 | h9
  · simp only [List.mem_cons, List.not_mem_nil, or_false] at h9
    rcases h9 with rfl | rfl | rfl | rfl
    · exact h1
    · exact h2
    · exact h3
    · rw [← hC]; exact hy.2.2.2.2
  · exact pz_wsin hy w9 h9
theorem ee_callI {idx b n : Nat} {as : List Value} (hd : decode (pm_cc μ) pc = .ok (.invokespecial idx, 3)) (hE : EE Γ ν 0 (lv_args 0 (.ref b :: as)) [] w x1) (hy : pz_my ν) (hn : (lg_sl (.ref b :: as)).length ≤ pm_nL ν) (hna : pz_na ν n) (hal : as.length = n) (hi : (pm_y ν).name = "<init>") (hv : pm_ret ν = none)
    (h1 : Cond.methodLink (pm_own μ) idx (pm_y ν) ∈ GW) (h2 : Cond.instanceMethod (pm_y ν) ∈ GW)
    (hR : pm_F ν + 1 ≤ pm_F μ ∧ 8 + (pm_nL ν + 11) + pm_L ν ≤ pm_L μ) (hst : (st.map fun v => v.category).sum ≤ 8)
    (kk : ∀ rv w1, x1 = some (.inl rv, w1) → EE Γ μ (pc + 3) lv (rv.toList ++ st) w1 (K rv w1)) : EE Γ μ pc lv (as.reverse ++ .ref b :: st) w (p_call x1 K) := by
  refine ee_call hE hy hn ?_ kk
  intro p e s m args below meth c R H locs cells slots ls cst α ws rv w1 hF hP hD hS hw hls hsr hMet hc1 hc2
  obtain ⟨l1, k1, rfl, hs1, hs2⟩ := hsr.split
  obtain ⟨a, rest, rfl, hb, hs3⟩ := hs2.r
  have has : pz_sr α (pg_X Γ) as l1.reverse := by
    have h9 := hs1.rev
    rwa [List.reverse_reverse] at h9
  refine ⟨rest, _, hs3, va_runI (As := l1.reverse) (rest := rest) ⟨hF.x, hF.b, hF.l, hF.o, hF.w⟩ (hMet (.ref a :: l1.reverse) (has.pr hb)) (cwI n hF.w (goodIn_gw (pz_wsin hy)) (show pm_ws ν = Cond.code (pm_y ν) (pm_cc ν) (pm_nL ν) none :: GW by rw [← hv]) rfl rfl (hF.w _ hy.2.2.2.2) (hF.w _ h1) (hF.w _ h2) hi ⟨hy.2.2.1.1, hy.2.2.1.2, hna⟩ (by rw [hF.F, hF.L]; exact hR)) ⟨pz_blind hF.M, fun U hU hW => ⟨rfl, pz_pre hF hP hS U hU hW⟩⟩ rfl (by rw [has.len]; exact hal) hls (by rw [List.reverse_reverse]) (lv_room (by rw [hs3.cats]; exact hst)) hd ⟨hc1, hc2⟩⟩
theorem ee_callS {idx n : Nat} {as : List Value} (hd : decode (pm_cc μ) pc = .ok (.invokestatic idx, 3)) (hE : EE Γ ν 0 (lv_args 0 as) [] w x1) (hy : pz_my ν) (hn : (lg_sl as).length ≤ pm_nL ν) (hna : pz_na ν n) (hal : as.length = n)
    (h1 : Cond.methodLink (pm_own μ) idx (pm_y ν) ∈ GW) (h2 : Cond.static (pm_y ν) ∈ GW)
    (hR : pm_F ν + 1 ≤ pm_F μ ∧ 8 + (pm_nL ν + 11) + pm_L ν ≤ pm_L μ) (hst : (st.map fun v => v.category).sum ≤ 8)
    (kk : ∀ rv w1, x1 = some (.inl rv, w1) → EE Γ μ (pc + 3) lv (rv.toList ++ st) w1 (K rv w1)) : EE Γ μ pc lv (as.reverse ++ st) w (p_call x1 K) := by
  refine ee_call hE hy hn ?_ kk
  intro p e s m args below meth c R H locs cells slots ls cst α ws rv w1 hF hP hD hS hw hls hsr hMet hc1 hc2
  obtain ⟨l1, rest, rfl, hs1, hs3⟩ := hsr.split
  have has : pz_sr α (pg_X Γ) as l1.reverse := by
    have h9 := hs1.rev
    rwa [List.reverse_reverse] at h9
  refine ⟨rest, _, hs3, va_runS (As := l1.reverse) (rest := rest) ⟨hF.x, hF.b, hF.l, hF.o, hF.w⟩ (hMet l1.reverse has) (va_cwS n hF.w (goodIn_gw ?_) rfl rfl rfl ⟨hy.2.2.1.1, hy.2.2.1.2, hna⟩ (by rw [hF.F, hF.L]; exact hR)) ⟨pz_blind hF.M, fun U hU hW => ⟨rfl, pz_pre hF hP hS U hU hW⟩⟩ rfl (by rw [has.len]; exact hal) hls (by rw [List.reverse_reverse]) (lv_room (by rw [hs3.cats]; exact hst)) hd ⟨hc1, hc2⟩⟩
  intro w9 h9
  unfold va_wsS at h9
  rcases List.mem_append.mp h9 with h9 | h9
  · simp only [List.mem_cons, List.not_mem_nil, or_false] at h9
    rcases h9 with rfl | rfl | rfl
    · exact h1
    · exact h2
    · exact hy.2.2.2.2
  · exact pz_wsin hy w9 h9
theorem ee_kI {rv : Option Value} {K : Int32 → PW → PX} (k : ∀ v, EE Γ μ pc lv (.int v :: st) w (K v w)) : EE Γ μ pc lv (rv.toList ++ st) w (p_kI K rv w) := by
  match rv with
  | some (.int v) => exact k v
  | none => exact ee_none
  | some (.long v) => exact ee_none
  | some (.float v) => exact ee_none
  | some (.double v) => exact ee_none
  | some .null => exact ee_none
  | some (.ref v) => exact ee_none
  | some (.retAddr v) => exact ee_none
theorem ee_kJ {rv : Option Value} {K : Int64 → PW → PX} (k : ∀ v, EE Γ μ pc lv (.long v :: st) w (K v w)) : EE Γ μ pc lv (rv.toList ++ st) w (p_kJ K rv w) := by
  match rv with
  | some (.long v) => exact k v
  | none => exact ee_none
  | some (.int v) => exact ee_none
  | some (.float v) => exact ee_none
  | some (.double v) => exact ee_none
  | some .null => exact ee_none
  | some (.ref v) => exact ee_none
  | some (.retAddr v) => exact ee_none
theorem ee_kR {rv : Option Value} {K : Nat → PW → PX} (k : ∀ v, EE Γ μ pc lv (.ref v :: st) w (K v w)) : EE Γ μ pc lv (rv.toList ++ st) w (p_kR K rv w) := by
  match rv with
  | some (.ref v) => exact k v
  | none => exact ee_none
  | some (.int v) => exact ee_none
  | some (.float v) => exact ee_none
  | some (.double v) => exact ee_none
  | some .null => exact ee_none
  | some (.long v) => exact ee_none
  | some (.retAddr v) => exact ee_none
theorem ee_kV {rv : Option Value} {K : PW → PX} (k : EE Γ μ pc lv st w (K w)) : EE Γ μ pc lv (rv.toList ++ st) w (p_kV K rv w) := by
  match rv with
  | none => exact k
  | some _ => exact ee_none
end CALLS

