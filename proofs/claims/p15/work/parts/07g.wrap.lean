/-! Calls with handlers around them, and of methods with handlers. -/
def p_kX : List (String × (PW → PX)) → String → PW → PX
  | [], _, _ => none
  | q :: t, E, w => if E = q.1 then q.2 w else p_kX t E w
def p_callX (x : PX) (K : Option Value → PW → PX) (KL : List (String × (PW → PX))) : PX := match x with
  | some (.inl rv, w1) => K rv w1
  | some (.inr E, w1) => p_kX KL E w1
  | none => none
theorem p_kX_some {E : String} {w : PW} {y : PR × PW} : ∀ {KL : List (String × (PW → PX))}, p_kX KL E w = some y → ∃ q ∈ KL, q.1 = E ∧ q.2 w = some y
  | [], h => nomatch h
  | q :: t, h => by
    unfold p_kX at h
    by_cases e : E = q.1
    · rw [if_pos e] at h
      exact ⟨q, List.mem_cons_self, e.symm, h⟩
    · rw [if_neg e] at h
      obtain ⟨q', h1, h2⟩ := p_kX_some h
      exact ⟨q', List.mem_cons_of_mem _ h1, h2⟩
/-- which handler takes E, by the words -/
def pz_hit (own E : String) (pc : Nat) : List (Nat × Nat × Nat × Nat) → Nat → Prop
  | [], _ => False
  | q :: t, hp => (q.1 ≤ pc ∧ pc < q.2.1 ∧ q.2.2.2 ≠ 0) ∧ ∃ nm, Cond.classLink own q.2.2.2 nm ∈ GW ∧ ((Cond.castable E nm ∈ NW ∧ q.2.2.1 = hp) ∨ ((E, nm) ∈ pz_NC ∧ pz_hit own E pc t hp))
theorem pz_hit.tab {Γ : PG} {μ : PM} {p : Program} {s : State} {m : MethodId} {args : Array Value} {meth : Method} {c : Code} {R : Room} (hF : pz_Fx Γ μ p s m args meth c R) {E : String} {pc hp : Nat} : ∀ {tab : List ExceptionTableEntry} {hh : List (Nat × Nat × Nat × Nat)}, tab.map (fun h => (h.startPc, h.endPc, h.handlerPc, h.catchType)) = hh → pz_hit (pm_own μ) E pc hh hp → pz_tab' s args (pm_own μ) E pc tab hp
  | [], [], _, h => h.elim
  | x :: t, q :: hh, e, h => by
    rw [List.map_cons] at e
    obtain ⟨e1, e2⟩ := List.cons.inj e
    subst e1
    obtain ⟨⟨h1, h2, h3⟩, nm, h4, h5⟩ := h
    refine ⟨by simp only [covers, Bool.and_eq_true, decide_eq_true_eq]; exact ⟨h1, h2⟩, h3, nm, hF.w _ h4, ?_⟩
    rcases h5 with ⟨h5, h6⟩ | ⟨h5, h6⟩
    · exact Or.inl ⟨hF.N h5, h6⟩
    · obtain ⟨-, -, -, -, -, -, -, -, -, -, -, -, hNC, -⟩ := hF.S s hF.E
      exact Or.inr ⟨hNC _ h5, pz_hit.tab hF e2 h6⟩
  | [], _ :: _, e, _ => nomatch e
  | _ :: _, [], e, _ => nomatch e
section WRAP
variable {Γ : PG} {μ ν : PM} {pc : Nat} {lv : List (Nat × Value)} {st : List Value} {w : PW} {x0 x1 : PX} {K : Option Value → PW → PX} {KL : List (String × (PW → PX))}
theorem ee_callVX {idx b ci n : Nat} {as : List Value} {C : String} {T : u_T} {N nL : Nat} {fs : List Value} {ret : Option FieldType} {hh : List (Nat × Nat × Nat × Nat)} (hd : decode (pm_cc μ) pc = .ok (.invokevirtual idx, 3)) (hE : EE Γ ν 0 (lv_args 0 (.ref b :: as)) [] w x1) (hy : pz_my ν) (hn : (lg_sl (.ref b :: as)).length ≤ pm_nL ν) (hna : pz_na ν n) (hal : as.length = n)
    (hc : vwCl[ci]? = some (C, T, N)) (hC : (pm_y ν).cls = C) (hob : w.1[b]? = some (.inr (ci, fs)))
    (h1 : Cond.methodLink (pm_own μ) idx (pm_y ν) ∈ GW) (h2 : Cond.instanceMethod (pm_y ν) ∈ GW) (h3 : Cond.selects C (pm_y ν) (pm_y ν) ∈ GW)
    (hR : pm_F ν + 1 ≤ pm_F μ ∧ 8 + (pm_nL ν + 11) + pm_L ν ≤ pm_L μ) (hst : (st.map fun v => v.category).sum ≤ 8)
    (hcw : Cond.codeWith (pm_y μ) (pm_cc μ) nL ret hh ∈ GW) (hx : ∀ q ∈ KL, ∃ hp, pz_hit (pm_own μ) q.1 pc hh hp ∧ ∀ w1, EE Γ μ hp lv [.float 0] w1 (q.2 w1))
    (kk : ∀ rv w1, x1 = some (.inl rv, w1) → EE Γ μ (pc + 3) lv (rv.toList ++ st) w1 (K rv w1)) : EE Γ μ pc lv (as.reverse ++ .ref b :: st) w (p_callX x1 K KL) := by
  match x1, hE, kk with
  | none, _, _ => exact ee_none
  | some (.inl rv, w1), hE, kk => exact ee_callV hd hE hy hn hna hal hc hC hob h1 h2 h3 hR hst kk
  | some (.inr E, w1), hE, _ =>
    intro r w' h
    obtain ⟨q, hq, rfl, hkx⟩ := p_kX_some (show p_kX KL E w1 = some (r, w') from h)
    obtain ⟨hp, hit, hEE⟩ := hx q hq
    obtain ⟨k1, k2, k3⟩ := hEE w1 r w' hkx
    obtain ⟨c1, c2, -⟩ := hE _ _ rfl
    refine ⟨Nat.le_trans c1 k1, Nat.le_trans c2 k2, fun p e s m args below meth c R α0 b1 b2 Q hF hQ => ?_⟩
    have hG := k3 p e s m args below meth c R α0 b1 b2 Q hF hQ
    have hQ1 := hQ.1
    have hQ2 := hQ.2.1
    intro H locs cells slots ls cst ⟨α, clv, ws, hα, hP, hD, hS, hw, hls, hlr, hsr, e1, e2⟩
    obtain ⟨l1, k9, rfl, hs1, hs2⟩ := hsr.split
    obtain ⟨a, rest, rfl, hb, hs3⟩ := hs2.r
    have has : pz_sr α (pg_X Γ) as l1.reverse := by
      have h9 := hs1.rev
      rwa [List.reverse_reverse] at h9
    obtain ⟨y, hy9, gs, rfl, hgs⟩ := hw.at hb hob
    intro T hT X
    subst hT
    have htb : pz_tab' s args (pm_own μ) q.1 pc c.exceptionTable.toList hp := by
      obtain ⟨m9, meth9, c9, g1, g2, g3, g4, g5, g6, -⟩ := Cond.codeWith_spec (hF.w _ hcw)
      cases hF.I.symm.trans g1
      cases X.method.symm.trans g2
      cases X.code.symm.trans g3
      exact pz_hit.tab hF g6 hit
    obtain ⟨mk, methM, hnamed, hmethM, hstM, habM⟩ := Cond.instanceMethod_spec (hF.w _ h2)
    obtain ⟨methM', cM, hmethM', -, -, -, -, -, -, hsigM⟩ := Cond.code_spec hnamed (hF.w _ hy.2.2.2.1)
    cases hmethM.symm.trans hmethM'
    obtain ⟨cS, rS, mS, q1, q2, q3, q4, kP, hkP, hkPi⟩ := Cond.selects_spec (hF.w _ h3)
    obtain ⟨cellB, hcB, hoB, hclB⟩ := va_recv hF.K hP hc hy9
    cases hclB.symm.trans q1
    cases (State.methodFound?_of_named hnamed hy.2.2.1).symm.trans q2
    cases hnamed.symm.trans q3
    have hselP : selectMethod e.platform s.vm cellB.cls mk = .method mk := by rw [Launch.admits_selectMethod X.admits]; exact q4
    have hlen : l1.reverse.length = methM.sig.parameters.length := by
      have h8 := hna
      unfold pz_na at h8
      rw [hsigM] at h8
      rw [has.len, hal]
      exact (Option.some.inj h8).symm
    obtain ⟨vm₁, X₁, hstep₁⟩ := X.invokevirtual hF.x hF.o (hF.w _ h1) hnamed hmethM hstM hkP hkPi hy.2.2.1 (a := a) (cell := cellB) hcB (fun z h => by rw [h] at hoB; cases hoB) hselP hmethM habM hkP hkPi (g := F0 m pc ls (l1 ++ .ref a :: rest)) rfl (argsL := l1.reverse) (rest := rest) hlen (by rw [List.reverse_reverse]) (by rw [hF.b]; exact hd)
    have hpre1 := pz_pre hF hP hS (T.setVm vm₁) rfl X₁.warmed
    have hwords : ∀ w9 ∈ pm_ws ν, ∀ a' : Array Value, w9.before a' (T.setVm vm₁) = true := fun w9 h9 a' => word_at X₁.warmed (pz_good w9 (pz_wsin hy w9 h9)) (hF.w w9 (pz_wsin hy w9 h9))
    obtain ⟨qa, t, L, g', hthr, hLA, X', -, hsteps⟩ := pz_invX X₁ (S := headSpec (pm_ws ν) (pm_rm ν w w1)) (W9 := 8) (len := 3) (mc := w1.2.1 - w.2.1) (ms := w1.2.2 - w.2.2) (bytes := pm_cc ν) (maxL := pm_nL ν) (ret := pm_ret ν) (FL := fun L => ∀ z ∈ L, pg_A Γ z.base) (Q := fun q9 st9 t9 => pz_ThrQ Γ α q.1 w1 (w1.2.1 - w.2.1) (w1.2.2 - w.2.2) st9 q9 t9) (pz_metX hE rfl hF.T hF.M hF.S hw hD (cas := .ref a :: l1.reverse) (has.pr hb) ⟨hy.1, hy.2.1⟩ hn) (by rw [hF.F]; exact hR.1) (by rw [hF.L]; exact hR.2) (by show cells + (w1.2.1 - w.2.1) ≤ R.cells; omega) (by show slots + (w1.2.2 - w.2.2) ≤ R.slots; omega) (g := F0 m pc ls rest) (ig := .invokevirtual idx) (mk := mk) (a := (Value.ref a :: l1.reverse).toArray) rfl (by rw [hF.l]; exact hls.1) (by rw [hF.b]; exact hd) (lv_room (by rw [hs3.cats]; exact hst)) (X₁.named hnamed) (atoms_intro fun w9 h9 => hwords w9 h9 _) (hwords _ List.mem_cons_self _) (hwords _ (List.mem_cons_of_mem _ hy.2.2.2.2) _) (fun g9 => pz_blind hF.M _ _ g9 mk ⟨rfl, hpre1⟩) (fun q9 st9 t9 h9 => by
      obtain ⟨ce9, L9, _, _, _, _, _, j1, j2, j3, _⟩ := h9
      exact ⟨L9, j3, j1, j2⟩)
    obtain ⟨ce, L9, α', ws', t1, t2, t3, t4, t5, t6, t7, t8, t9, t10, t11⟩ := hthr
    have t3' : s.vm.findClass q.1 = some ce.cls := by
      have h9 : (T.setVm vm₁).vm.findClass q.1 = some ce.cls := t3
      rw [X₁.warmed.alike.findClass] at h9
      exact h9
    obtain ⟨vm2, X2, st2⟩ := pz_caught X' hF.o (g := F0 m pc ls rest) rfl (a := qa) (cell := ce) t1 t2 t3' htb
    have hS' : va_S (pg_A Γ) s.heap t.heap (locs ++ L) := by
      obtain ⟨f1, f2⟩ := t11
      have f1' : T.heap.size ≤ t.heap.size := f1
      have f2' : ∀ q : Nat, q < T.heap.size → ¬ pg_A Γ q → t.heap[q]? = T.heap[q]? := f2
      refine ⟨Nat.le_trans hS.1 f1', fun q9 z1 z2 => (f2' q9 (Nat.lt_of_lt_of_le z1 hS.1) z2).trans (hS.2.1 q9 z1 z2), fun z hz => ?_⟩
      rcases List.mem_append.mp hz with hz | hz
      · exact hS.2.2 z hz
      · exact hLA z hz
    obtain ⟨u, u1, u2⟩ := hG t.heap (locs ++ L) (cells + (w1.2.1 - w.2.1)) (slots + (w1.2.2 - w.2.2)) ls [.ref qa] ⟨α', clv, ws', hα.tr t7, t8, t9, hS', t10, hls, hlr.mono t7, ⟨⟨qa, rfl⟩, trivial⟩, by omega, by omega⟩ _ (by exact rfl) X2
    exact ⟨u, hstep₁ _ fun acts => by rw [doInvoke_state]; exact hsteps.trans (st2.trans u1), u2⟩
/-- the words of a method with handlers -/
abbrev pm_wsW (μ : PM) (hh : List (Nat × Nat × Nat × Nat)) : List Cond := Cond.codeWith (pm_y μ) (pm_cc μ) (pm_nL μ) (pm_ret μ) hh :: GW
theorem pz_metW {as cas : List Value} {w1 : PW} {x : PX} {rv : Option Value} {α : List Nat} {ws : va_W} {hh : List (Nat × Nat × Nat × Nat)} (hE : EE Γ μ 0 (lv_args 0 as) [] w x) (hx : x = some (.inl rv, w1))
    (hT : (pg_T Γ).map (fun q => q.2) = pz_TYS) (hM : pz_mv Γ) (hS : ∀ U : State, pg_E Γ U → pz_ext (pg_l Γ) (pg_A Γ) (pg_X Γ) (pg_S Γ) U)
    (hw : pz_wr α (pg_X Γ) (pg_T Γ) w.1 ws) (hD : va_D (pg_A Γ) ws) (has : pz_sr α (pg_X Γ) as cas) (hy : plainName (pm_y μ).cls = true ∧ (pm_y μ).cls = pm_own μ) (hn : (lg_sl as).length ≤ pm_nL μ) :
    Met (pg_l Γ) (pm_y μ) (pm_wsW μ hh) (pm_rm μ w w1) (va_Pc cas (pz_Pre Γ ws)) (pz_Qc Γ α rv w1) (w1.2.1 - w.2.1) (w1.2.2 - w.2.2) (pg_A Γ) := by
  refine va_MetW (cc := pm_cc μ) (maxL := pm_nL μ) (ret := pm_ret μ) (hh := hh) hy.1 rfl ?_
  intro p e s m args below meth c s₁ B hml hv
  obtain ⟨rfl, hP, hK, hA, hX⟩ := hv
  obtain ⟨h1, h2, h3⟩ := hE _ _ hx
  have hts := atoms_spec (ws := pm_wsW μ hh) B.pre
  have hl := lv_entry cas (n := pm_nL μ) (by rw [pz_sl has]; exact hn)
  have hown : s.vm.findClass (pm_own μ) = some m.cls := by rw [← hy.2]; exact findClass_of_methodNamed B.named
  rw [lg_entry_eq]
  refine h3 p e s m cas.toArray below meth c _ α w.2.1 w.2.2 _ ⟨B.exec, B.bytes, B.returns, hml, fun w9 h9 => hts w9 (List.mem_cons_of_mem _ h9), hown, B.notSynchronized, hK, hA, hX, rfl, rfl, (name_of_methodNamed B.named B.method).1, B.named, hT, hM, hS⟩ ⟨?_, ?_, fun t h => h⟩ _ _ _ _ _ _ ⟨α, _, ws, pz_le.rf, hP, hD, va_S.rf, hw, hl, pz_args 0 has, trivial, rfl, rfl⟩
  · show w1.2.1 ≤ w.2.1 + (w1.2.1 - w.2.1)
    omega
  · show w1.2.2 ≤ w.2.2 + (w1.2.2 - w.2.2)
    omega
theorem ee_callSW {idx n : Nat} {as : List Value} {hh : List (Nat × Nat × Nat × Nat)} (hd : decode (pm_cc μ) pc = .ok (.invokestatic idx, 3)) (hE : EE Γ ν 0 (lv_args 0 as) [] w x1) (hy : plainName (pm_y ν).cls = true ∧ (pm_y ν).cls = pm_own ν ∧ ((pm_y ν).cls ≠ "java/lang/invoke/MethodHandle" ∧ (pm_y ν).cls ≠ "java/lang/invoke/VarHandle")) (hcw : Cond.codeWith (pm_y ν) (pm_cc ν) (pm_nL ν) (pm_ret ν) hh ∈ GW) (hini : Cond.initialized (pm_y ν).cls ∈ GW) (hn : (lg_sl as).length ≤ pm_nL ν) (hna : pz_na ν n) (hal : as.length = n)
    (h1 : Cond.methodLink (pm_own μ) idx (pm_y ν) ∈ GW) (h2 : Cond.static (pm_y ν) ∈ GW)
    (hR : pm_F ν + 1 ≤ pm_F μ ∧ 8 + (pm_nL ν + 11) + pm_L ν ≤ pm_L μ) (hst : (st.map fun v => v.category).sum ≤ 8)
    (kk : ∀ rv w1, x1 = some (.inl rv, w1) → EE Γ μ (pc + 3) lv (rv.toList ++ st) w1 (K rv w1)) : EE Γ μ pc lv (as.reverse ++ st) w (p_call x1 K) := by
  match x1, hE, kk with
  | none, _, _ => exact ee_none
  | some (.inr _, _), _, _ => exact ee_none
  | some (.inl rv, w1), hE, kk =>
    intro r w' h
    obtain ⟨k1, k2, k3⟩ := kk rv w1 rfl r w' h
    obtain ⟨c1, c2, -⟩ := hE _ _ rfl
    refine ⟨Nat.le_trans c1 k1, Nat.le_trans c2 k2, fun p e s m args below meth c R α0 b1 b2 Q hF hQ => ?_⟩
    have hG := k3 p e s m args below meth c R α0 b1 b2 Q hF hQ
    have hQ1 := hQ.1
    have hQ2 := hQ.2.1
    intro H locs cells slots ls cst ⟨α, clv, ws, hα, hP, hD, hS, hw, hls, hlr, hsr, e1, e2⟩
    obtain ⟨l1, rest, rfl, hs1, hs3⟩ := hsr.split
    have has : pz_sr α (pg_X Γ) as l1.reverse := by
      have h9 := hs1.rev
      rwa [List.reverse_reverse] at h9
    have hMet := pz_metW (hh := hh) hE rfl hF.T hF.M hF.S hw hD has ⟨hy.1, hy.2.1⟩ hn
    have hin : ∀ w9 ∈ pm_wsW ν hh, w9 ∈ GW := by
      intro w9 h9
      rcases List.mem_cons.mp h9 with rfl | h9
      · exact hcw
      · exact h9
    have hB : Back (pg_l Γ) R p e below s args (pm_y ν) 3 8 (PreOf R (w1.2.1 - w.2.1) (w1.2.2 - w.2.2) (va_Pc l1.reverse (pz_Pre Γ ws))) (PostOf (pz_Qc Γ α rv w1) (w1.2.1 - w.2.1) (w1.2.2 - w.2.2) (pg_A Γ)) :=
      va_backW (hh := hh) (bytes := pm_cc ν) (maxL := pm_nL ν) (ret := pm_ret ν) hMet (pz_blind hF.M) rfl rfl (by rw [hF.F]; exact hR.1) (by rw [hF.L]; exact hR.2) (fun w9 h9 a' U hW => word_at hW (pz_good w9 (hin w9 h9)) (hF.w w9 (hin w9 h9))) List.mem_cons_self (fun a' U hW => word_at hW (pz_good _ hini) (hF.w _ hini))
    refine g_call (α := α) (rv := rv) (w1 := w1) (a := l1.reverse.toArray) (mc := w1.2.1 - w.2.1) (ms := w1.2.2 - w.2.2) (rest := rest) ?_ hS (fun cv α' ws' H1 locs1 g1 g2 g3 g4 g5 g6 => hG _ _ _ _ _ _ ⟨α', clv, ws', hα.tr g2, g3, g4, g6, g5, hls, hlr.mono g2, (hs3.mono g2).app g1, by omega, by omega⟩)
    intro T hT X
    obtain ⟨mk, methM, cM, hnamed, hmethM, _, _, _, _, _, _, hsigM⟩ := Cond.codeWith_spec (hF.w _ hcw)
    have hstatic : methM.isStatic = true := Cond.static_spec hnamed hmethM (hF.w _ h2)
    obtain ⟨kP, hkP, -⟩ := className_of_methodNamed hnamed
    have hinitP : kP.init = .initialized := Cond.initialized_spec (findClass_of_methodNamed hnamed) hkP (hF.w _ hini)
    have hlen : l1.reverse.length = methM.sig.parameters.length := by
      have h8 := hna
      unfold pz_na at h8
      rw [hsigM] at h8
      rw [has.len, hal]
      exact (Option.some.inj h8).symm
    obtain ⟨vm₁, X₁, hstep₁⟩ := X.invokestatic hF.x hF.o (hF.w _ h1) hnamed hmethM hstatic hkP hinitP hy.2.2 (g := F0 m pc ls (l1 ++ rest)) rfl (argsL := l1.reverse) (rest := rest) hlen (by rw [List.reverse_reverse]) (by rw [hF.b]; exact hd)
    obtain ⟨v, ⟨U', l2, c2', s2'⟩, X', ⟨g', mk', t, L, j1, j2, hq, j3, hL, j4, j5⟩, hsteps⟩ := hB m meth c ⟨T.setVm vm₁, locs, cells, slots⟩ (F0 m pc ls rest) (.invokestatic idx) mk l1.reverse.toArray X₁ rfl (by rw [hF.l]; exact hls.1) (by rw [hF.b]; exact hd) (lv_room (by rw [hs3.cats]; exact hst)) (X₁.named hnamed) ⟨by show cells + _ ≤ _; omega, by show slots + _ ≤ _; omega, rfl, pz_pre hF hP hS (T.setVm vm₁) hT X₁.warmed⟩
    dsimp only [Pt.U, Pt.locs, Pt.cells, Pt.slots] at X' j1 j2 j3 j4 j5 hsteps
    subst j3
    subst j4
    subst j5
    exact ⟨v, (T.setVm vm₁).calling g' mk' l1.reverse.toArray, t, U', L, hT, X', hL, j1, j2, hq, fun target h9 => hstep₁ _ fun acts => by rw [doInvoke_state]; exact hsteps.trans h9⟩
/-- the caught object is put away -/
theorem ee_astore_nE {kf : Fin 4} {v : UInt32} {lv2 : List (Nat × Value)} (hd : decode (pm_cc μ) pc = .ok (.astore_n kf, 1)) (hn : (kf : Nat) < pm_nL μ) (hl : ((kf : Nat), Value.float v) :: lv.filter (fun q => !(q.1 == (kf : Nat)) && !(q.1 + 1 == (kf : Nat) && q.2.category == 2)) = lv2) (k : EE Γ μ (pc + 1) lv2 st w x0) : EE Γ μ pc lv (Value.float v :: st) w x0 := by
  subst hl
  refine ee_of (fun p e s m args below meth c R α0 b1 b2 Q hF hB hg => ?_) k
  intro H locs cells slots ls cst ⟨α, clv, ws, hα, hP, hD, hS, hw, hls, hlr, hsr, e1, e2⟩
  obtain ⟨c0, _, rfl, ⟨a9, rfl⟩, hs9⟩ := hsr.c
  exact lv_astore_n hF.x hF.b hd rfl hls hn rfl (fun ls2 hls2 => hg _ _ _ _ _ _ ⟨α, _, ws, hα, hP, hD, hS, hw, hls2, ⟨rfl, ⟨a9, rfl⟩, hlr.filter (fun k9 c9 => !(k9 == (kf : Nat)) && !(k9 + 1 == (kf : Nat) && c9 == 2))⟩, hs9, e1, e2⟩)
theorem ee_astoreE {i : Nat} {v : UInt32} {lv2 : List (Nat × Value)} (hd : decode (pm_cc μ) pc = .ok (.astore i, 2)) (hn : i < pm_nL μ) (hl : (i, Value.float v) :: lv.filter (fun q => !(q.1 == i) && !(q.1 + 1 == i && q.2.category == 2)) = lv2) (k : EE Γ μ (pc + 2) lv2 st w x0) : EE Γ μ pc lv (Value.float v :: st) w x0 := by
  subst hl
  refine ee_of (fun p e s m args below meth c R α0 b1 b2 Q hF hB hg => ?_) k
  intro H locs cells slots ls cst ⟨α, clv, ws, hα, hP, hD, hS, hw, hls, hlr, hsr, e1, e2⟩
  obtain ⟨c0, _, rfl, ⟨a9, rfl⟩, hs9⟩ := hsr.c
  exact lv_astore hF.x hF.b hd hls hn rfl (fun ls2 hls2 => hg _ _ _ _ _ _ ⟨α, _, ws, hα, hP, hD, hS, hw, hls2, ⟨rfl, ⟨a9, rfl⟩, hlr.filter (fun k9 c9 => !(k9 == i) && !(k9 + 1 == i && c9 == 2))⟩, hs9, e1, e2⟩)
/-- rows of longs -/
def p_arrJ (w : PW) (a : Nat) : Option (Nat × (Nat → Int64)) := match w.1[a]? with
  | some (.inl (t', n, .inr (.inl f))) => if t' = 3 then some (n, f) else none
  | _ => none
theorem p_arrJ_eq {w : PW} {a : Nat} {q : Nat × (Nat → Int64)} : p_arrJ w a = some q ↔ w.1[a]? = some (.inl (3, q.1, .inr (.inl q.2))) := by
  unfold p_arrJ
  constructor
  · intro h
    split at h
    · rename_i t' n f he
      by_cases hc : t' = 3
      · rw [if_pos hc] at h
        cases h
        rw [he, hc]
      · rw [if_neg hc] at h
        cases h
    · cases h
  · intro h
    rw [h]
    simp
def p_aldJ (w : PW) (a : Nat) (i : Int32) : Option Int64 := (p_arrJ w a).bind fun q => if i < 0 ∨ q.1 ≤ i.toNatClampNeg then none else some (q.2 i.toNatClampNeg)
def p_astJ (w : PW) (a : Nat) (i : Int32) (x : Int64) : Option PW := (p_arrJ w a).bind fun q => if i < 0 ∨ q.1 ≤ i.toNatClampNeg then none else some (w.1.set a (.inl (3, q.1, .inr (.inl (vp_updL q.2 i.toNatClampNeg x)))), w.2)
def p_newJ (w : PW) (i : Int32) (K : Nat → PW → PX) : PX := if i < 0 ∨ 536870912 < i.toNatClampNeg * 8 then none else K w.1.length (w.1 ++ [.inl (3, i.toNatClampNeg, .inr (.inl fun _ => 0))], w.2.1 + 1, w.2.2 + i.toNatClampNeg)
theorem ee_lald {a : Nat} {i : Int32} {K : Int64 → PX} (hd : decode (pm_cc μ) pc = .ok (.laload, 1)) (kk : ∀ v, p_aldJ w a i = some v → EE Γ μ (pc + 1) lv (.long v :: st) w (K v)) : EE Γ μ pc lv (.int i :: .ref a :: st) w ((p_aldJ w a i).bind K) := by
  refine ee_bind (fun v hv => ?_)
  have h9 := kk v hv
  unfold p_aldJ at hv
  obtain ⟨q, h1, h2⟩ := Option.bind_eq_some_iff.mp hv
  by_cases hc : i < 0 ∨ q.1 ≤ i.toNatClampNeg
  · rw [if_pos hc] at h2; cases h2
  rw [if_neg hc] at h2
  cases h2
  refine ee_of (fun p e s m args below meth c R α0 b1 b2 Q hF hB hg => ?_) h9
  intro H locs cells slots ls cst ⟨α, clv, ws, hα, hP, hD, hS, hw, hls, hlr, hsr, e1, e2⟩
  obtain ⟨_, rfl, hs1⟩ := hsr.i
  obtain ⟨a0, _, rfl, ha0, hs2⟩ := hs1.r
  obtain ⟨y, hy, cA, ty2, g, hT, rfl, (rfl : g = .inr (.inl q.2))⟩ := hw.at ha0 (p_arrJ_eq.mp h1)
  have e9 := pz_ty hF.T hT (ty2 := .long) rfl
  subst e9
  exact va_lald hF.x hF.b hF.K hP a 3 hy hT hc hd (hg _ _ _ _ _ _ ⟨α, clv, ws, hα, hP, hD, hS, hw, hls, hlr, hs2.pl, e1, e2⟩)
theorem ee_last {a : Nat} {i : Int32} {x : Int64} {K : PW → PX} (hd : decode (pm_cc μ) pc = .ok (.lastore, 1)) (kk : ∀ w1, p_astJ w a i x = some w1 → EE Γ μ (pc + 1) lv st w1 (K w1)) : EE Γ μ pc lv (.long x :: .int i :: .ref a :: st) w ((p_astJ w a i x).bind K) := by
  refine ee_bind (fun v hv => ?_)
  have h9 := kk v hv
  unfold p_astJ at hv
  obtain ⟨q, h1, h2⟩ := Option.bind_eq_some_iff.mp hv
  by_cases hc : i < 0 ∨ q.1 ≤ i.toNatClampNeg
  · rw [if_pos hc] at h2; cases h2
  rw [if_neg hc] at h2
  cases h2
  refine ee_w ⟨by exact Nat.le_refl _, by exact Nat.le_refl _⟩ (fun p e s m args below meth c R α0 b1 b2 Q hF hB hg => ?_) h9
  intro H locs cells slots ls cst ⟨α, clv, ws, hα, hP, hD, hS, hw, hls, hlr, hsr, e1, e2⟩
  obtain ⟨_, rfl, hs1⟩ := hsr.l
  obtain ⟨_, rfl, hs2⟩ := hs1.i
  obtain ⟨a0, _, rfl, ha0, hs3⟩ := hs2.r
  obtain ⟨y, hy, cA, ty2, g, hT, rfl, (rfl : g = .inr (.inl q.2))⟩ := hw.at ha0 (p_arrJ_eq.mp h1)
  have e9 := pz_ty hF.T hT (ty2 := .long) rfl
  subst e9
  exact va_last hF.x hF.b hF.K hP hD hS a 3 hy hT hc hd (fun H1 locs1 hP1 hD1 hS1 => hg _ _ _ _ _ _ ⟨α, clv, _, hα, hP1, hD1, hS1, hw.set ha0 ⟨_, _, _, hT, rfl, rfl⟩, hls, hlr, hs3, e1, e2⟩)
theorem ee_newJ {i : Int32} {K : Nat → PW → PX} (hd : decode (pm_cc μ) pc = .ok (.newarray .long, 2)) (kk : ∀ a w1, a = w.1.length → w1 = (w.1 ++ [.inl (3, i.toNatClampNeg, .inr (.inl fun _ => 0))], w.2.1 + 1, w.2.2 + i.toNatClampNeg) → ¬ i < 0 → EE Γ μ (pc + 2) lv (.ref a :: st) w1 (K a w1)) : EE Γ μ pc lv (.int i :: st) w (p_newJ w i K) := by
  unfold p_newJ
  by_cases hc : i < 0 ∨ 536870912 < i.toNatClampNeg * 8
  · rw [if_pos hc]; exact ee_none
  rw [if_neg hc]
  have hi : ¬ i < 0 := fun h => hc (Or.inl h)
  have hb : ¬ 536870912 < i.toNatClampNeg * 8 := fun h => hc (Or.inr h)
  refine ee_w (w1 := (w.1 ++ [.inl (3, i.toNatClampNeg, .inr (.inl fun _ => 0))], w.2.1 + 1, w.2.2 + i.toNatClampNeg)) ⟨Nat.le_succ _, Nat.le_add_right _ _⟩ (fun p e s m args below meth c R α0 b1 b2 Q hF hB hg => ?_) (kk _ _ rfl rfl hi)
  intro H locs cells slots ls cst ⟨α, clv, ws, hα, hP, hD, hS, hw, hls, hlr, hsr, e1, e2⟩
  obtain ⟨_, rfl, hs1⟩ := hsr.i
  have hB1 : w.2.1 + 1 ≤ b1 + R.cells := hB.1
  have hB2 : w.2.2 + i.toNatClampNeg ≤ b2 + R.slots := hB.2
  refine va_newa (atype := .long) (ty := .long) hF.x hF.b (hF.w _ gw_acJ) rfl hF.K hP hD hS hF.A (a0 := (i.toNatClampNeg, .inr (.inl fun _ => 0))) (fun cA => by rw [vp_cell_l]; rfl) hi rfl (by show i.toNatClampNeg * 8 ≤ _; omega) (by omega) (by omega) hd (fun q cA H1 hK1 hP1 hD1 hS1 => ?_)
  have hle : pz_le α (α ++ [q]) := ⟨[q], rfl⟩
  obtain ⟨c2, ty2, h2⟩ : ∃ c2 ty2, (pg_T Γ)[3]? = some (c2, ty2) := by
    have h9 : pz_TYS[3]? = some .long := rfl
    rw [← hF.T, List.getElem?_map] at h9
    cases h8 : (pg_T Γ)[3]? with
    | none => rw [h8] at h9; cases h9
    | some q9 => exact ⟨q9.1, q9.2, rfl⟩
  have e9 := pz_ty hF.T h2 (ty2 := .long) rfl
  subst e9
  have r1 : s.vm.findClass ("[" ++ FieldType.long.toString) = some c2 := (hF.K.2 3 _ h2).2
  have r2 : s.vm.findClass ("[" ++ FieldType.long.toString) = some cA := (hK1.2 (pg_T Γ).length (cA, .long) (by rw [List.getElem?_append_right (Nat.le_refl _), Nat.sub_self]; rfl)).2
  have e8 : c2 = cA := Option.some.inj (r1.symm.trans r2)
  subst e8
  exact hg _ _ _ _ _ _ ⟨α ++ [q], clv, _, hα.tr hle, hP1, hD1, hS1, hw.push ⟨_, _, _, h2, rfl, rfl⟩, hls, hlr.mono hle, (hs1.mono hle).pr (hw.new q), by show w.2.1 + 1 = _; omega, by show w.2.2 + i.toNatClampNeg = _; omega⟩
/-- the script -/
def p_sld (S : Nat × (Nat → Int32)) (i : Int32) : Option Int32 := if i < 0 ∨ S.1 ≤ i.toNatClampNeg then none else some (S.2 i.toNatClampNeg)
theorem ee_sld {i : Int32} {K : Int32 → PX} (hd : decode (pm_cc μ) pc = .ok (.iaload, 1)) (kk : ∀ v, p_sld (pg_S Γ) i = some v → EE Γ μ (pc + 1) lv (.int v :: st) w (K v)) : EE Γ μ pc lv (.int i :: .retAddr 5 :: st) w ((p_sld (pg_S Γ) i).bind K) := by
  refine ee_bind (fun v hv => ?_)
  have h9 := kk v hv
  unfold p_sld at hv
  by_cases hc : i < 0 ∨ (pg_S Γ).1 ≤ i.toNatClampNeg
  · rw [if_pos hc] at hv; cases hv
  rw [if_neg hc] at hv
  cases hv
  refine ee_of (fun p e s m args below meth c R α0 b1 b2 Q hF hB hg => ?_) h9
  intro H locs cells slots ls cst ⟨α, clv, ws, hα, hP, hD, hS, hw, hls, hlr, hsr, e1, e2⟩
  obtain ⟨_, rfl, hs1⟩ := hsr.i
  obtain ⟨_, rfl, hs2⟩ := hs1.x
  obtain ⟨-, -, -, -, -, -, -, -, -, -, -, -, -, x1, x2, x3⟩ := hF.S s hF.E
  exact va_sld hF.x hF.b x1 x2 x3 hS hc hd (hg _ _ _ _ _ _ ⟨α, clv, ws, hα, hP, hD, hS, hw, hls, hlr, hs2.pi, e1, e2⟩)
theorem ee_slen {K : Int32 → PX} (hd : decode (pm_cc μ) pc = .ok (.arraylength, 1)) (kk : ∀ v, v = Int32.ofNat (pg_S Γ).1 → EE Γ μ (pc + 1) lv (.int v :: st) w (K v)) : EE Γ μ pc lv (.retAddr 5 :: st) w (p_let (Int32.ofNat (pg_S Γ).1) K) := by
  refine ee_of (fun p e s m args below meth c R α0 b1 b2 Q hF hB hg => ?_) (kk _ rfl)
  intro H locs cells slots ls cst ⟨α, clv, ws, hα, hP, hD, hS, hw, hls, hlr, hsr, e1, e2⟩
  obtain ⟨_, rfl, hs2⟩ := hsr.x
  obtain ⟨-, -, -, -, -, -, -, -, -, -, -, -, -, x1, x2, x3⟩ := hF.S s hF.E
  exact va_slen hF.x hF.b x1 x2 x3 hS hd (hg _ _ _ _ _ _ ⟨α, clv, ws, hα, hP, hD, hS, hw, hls, hlr, hs2.pi, e1, e2⟩)
end WRAP
