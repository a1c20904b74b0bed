/-! Calls with handlers around them, and of methods with handlers. -/
def p_kX : List (String × (PW → PX)) → String → PW → PX
  | [], _, _ => none
  | q :: t, E, w => if E = q.1 then q.2 w else p_kX t E w
def p_callX (x : PX) (K : Option Value → PW → PX) (KL : List (String × (PW → PX))) : PX := match x with
  | some (.inl rv, w1) => K rv w1
  | some (.inr E, w1) => p_kX KL E w1
  | none => none
theorem p_kX_some {E : String} {w : PW} {y : PR × PW} : ∀ {KL : List (String × (PW → PX))}, p_kX KL E w = some y → ∃ q ∈ KL, q.1 = E ∧ q.2 w = some y
  | [], h => nomatch h
  | q :: t, h => by
    unfold p_kX at h
    by_cases e : E = q.1
    · rw [if_pos e] at h
      exact ⟨q, List.mem_cons_self, e.symm, h⟩
    · rw [if_neg e] at h
      obtain ⟨q', h1, h2⟩ := p_kX_some h
      exact ⟨q', List.mem_cons_of_mem _ h1, h2⟩
/-- which handler takes E, by the words -/
def pz_hit (own E : String) (pc : Nat) : List (Nat × Nat × Nat × Nat) → Nat → Prop
  | [], _ => False
  | q :: t, hp => (q.1 ≤ pc ∧ pc < q.2.1 ∧ q.2.2.2 ≠ 0) ∧ ∃ nm, Cond.classLink own q.2.2.2 nm ∈ GW ∧ ((Cond.castable E nm ∈ NW ∧ q.2.2.1 = hp) ∨ ((E, nm) ∈ pz_NC ∧ pz_hit own E pc t hp))
theorem pz_hit.tab {Γ : PG} {μ : PM} {p : Program} {s : State} {m : MethodId} {args : Array Value} {meth : Method} {c : Code} {R : Room} (hF : pz_Fx Γ μ p s m args meth c R) {E : String} {pc hp : Nat} : ∀ {tab : List ExceptionTableEntry} {hh : List (Nat × Nat × Nat × Nat)}, tab.map (fun h => (h.startPc, h.endPc, h.handlerPc, h.catchType)) = hh → pz_hit (pm_own μ) E pc hh hp → pz_tab' s args (pm_own μ) E pc tab hp
  | [], [], _, h => h.elim
  | x :: t, q :: hh, e, h => by
    rw [List.map_cons] at e
    obtain ⟨e1, e2⟩ := List.cons.inj e
    subst e1
    obtain ⟨⟨h1, h2, h3⟩, nm, h4, h5⟩ := h
    refine ⟨by simp only [covers, Bool.and_eq_true, decide_eq_true_eq]; exact ⟨h1, h2⟩, h3, nm, hF.w _ h4, ?_⟩
    rcases h5 with ⟨h5, h6⟩ | ⟨h5, h6⟩
    · exact Or.inl ⟨hF.N h5, h6⟩
    · obtain ⟨-, -, -, -, -, -, -, -, -, -, -, -, hNC, -⟩ := hF.S s hF.E
      exact Or.inr ⟨hNC _ h5, pz_hit.tab hF e2 h6⟩
  | [], _ :: _, e, _ => nomatch e
  | _ :: _, [], e, _ => nomatch e
section WRAP
variable {Γ : PG} {μ ν : PM} {pc : Nat} {lv : List (Nat × Value)} {st : List Value} {w : PW} {x0 x1 : PX} {K : Option Value → PW → PX} {KL : List (String × (PW → PX))}
theorem ee_callVX {idx b ci n : Nat} {as : List Value} {C : String} {T : u_T} {N nL : Nat} {fs : List Value} {ret : Option FieldType} {hh : List (Nat × Nat × Nat × Nat)} (hd : decode (pm_cc μ) pc = .ok (.invokevirtual idx, 3)) (hE : EE Γ ν 0 (lv_args 0 (.ref b :: as)) [] w x1) (hy : pz_my ν) (hn : (lg_sl (.ref b :: as)).length ≤ pm_nL ν) (hna : pz_na ν n) (hal : as.length = n)
    (hc : vwCl[ci]? = some (C, T, N)) (hC : (pm_y ν).cls = C) (hob : w.1[b]? = some (.inr (ci, fs)))
    (h1 : Cond.methodLink (pm_own μ) idx (pm_y ν) ∈ GW) (h2 : Cond.instanceMethod (pm_y ν) ∈ GW) (h3 : Cond.selects C (pm_y ν) (pm_y ν) ∈ GW)
    (hR : pm_F ν + 1 ≤ pm_F μ ∧ 8 + (pm_nL ν + 11) + pm_L ν ≤ pm_L μ) (hst : (st.map fun v => v.category).sum ≤ 8)
    (hcw : Cond.codeWith (pm_y μ) (pm_cc μ) nL ret hh ∈ GW) (hx : ∀ q ∈ KL, ∃ hp, pz_hit (pm_own μ) q.1 pc hh hp ∧ ∀ w1, EE Γ μ hp lv [.float 0] w1 (q.2 w1))
    (kk : ∀ rv w1, x1 = some (.inl rv, w1) → EE Γ μ (pc + 3) lv (rv.toList ++ st) w1 (K rv w1)) : EE Γ μ pc lv (as.reverse ++ .ref b :: st) w (p_callX x1 K KL) := by
  match x1, hE, kk with
  | none, _, _ => exact ee_none
  | some (.inl rv, w1), hE, kk => exact ee_callV hd hE hy hn hna hal hc hC hob h1 h2 h3 hR hst kk
  | some (.inr E, w1), hE, _ =>
    intro r w' h
    obtain ⟨q, hq, rfl, hkx⟩ := p_kX_some (show p_kX KL E w1 = some (r, w') from h)
    obtain ⟨hp, hit, hEE⟩ := hx q hq
    obtain ⟨k1, k2, k3⟩ := hEE w1 r w' hkx
    obtain ⟨c1, c2, -⟩ := hE _ _ rfl
    refine ⟨Nat.le_trans c1 k1, Nat.le_trans c2 k2, fun p e s m args below meth c R α0 b1 b2 Q hF hQ => ?_⟩
    have hG := k3 p e s m args below meth c R α0 b1 b2 Q hF hQ
    have hQ1 := hQ.1
    have hQ2 := hQ.2.1
    intro H locs cells slots ls cst ⟨α, clv, ws, hα, hP, hD, hS, hw, hls, hlr, hsr, e1, e2⟩
    obtain ⟨l1, k9, rfl, hs1, hs2⟩ := hsr.split
    obtain ⟨a, rest, rfl, hb, hs3⟩ := hs2.r
    have has : pz_sr α (pg_X Γ) as l1.reverse := by
      have h9 := hs1.rev
      rwa [List.reverse_reverse] at h9
    obtain ⟨y, hy9, gs, rfl, hgs⟩ := hw.at hb hob
    intro T hT X
    subst hT
    have htb : pz_tab' s args (pm_own μ) q.1 pc c.exceptionTable.toList hp := by
      obtain ⟨m9, meth9, c9, g1, g2, g3, g4, g5, g6, -⟩ := Cond.codeWith_spec (hF.w _ hcw)
      cases hF.I.symm.trans g1
      cases X.method.symm.trans g2
      cases X.code.symm.trans g3
      exact pz_hit.tab hF g6 hit
    obtain ⟨mk, methM, hnamed, hmethM, hstM, habM⟩ := Cond.instanceMethod_spec (hF.w _ h2)
    obtain ⟨methM', cM, hmethM', -, -, -, -, -, -, hsigM⟩ := Cond.code_spec hnamed (hF.w _ hy.2.2.2.1)
    cases hmethM.symm.trans hmethM'
    obtain ⟨cS, rS, mS, q1, q2, q3, q4, kP, hkP, hkPi⟩ := Cond.selects_spec (hF.w _ h3)
    obtain ⟨cellB, hcB, hoB, hclB⟩ := va_recv hF.K hP hc hy9
    cases hclB.symm.trans q1
    cases (State.methodFound?_of_named hnamed hy.2.2.1).symm.trans q2
    cases hnamed.symm.trans q3
    have hselP : selectMethod e.platform s.vm cellB.cls mk = .method mk := by rw [Launch.admits_selectMethod X.admits]; exact q4
    have hlen : l1.reverse.length = methM.sig.parameters.length := by
      have h8 := hna
      unfold pz_na at h8
      rw [hsigM] at h8
      rw [has.len, hal]
      exact (Option.some.inj h8).symm
    obtain ⟨vm₁, X₁, hstep₁⟩ := X.invokevirtual hF.x hF.o (hF.w _ h1) hnamed hmethM hstM hkP hkPi hy.2.2.1 (a := a) (cell := cellB) hcB (fun z h => by rw [h] at hoB; cases hoB) hselP hmethM habM hkP hkPi (g := F0 m pc ls (l1 ++ .ref a :: rest)) rfl (argsL := l1.reverse) (rest := rest) hlen (by rw [List.reverse_reverse]) (by rw [hF.b]; exact hd)
    have hpre1 := pz_pre hF hP hS (T.setVm vm₁) rfl X₁.warmed
    have hwords : ∀ w9 ∈ pm_ws ν, ∀ a' : Array Value, w9.before a' (T.setVm vm₁) = true := fun w9 h9 a' => word_at X₁.warmed (pz_good w9 (pz_wsin hy w9 h9)) (hF.w w9 (pz_wsin hy w9 h9))
    obtain ⟨qa, t, L, g', hthr, hLA, X', -, hsteps⟩ := pz_invX X₁ (S := headSpec (pm_ws ν) (pm_rm ν w w1)) (W9 := 8) (len := 3) (mc := w1.2.1 - w.2.1) (ms := w1.2.2 - w.2.2) (bytes := pm_cc ν) (maxL := pm_nL ν) (ret := pm_ret ν) (FL := fun L => ∀ z ∈ L, pg_A Γ z.base) (Q := fun q9 st9 t9 => pz_ThrQ Γ α q.1 w1 (w1.2.1 - w.2.1) (w1.2.2 - w.2.2) st9 q9 t9) (pz_metX hE rfl hF.T hF.M hF.S hw hD (cas := .ref a :: l1.reverse) (has.pr hb) ⟨hy.1, hy.2.1⟩ hn) (by rw [hF.F]; exact hR.1) (by rw [hF.L]; exact hR.2) (by show cells + (w1.2.1 - w.2.1) ≤ R.cells; omega) (by show slots + (w1.2.2 - w.2.2) ≤ R.slots; omega) (g := F0 m pc ls rest) (ig := .invokevirtual idx) (mk := mk) (a := (Value.ref a :: l1.reverse).toArray) rfl (by rw [hF.l]; exact hls.1) (by rw [hF.b]; exact hd) (lv_room (by rw [hs3.cats]; exact hst)) (X₁.named hnamed) (atoms_intro fun w9 h9 => hwords w9 h9 _) (hwords _ List.mem_cons_self _) (hwords _ (List.mem_cons_of_mem _ hy.2.2.2.2) _) (fun g9 => pz_blind hF.M _ _ g9 mk ⟨rfl, hpre1⟩) (fun q9 st9 t9 h9 => by
      obtain ⟨ce9, L9, _, _, _, _, _, j1, j2, j3, _⟩ := h9
      exact ⟨L9, j3, j1, j2⟩)
    obtain ⟨ce, L9, α', ws', t1, t2, t3, t4, t5, t6, t7, t8, t9, t10, t11⟩ := hthr
    have t3' : s.vm.findClass q.1 = some ce.cls := by
      have h9 : (T.setVm vm₁).vm.findClass q.1 = some ce.cls := t3
      rw [X₁.warmed.alike.findClass] at h9
      exact h9
    obtain ⟨vm2, X2, st2⟩ := pz_caught X' hF.o (g := F0 m pc ls rest) rfl (a := qa) (cell := ce) t1 t2 t3' htb
    have hS' : va_S (pg_A Γ) s.heap t.heap (locs ++ L) := by
      obtain ⟨f1, f2⟩ := t11
      have f1' : T.heap.size ≤ t.heap.size := f1
      have f2' : ∀ q : Nat, q < T.heap.size → ¬ pg_A Γ q → t.heap[q]? = T.heap[q]? := f2
      refine ⟨Nat.le_trans hS.1 f1', fun q9 z1 z2 => (f2' q9 (Nat.lt_of_lt_of_le z1 hS.1) z2).trans (hS.2.1 q9 z1 z2), fun z hz => ?_⟩
      rcases List.mem_append.mp hz with hz | hz
      · exact hS.2.2 z hz
      · exact hLA z hz
    obtain ⟨u, u1, u2⟩ := hG t.heap (locs ++ L) (cells + (w1.2.1 - w.2.1)) (slots + (w1.2.2 - w.2.2)) ls [.ref qa] ⟨α', clv, ws', hα.tr t7, t8, t9, hS', t10, hls, hlr.mono t7, ⟨⟨qa, rfl⟩, trivial⟩, by omega, by omega⟩ _ (by exact rfl) X2
    exact ⟨u, hstep₁ _ fun acts => by rw [doInvoke_state]; exact hsteps.trans (st2.trans u1), u2⟩
end WRAP
