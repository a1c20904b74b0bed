/-! Calls of methods that throw. -/
/-- what is known where a method has thrown q -/
def pz_ThrQ (Γ : PG) (α0 : List Nat) (E : String) (w' : PW) (mc ms : Nat) (st : State) (q : Addr) (t : State) : Prop :=
  ∃ (ce : Cell) (L : List Loc) (α : List Nat) (ws : va_W), t.heap[q]? = some ce ∧ ce.vm = .none ∧ st.vm.findClass E = some ce.cls ∧ st.WarmedH t.vm ∧ st.sameButNew ({ t with vm := st.vm } : State) L mc ms ∧ (∀ z ∈ L, pg_A Γ z.base) ∧ pz_le α0 α ∧ va_P (pg_D Γ) vwCl ws t.heap ∧ va_D (pg_A Γ) ws ∧ pz_wr α (pg_X Γ) (pg_T Γ) w'.1 ws ∧ va_F (pg_A Γ) st t
theorem pz_metX {Γ : PG} {μ : PM} {as cas : List Value} {w w1 : PW} {x : PX} {E : String} {α : List Nat} {ws : va_W} (hE : EE Γ μ 0 (lv_args 0 as) [] w x) (hx : x = some (.inr E, w1))
    (hT : (pg_T Γ).map (fun q => q.2) = pz_TYS) (hM : pz_mv Γ) (hS : ∀ U : State, pg_E Γ U → pz_ext (pg_l Γ) (pg_A Γ) (pg_X Γ) (pg_S Γ) U)
    (hw : pz_wr α (pg_X Γ) (pg_T Γ) w.1 ws) (hD : va_D (pg_A Γ) ws) (has : pz_sr α (pg_X Γ) as cas) (hy : plainName (pm_y μ).cls = true ∧ (pm_y μ).cls = pm_own μ) (hn : (lg_sl as).length ≤ pm_nL μ) :
    MetFree (pg_l Γ) (pm_y μ) (headSpec (pm_ws μ) (pm_rm μ w w1)) (va_Pc cas (pz_Pre Γ ws)) (fun _ _ _ _ _ => True) (fun _ st o t => ∃ q, o = .threw q ∧ pz_ThrQ Γ α E w1 (w1.2.1 - w.2.1) (w1.2.2 - w.2.2) st q t) := by
  refine MetFree.of_bodyS (code := pm_cc μ) (maxLocals := pm_nL μ) (ret := pm_ret μ) hy.1 ?_ ?_
  · intro args s m h hn9
    obtain ⟨meth, c, h1, h2, h3, h4, h5, h6, -, -⟩ := Cond.code_spec hn9 (atoms_spec (ws := pm_ws μ) h _ List.mem_cons_self)
    exact ⟨meth, c, h1, h2, h3, h4, h5, h6⟩
  · intro p e s m args below meth c s₁ B hml hv _
    obtain ⟨rfl, hP, hK, hA, hX⟩ := hv
    obtain ⟨h1, h2, h3⟩ := hE _ _ hx
    have hts := atoms_spec (ws := pm_ws μ) B.pre
    have hl := lv_entry cas (n := pm_nL μ) (by rw [pz_sl has]; exact hn)
    have hown : s.vm.findClass (pm_own μ) = some m.cls := by rw [← hy.2]; exact findClass_of_methodNamed B.named
    have htab : ∀ x ∈ c.exceptionTable.toList, False := by
      obtain ⟨meth', c', g1, g2, g3, g4, g5, g6, g7, g8⟩ := Cond.code_spec B.named (hts _ List.mem_cons_self)
      have X := Stand.of_body B
      cases g1.symm.trans X.method
      cases g2.symm.trans X.code
      intro x hx
      rw [Array.isEmpty_iff] at g7
      rw [g7] at hx
      cases hx
    have hh0 : s₁.heap = s.heap := by rw [B.state]; rfl
    have K := h3 p e s m cas.toArray below meth c (headSpec (pm_ws μ) (pm_rm μ w w1)).room α w.2.1 w.2.2 (pz_Thr Γ s below α E w1 (w1.2.1 - w.2.1) (w1.2.2 - w.2.2)) ⟨B.exec, B.bytes, B.returns, hml, fun w9 h9 => hts w9 (List.mem_cons_of_mem _ h9), hown, B.notSynchronized, hK, hA, hX, rfl, rfl, (name_of_methodNamed B.named B.method).1, B.named, hT, hM, hS⟩ ⟨by show w1.2.1 ≤ w.2.1 + (w1.2.1 - w.2.1); omega, by show w1.2.2 ≤ w.2.2 + (w1.2.2 - w.2.2); omega, htab, fun t h => h⟩ s.heap [] 0 0 _ [] ⟨α, _, ws, pz_le.rf, hP, hD, va_S.rf, hw, hl, pz_args 0 has, trivial, rfl, rfl⟩
    rw [← lg_entry_eq] at K
    obtain ⟨t, a1, q, ce, L, α', ws', k1, k2, k3, k4, k5, k6, k7, k8, k9, k10, k11, k12, k13⟩ := K s₁ hh0 (Stand.of_body B)
    exact ⟨t, .threw q, a1, k1, k2, q, rfl, ce, L, α', ws', k3, k4, k5, k6, k7, k8, k9, k10, k11, k12, k13⟩

section CALLX
variable {p : Program} {l : Launch} {e : Env} {R : Room} {s : State} {m : MethodId} {args : Array Value} {below : List Frame} {meth : Method} {c : Code} {T : State} {locs : List Loc} {cells slots : Nat}
/-- an invocation that throws: the caller's frame, with the note of the throw over it -/
theorem pz_invX (X : Stand p l e R s m args below meth c T locs cells slots) {y : MethodName} {S : Spec} {P : Array Value → State → Prop} {Q : Addr → State → State → Prop} {bytes : ByteArray} {maxL : Nat} {ret : Option FieldType} {mc ms len W9 : Nat} {FL : List Loc → Prop}
    (hM : MetFree l y S P (fun _ _ _ _ _ => True) (fun _ st o t => ∃ q, o = .threw q ∧ Q q st t)) (hframes : S.room.frames + 1 ≤ R.frames) (hlocals : W9 + (maxL + 11) + S.room.locals ≤ R.locals) (hcells : cells + S.room.cells ≤ R.cells) (hslots : slots + S.room.slots ≤ R.slots)
    {g : JFrame} {ig : Instr} {mk : MethodId} {a : Array Value} (hg : g.method = m) (hsize : g.locals.size = c.maxLocals) (hdg : decode c.code g.pc = .ok (ig, len)) (hW : 2 * g.monitorRoom + (g.stack.map fun v => v.category).sum ≤ W9) (hn : T.methodNamed? y = some mk)
    (h1 : S.pre.before a T = true) (h2 : (Cond.code y bytes maxL ret).before a T = true) (h3 : (Cond.initialized y.cls).before a T = true) (hP : ∀ g', P a (T.calling g' mk a))
    (hQ : ∀ q st t, Q q st t → ∃ L, FL L ∧ st.WarmedH t.vm ∧ st.sameButNew ({ t with vm := st.vm } : State) L mc ms) :
    ∃ (q : Addr) (t : State) (L : List Loc) (g' : JFrame), Q q (T.calling g' mk a) t ∧ FL L ∧ Stand p l e R s m args below meth c (({ T with heap := t.heap, slotsUsed := t.slotsUsed } : State).setVm t.vm) (locs ++ L) (cells + mc) (slots + ms) ∧ (T.calling g' mk a).sameButNew ({ t with vm := (T.calling g' mk a).vm } : State) L mc ms ∧
      Steps p.tables e below (doInvoke e (T.setTop g) [] mk a).1 (((({ T with heap := t.heap, slotsUsed := t.slotsUsed } : State).setVm t.vm).setTop g).pushFrame (.throwing q)) := by
  obtain ⟨methY, cY, hmY, hcY, -, hlY, -, -, -, -⟩ := Cond.code_spec hn h2
  obtain ⟨kY, hkY, -⟩ := className_of_methodNamed hn
  have hinitY : kY.init = .initialized := Cond.initialized_spec (findClass_of_methodNamed hn) hkY h3
  have h : At T g.method c below := by rw [hg]; exact X.here
  have happ : S.appliesLoose y e.platform (T.calling g mk a) = true :=
    Spec.appliesLoose_calling (g := g) h hdg hn hkY hinitY (X.room_calling (g := g) (R' := S.room) hsize hmY hcY hframes (by rw [hlY]; omega) hcells hslots) h1
  obtain ⟨mid, hmid⟩ := h.above
  have hfr : (T.setTop g).frames = (.java g :: mid) ++ below := by rw [State.frames_setTop' g h.top, hmid]; rfl
  obtain ⟨o, s₂, hsteps, -, hend, q, rfl, hq⟩ := Steps.callFree hM p X.admits X.cas X.clock (acts := []) hfr happ (hP g) trivial
  have hq' : Q q (T.calling g mk a) s₂ := hq
  obtain ⟨L, hFL, hW2, hsame⟩ := hQ _ _ _ hq'
  have hW' : T.WarmedH s₂.vm := hW2
  obtain ⟨e2, q2, q3, q4, q5, q6⟩ := id hsame
  rw [State.frames_setTop' g h.top] at hend
  have hend' : s₂.frames = .throwing q :: .java g :: T.frames.tail := hend
  have e3 : s₂ = ({ (T.calling g mk a).setFrames s₂.frames with heap := s₂.heap, slotsUsed := s₂.slotsUsed } : State).setVm s₂.vm := by
    have e5 : s₂ = ({ s₂ with vm := (T.calling g mk a).vm } : State).setVm s₂.vm := rfl
    rw [e2] at e5
    exact e5
  obtain ⟨g₀, hg0⟩ := Option.isSome_iff_exists.mp h.top
  obtain ⟨r, hr⟩ := State.topJava?_eq_some.mp hg0
  have hs₂ : s₂ = ((({ T with heap := s₂.heap, slotsUsed := s₂.slotsUsed } : State).setVm s₂.vm).setTop g).pushFrame (.throwing q) := by
    have hr' : (({ T with heap := s₂.heap, slotsUsed := s₂.slotsUsed } : State).setVm s₂.vm).frames = .java g₀ :: r := hr
    have hst : ((({ T with heap := s₂.heap, slotsUsed := s₂.slotsUsed } : State).setVm s₂.vm).setTop g).frames = .java g :: r := by
      rw [State.frames_setTop' g (by rw [State.topJava?_eq_some.mpr ⟨r, hr'⟩]; rfl), hr']
      rfl
    refine e3.trans ?_
    rw [hend', State.calling_eq h.top, State.setFrames_setFrames, State.pushFrame, hst, State.setTop_of_frames _ hr', State.setFrames_setFrames, hr]
    rfl
  have hsame2 : T.sameButNew ({ T with heap := s₂.heap, slotsUsed := s₂.slotsUsed } : State) L mc ms := by
    refine ⟨?_, q2, q3, q4, q5, q6⟩
    obtain ⟨t9, ht9, -⟩ := State.frames_cons hr
    show ({ T with heap := s₂.heap, slotsUsed := s₂.slotsUsed } : State) = { T.setFrames T.frames with heap := s₂.heap, slotsUsed := s₂.slotsUsed }
    rw [State.setFrames_self ht9]
  subst hg
  refine ⟨q, s₂, L, g, hq', hFL, ⟨X.admits, X.cas, X.clock, X.frames, X.room, X.hears, X.method, X.code, (X.here.setHeapUsed s₂.heap s₂.slotsUsed).setVm hW'.alike, X.tail, State.WarmedH.trans X.warmed hW', X.limits, X.bytes, X.same.trans (hsame2.setVm s.vm)⟩, hsame, ?_⟩
  rw [← hs₂]
  exact hsteps
end CALLX
