/-! A callee that throws, and its catching. -/
section SEARCH
variable {E : CtlPost} {e : Env} {d : Bool} {acts : List Action} {s : State} {f : JFrame} {a : Addr} {Q : Handler → Pre}
/-- a row of the table that names a class, resolved now or before -/
theorem pz_goC {x : ExceptionTableEntry} {t : List ExceptionTableEntry} {c : ClassId} {vm1 : Vm} {cell : Cell} (hx : covers x f.pc = true) (h0 : x.catchType ≠ 0)
    (hg : (Jvm.resolveClass f.method.cls x.catchType).Gives e.toSetting s.vm (.ok c) vm1) (hsz : vm1.classes.size ≤ s.vm.classes.size) (hcell : s.heap[a]? = some cell) (hobj : ∀ k, cell.vm ≠ .statics k)
    (hk : ∃ k, vm1.classes[cell.cls]? = some k) (hc : ∃ k, vm1.classes[c]? = some k) :
    wp (findHandler.go f a (x :: t)) Q E e d acts s ↔ if vm1.assignable cell.cls c = true then Q (.found x.handlerPc) d acts (s.setVm vm1) else wp (findHandler.go f a t) Q E e d acts (s.setVm vm1) := by
  simp only [covers] at hx
  obtain ⟨ha, ht⟩ := hg.op (op := VmOp.resolveClass f.method.cls x.catchType) rfl
  cases hfit : vm1.assignable cell.cls c <;>
    simp [findHandler.go, hx, h0, ha, ht, hsz, hcell, hobj, hk, hc, hfit, VmOp.dirties, VmOp.acts]
end SEARCH
/-- the rows of a table that cover the place: the first whose class takes E leads to hp -/
def pz_tab' (s : State) (args : Array Value) (own E : String) (pc : Nat) : List ExceptionTableEntry → Nat → Prop
  | [], _ => False
  | x :: t, hp => covers x pc = true ∧ x.catchType ≠ 0 ∧ ∃ nm, (Cond.classLink own x.catchType nm).before args s = true ∧ ((va_Nw (.castable E nm) s ∧ x.handlerPc = hp) ∨ (va_Nc E nm s ∧ pz_tab' s args own E pc t hp))
theorem pz_search {e : Env} {s : State} {args : Array Value} {m : MethodId} {own E : String} {g : JFrame} {a : Addr} {cell : Cell} {hp : Nat} (hpl : e.platform.magicAccessors = ({} : Platform).magicAccessors) (hown : s.vm.findClass own = some m.cls) (hg : g.method = m) (hcl : s.vm.findClass E = some cell.cls) (hobj : cell.vm = .none) :
    ∀ (tab : List ExceptionTableEntry), pz_tab' s args own E g.pc tab hp → ∀ S : State, s.WarmedH S.vm → S.heap[a]? = some cell → ∃ vm', s.WarmedH vm' ∧ ∀ (Q : Handler → Pre) (E : CtlPost) (d : Bool) (acts : List Action), wp (findHandler.go g a tab) Q E e d acts S ↔ Q (.found hp) d acts (S.setVm vm')
  | [], h, _, _, _ => h.elim
  | x :: t, h, S, hW, hc => by
    obtain ⟨h1, h2, nm, h3, h4⟩ := h
    obtain ⟨c5, hc5, hl5⟩ := Cond.classLink_spec hown h3 e.platform hpl
    rw [← hg] at hl5
    obtain ⟨g1, g2, -⟩ := State.classEntry (e := e) hW hl5
    have hsz : (S.vm.noted g.method.cls x.catchType (.cls c5)).classes.size ≤ S.vm.classes.size := by simp
    generalize S.vm.noted g.method.cls x.catchType (.cls c5) = vm1 at g1 g2 hsz
    have hk : ∃ k, vm1.classes[cell.cls]? = some k := by
      obtain ⟨k0, hk0⟩ := Vm.classAt_of_findClass hcl
      obtain ⟨k1, hk1, -⟩ := g2.alike.2.2 _ _ hk0
      exact ⟨k1, hk1⟩
    have hk2 : ∃ k, vm1.classes[c5]? = some k := by
      obtain ⟨k0, hk0⟩ := Vm.classAt_of_findClass hc5
      obtain ⟨k1, hk1, -⟩ := g2.alike.2.2 _ _ hk0
      exact ⟨k1, hk1⟩
    have hns : ∀ k, cell.vm ≠ .statics k := fun k h => by rw [hobj] at h; cases h
    have ha : vm1.assignable cell.cls c5 = s.vm.assignable cell.cls c5 := g2.alike.assignable _ _
    rcases h4 with ⟨h5, h6⟩ | ⟨h5, h6⟩
    · obtain ⟨c3, c4, q3, q4, q5⟩ := Cond.castable_spec h5
      cases q3.symm.trans hcl
      cases q4.symm.trans hc5
      refine ⟨vm1, g2, fun Q E d acts => ?_⟩
      rw [pz_goC h1 h2 g1 hsz hc hns hk hk2, ha, if_pos q5, h6]
    · obtain ⟨c3, c4, q3, q4, q5⟩ := h5
      cases q3.symm.trans hcl
      cases q4.symm.trans hc5
      obtain ⟨vm', w1, w2⟩ := pz_search hpl hown hg hcl hobj t h6 (S.setVm vm1) g2 hc
      refine ⟨vm', w1, fun Q E d acts => ?_⟩
      rw [pz_goC h1 h2 g1 hsz hc hns hk hk2, ha, if_neg (by rw [q5]; exact Bool.false_ne_true), w2]
      rfl
section CATCH
variable {p : Program} {l : Launch} {e : Env} {R : Room} {s : State} {m : MethodId} {args : Array Value} {below : List Frame} {meth : Method} {c : Code} {T : State} {locs : List Loc} {cells slots : Nat}
/-- the note of a throw over the frame g: the machine goes on at the handler -/
theorem pz_caught (X : Stand p l e R s m args below meth c T locs cells slots) {own E : String} (hown : s.vm.findClass own = some m.cls) {g : JFrame} (hg : g.method = m) {a : Addr} {cell : Cell} (hcell : T.heap[a]? = some cell) (hobj : cell.vm = .none) (hcl : s.vm.findClass E = some cell.cls) {hp : Nat} (htab : pz_tab' s args own E g.pc c.exceptionTable.toList hp) :
    ∃ vm', Stand p l e R s m args below meth c (T.setVm vm') locs cells slots ∧ Steps p.tables e below ((T.setTop g).pushFrame (.throwing a)) ((T.setVm vm').setTop { g with pc := hp, stack := [.ref a] }) := by
  have hpl : e.platform.magicAccessors = ({} : Platform).magicAccessors := by rw [X.admits.platform]
  have hvm : ((T.setTop g).pushFrame (.throwing a)).vm = T.vm := Stand.throwing_vm T g a
  have hhp : ((T.setTop g).pushFrame (.throwing a)).heap = T.heap := Stand.throwing_heap T g a
  obtain ⟨vm', w1, w2⟩ := pz_search (m := m) hpl hown hg hcl hobj _ htab ((T.setTop g).pushFrame (.throwing a)) (by rw [hvm]; exact X.warmed) (by rw [hhp]; exact hcell)
  refine ⟨vm', X.noted w1, ?_⟩
  have h : At T g.method c below := by rw [hg]; exact X.here
  have hm' : ((T.setTop g).pushFrame (.throwing a)).vm.method? g.method = some meth := by rw [hvm, hg]; exact X.method'
  obtain ⟨hgo, hw⟩ := h.throwing a
  refine Steps.head hgo hw ?_
  rw [stepThread_throwing (frames_entered h.top _)]
  have hst : (stepThrowing e ((T.setTop g).pushFrame (.throwing a)) a (.java g :: T.frames.tail)).Is ((((T.setTop g).pushFrame (.throwing a)).setVm vm').setFrames (.java { g with pc := hp, stack := [.ref a] } :: T.frames.tail)) [] := by
    simp only [stepThrowing, searchFrame, vmDo]
    generalize hr : Sem.go _ e false [] ((T.setTop g).pushFrame (.throwing a)) = res
    obtain ⟨as, rfl, ha⟩ := Sem.eq_ok_of hr (a := Handler.found hp) (s' := ((T.setTop g).pushFrame (.throwing a)).setVm vm') (acts' := []) (by simp [W.findHandler_eq hm' X.code, w2])
    exact ⟨rfl, ha⟩
  rw [hst.1]
  obtain ⟨g₀, hg0⟩ := Option.isSome_iff_exists.mp h.top
  obtain ⟨r, hr⟩ := State.topJava?_eq_some.mp hg0
  have hr' : (T.setVm vm').frames = .java g₀ :: r := hr
  have e9 : (((T.setTop g).pushFrame (.throwing a)).setVm vm').setFrames (.java { g with pc := hp, stack := [.ref a] } :: T.frames.tail) = (T.setVm vm').setTop { g with pc := hp, stack := [.ref a] } := by
    rw [State.setTop_of_frames _ hr', hr]
    rw [State.pushFrame, State.setTop_of_frames _ hr]
    show ((((T.setFrames _).setFrames _).setFrames _).setVm vm') = _
    rw [State.setFrames_setFrames, State.setFrames_setFrames]
    rfl
  rw [e9]
  exact Steps.refl _
end CATCH
