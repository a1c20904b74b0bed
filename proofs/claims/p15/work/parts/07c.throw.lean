/-! 'throw new E("..")', in launches without stack traces. -/
section THROW
variable {p : Program} {l : Launch} {e : Env} {R : Room} {s : State} {m : MethodId} {args : Array Value} {below : List Frame} {meth : Method} {c : Code} {T : State} {locs : List Loc} {cells slots : Nat}
/-- the same place, told from the present heap on -/
theorem pz_anew (X : Stand p l e R s m args below meth c T locs cells slots) {R' : Room} (h1 : R'.frames ≤ R.frames) (h2 : R'.locals ≤ R.locals) (h3 : cells + R'.cells ≤ R.cells) (h4 : slots + R'.slots ≤ R.slots) :
    Stand p l e R' ({ s with heap := T.heap, slotsUsed := T.slotsUsed } : State) m args below meth c T [] 0 0 := by
  have hsame := X.same
  obtain ⟨a1, a2, a3, a4, a5, a6⟩ := hsame
  have a3' : T.heap.size ≤ s.heap.size + cells := a3
  have a4' : T.slotsUsed = s.slotsUsed + ((T.heap.toList.drop s.heap.size).map (·.slots.size)).sum := a4
  have a5' : ((T.heap.toList.drop s.heap.size).map (·.slots.size)).sum ≤ slots := a5
  have hr := X.room
  have hb := X.book
  refine { admits := X.admits, cas := X.cas, clock := X.clock, frames := X.frames, room := ?_, hears := X.hears, method := X.method, code := X.code, here := X.here, tail := X.tail, warmed := X.warmed, limits := X.limits, bytes := X.bytes, same := ?_ }
  · simp only [State.hasRoom, Bool.and_eq_true, decide_eq_true_eq] at hr ⊢
    obtain ⟨⟨⟨⟨r1, r2, r2b, r2c, r2d, r2e⟩, r3⟩, r4⟩, r5⟩ := hr
    refine ⟨⟨⟨⟨?_, ?_, ?_, ?_, ?_, r2e⟩, ?_⟩, ?_⟩, hb⟩
    · exact Nat.le_trans (Nat.add_le_add_right (Nat.add_le_add_left h2 _) _) r1
    · exact Nat.le_trans (Nat.add_le_add_left h1 _) r2
    · exact Nat.le_trans (Nat.add_le_add_left h1 _) r2b
    · exact Nat.le_trans (Nat.add_le_add_left h2 _) r2c
    · exact Nat.le_trans (Nat.add_le_add_left h2 _) r2d
    · show T.heap.size + R'.cells ≤ _
      omega
    · show T.slotsUsed + R'.slots ≤ _
      omega
  · have hd : T.heap.toList.drop T.heap.size = [] := List.drop_eq_nil_of_le (by simp)
    refine ⟨a1, Nat.le_refl _, Nat.le_refl _, ?_, ?_, fun a c hc => ⟨c, hc, rfl, rfl, fun _ _ => rfl⟩⟩
    · show T.slotsUsed = T.slotsUsed + ((T.heap.toList.drop T.heap.size).map (·.slots.size)).sum
      rw [hd]; rfl
    · show ((T.heap.toList.drop T.heap.size).map (·.slots.size)).sum ≤ 0
      rw [hd]; exact Nat.le_refl _
theorem pz_isRef {A : Nat → Prop} {C n d : String} {args : Array Value} {U : State} (h : va_Zq C n d A U U.heap) : (Cond.isRef (.static C n d)).before args U = true := by
  have key : ∀ v : Value, va_Z C n d v A U U.heap → (Term.static C n d).eval args U none [] U = some v := by
    intro v hz
    obtain ⟨cf, kf, fi, f, a, cell, h1, h2, h3, h4, h5, h6, h7, -⟩ := hz
    simp [Term.eval, State.fieldNamed?, h1, h2, h4, h5, h6, h7]
  rcases h with h | ⟨t, h⟩
  · simp [Cond.before, Cond.holds, Cond.value, key _ h, Value.isRef]
  · simp [Cond.before, Cond.holds, Cond.value, key _ h, Value.isRef]
end THROW
def p_throw (E : String) (w : PW) : PX := some (.inr E, (w.1, w.2.1 + 1, w.2.2 + 6))
theorem pz_wk_on {a : Cond} (h : pz_wk a = true) : a.onTables = true := by
  cases a <;> first | rfl | (simp [pz_wk] at h)
/-- the atoms of the constructors' chain are among the words, but two -/
def pz_oa (own : String) (ic : Nat) (cls : String) (names : List String) : Prop := ∀ a ∈ Bundle.ownAtoms own ic cls names, (a ∈ GW ∨ a ∈ NW) ∨ a = .isRef (.static "java/lang/Throwable" "UNASSIGNED_STACK" "[Ljava/lang/StackTraceElement;") ∨ a = .isRef (.static "java/lang/Throwable" "SUPPRESSED_SENTINEL" "Ljava/util/List;") ∨ a = .laysStatic "java/lang/Throwable" "UNASSIGNED_STACK" "[Ljava/lang/StackTraceElement;" ∨ a = .laysStatic "java/lang/Throwable" "SUPPRESSED_SENTINEL" "Ljava/util/List;"
section THROW2
variable {Γ : PG} {μ : PM} {pc : Nat} {lv : List (Nat × Value)} {st : List Value} {w : PW}
theorem ee_throw {cls text : String} {names : List String} {ik is ic L4 : Nat} (hw4 : L4 = 6 ∨ L4 = 7) (d0 : decode (pm_cc μ) pc = .ok (.new ik, 3)) (d3 : decode (pm_cc μ) (pc + 3) = .ok (.dup, 1))
    (d4 : ∀ (p : Program) (e : Env) (R : Room) (s : State) (m : MethodId) (args : Array Value) (below : List Frame) (meth : Method) (c : Code) (H : Heap) (cells slots sa : Nat) (Q : State → Prop) (ls : Array Slot) (rest : List Value), p.tables.exec = Jvm.exec → c.code = pm_cc μ → s.vm.findClass (pm_own μ) = some m.cls → vk_R (pm_own μ) is text sa s → W p (pg_l Γ) e R s m args below meth c H [] cells slots Q (F0 m (pc + L4) ls (.ref sa :: rest)) → W p (pg_l Γ) e R s m args below meth c H [] cells slots Q (F0 m (pc + 4) ls rest))
    (d6 : decode (pm_cc μ) (pc + L4) = .ok (.invokespecial ic, 3)) (d9 : decode (pm_cc μ) (pc + L4 + 3) = .ok (.athrow, 1))
    (hcls : Bundle.fit cls = true) (hnames : ∀ n ∈ names, Bundle.fit n = true) (hk : Cond.classLink (pm_own μ) ik cls ∈ GW) (hini : Cond.initialized cls ∈ GW) (hat : pz_oa (pm_own μ) ic cls names) (hown : pm_own μ = "WaveFiles") (hsl : (is, text) ∈ pz_SL)
    (hR : names.length + 3 < pm_F μ ∧ (st.map fun v => v.category).sum + (13 * (names.length + 1) + 43) ≤ pm_L μ) : EE Γ μ pc lv st w (p_throw cls w) := by
  intro r w' h
  cases h
  refine ⟨Nat.le_succ _, Nat.le_add_right _ _, fun p e s m args below meth c R α0 b1 b2 Q hF hQ => ?_⟩
  intro H locs cells slots ls cst ⟨α, clv, ws, hα, hP, hD, hS, hw, hls, hlr, hsr, e1, e2⟩
  obtain ⟨hq1, hq2, htab, hq3⟩ := hQ
  have hq1' : w.2.1 + 1 ≤ b1 + R.cells := hq1
  have hq2' : w.2.2 + 6 ≤ b2 + R.slots := hq2
  obtain ⟨-, -, -, -, -, -, hl, hSL, hZ1, hZ2, hN1, hN2, -⟩ := hF.S s hF.E
  intro T hT X
  subst hT
  have htr : e.platform.stackTraces = false := (show e.platform.stackTraces = (pg_l Γ).stackTraces by rw [X.admits.platform]).trans hl
  have Y := pz_anew X (R' := { frames := R.frames, locals := R.locals, cells := 1, slots := 6 }) (Nat.le_refl _) (Nat.le_refl _) (by show cells + 1 ≤ R.cells; omega) (by show slots + 6 ≤ R.slots; omega)
  obtain ⟨s', hs'⟩ : ∃ z, z = ({ s with heap := T.heap, slotsUsed := T.slotsUsed } : State) := ⟨_, rfl⟩
  rw [← hs'] at Y
  have hvm : s'.vm = s.vm := by rw [hs']
  have hhp : s'.heap = T.heap := by rw [hs']
  have hW0 : s.WarmedH s'.vm := by rw [hvm]; exact State.WarmedH.refl s
  have hwd : ∀ a, a ∈ GW ∨ a ∈ NW → a.before args s' = true := by
    intro a ha
    rcases ha with ha | ha
    · exact word_at hW0 (pz_good a ha) (hF.w a ha)
    · exact va_tabs (pz_wk_on (List.mem_filter.mp ha).2) hvm.symm (hF.N ha)
  have hat' : ∀ a ∈ Bundle.ownAtoms (pm_own μ) ic cls names, a.before args s' = true := by
    intro a ha
    rcases hat a ha with h | rfl | rfl | rfl | rfl
    · exact hwd a h
    · refine pz_isRef (A := pg_A Γ) ?_
      rw [hhp]
      exact va_Zq.moved hW0.alike (hZ1.kept hS.2.1)
    · refine pz_isRef (A := pg_A Γ) ?_
      rw [hhp]
      exact va_Zq.moved hW0.alike (hZ2.kept hS.2.1)
    · refine pz_ls.word (A := pg_A Γ) ?_
      rw [hhp]
      exact pz_ls.same hvm (hN1.kept hS.2.1)
    · refine pz_ls.word (A := pg_A Γ) ?_
      rw [hhp]
      exact pz_ls.same hvm (hN2.kept hS.2.1)
  have hown' : s'.vm.findClass (pm_own μ) = some m.cls := by rw [hvm]; exact hF.o
  obtain ⟨sa, hsa⟩ := hSL _ hsl
  have hsa' : vk_R (pm_own μ) is text sa s' := by rw [hown]; exact vk_R.same hvm hsa
  have hins : (Cond.instantiable cls 6).before args s' = true := hat' _ (by simp [Bundle.ownAtoms])
  have K : W p (pg_l Γ) e { frames := R.frames, locals := R.locals, cells := 1, slots := 6 } s' m args below meth c T.heap [] 0 0 (fun t => ∃ ce, t.status = .running ∧ Ended t below (.threw T.heap.size) ∧ s'.WarmedH t.vm ∧ s'.sameButNew ({ t with vm := s'.vm } : State) [] 1 6 ∧ t.heap[T.heap.size]? = some ce ∧ Bundle.OwnCell args s' cls T.heap.size (.ref sa) ce) (F0 m pc ls cst) := by
    refine W.newc hF.x hF.b hown' (hwd _ (Or.inl hk)) hins (hwd _ (Or.inl hini)) (g := F0 m pc ls cst) rfl d0 (Nat.le_refl _) (Nat.le_refl _) (fun cC kC f1 f2 f3 f4 => ?_)
    refine W.eq (g2 := F0 m (pc + 3) ls (.ref T.heap.size :: cst)) rfl ?_
    refine lv_dup hF.x hF.b d3 rfl ?_
    refine d4 p e _ s' m args below meth c _ _ _ sa _ ls _ hF.x hF.b hown' hsa' ?_
    intro T2 hT2 X2
    obtain ⟨U, u1, u2, u3, u4, u5, ce, u6, u7⟩ := X2.ctorThrowS hF.x htr (own := pm_own μ) (cls := cls) (names := names) (ic := ic) hown' hcls hnames hat' (fun x hx => nomatch hx) f1 f2 (a := T.heap.size) (by rw [hT2]; exact Array.getElem?_push_size) (by rw [hhp]; exact Nat.le_refl _) (msg := .ref sa) rfl (g := F0 m (pc + L4) ls (.ref sa :: .ref T.heap.size :: .ref T.heap.size :: cst)) rfl (by rw [hF.l]; exact hls.1) rfl rfl (rest := cst) rfl (by rw [hF.b]; exact d6) (by rw [hF.b]; exact d9) (fun x hx => (htab x hx).elim) (by rw [hF.F]; exact hR.1) (by show 2 * 0 + _ + _ ≤ R.locals; rw [List.map_cons, List.sum_cons, hsr.cats, hF.L]; have := hR.2; show 2 * 0 + (1 + _) + _ ≤ _; omega) hF.k
    exact ⟨U, u1, ce, u2, u3, u4, u5, u6, u7⟩
  obtain ⟨t, k1, ce, k2, k3, k4, k5, k6, k7⟩ := K T rfl Y
  refine ⟨t, k1, hq3 t ?_⟩
  have hkeep : ∀ q : Nat, q < T.heap.size → t.heap[q]? = T.heap[q]? := by
    intro q hq
    obtain ⟨c9, hc9⟩ : ∃ c9, T.heap[q]? = some c9 := ⟨T.heap[q], Array.getElem?_eq_getElem hq⟩
    rw [hc9]
    exact State.sameButNew.old_cell k5 (by rw [hhp]; exact hc9)
  have hsz : T.heap.size ≤ t.heap.size := by
    have := k5.2.1
    rw [hhp] at this
    exact this
  have hsame : s.sameButNew ({ t with vm := s.vm } : State) locs (cells + 1) (slots + 6) := by
    have h2 : (T.setVm s.vm).sameButNew ({ t with vm := s.vm } : State) [] 1 6 := by
      obtain ⟨j1, j2, j3, j4, j5, j6⟩ := k5
      subst hs'
      refine ⟨?_, j2, j3, j4, j5, j6⟩
      have e9 : (T.setVm s.vm).setFrames t.frames = ({ s.setFrames t.frames with heap := T.heap, slotsUsed := T.slotsUsed } : State) := by
        refine (congrArg (·.setFrames t.frames) X.same.1).trans ?_
        show ({ (s.setFrames _).setFrames t.frames with heap := T.heap, slotsUsed := T.slotsUsed } : State) = _
        rw [State.setFrames_setFrames]
      refine j1.trans ?_
      show ({ s.setFrames t.frames with heap := t.heap, slotsUsed := t.slotsUsed } : State) = { (T.setVm s.vm).setFrames t.frames with heap := t.heap, slotsUsed := t.slotsUsed }
      rw [e9]
    have h3 := X.same.trans h2
    rw [List.append_nil] at h3
    exact h3
  have m1 : (w.1, w.2.1 + 1, w.2.2 + 6).2.1 - b1 = cells + 1 := by show w.2.1 + 1 - b1 = _; omega
  have m2 : (w.1, w.2.1 + 1, w.2.2 + 6).2.2 - b2 = slots + 6 := by show w.2.2 + 6 - b2 = _; omega
  rw [m1, m2]
  exact ⟨T.heap.size, ce, locs, α, ws, k2, k3, k6, k7.vm, by rw [← hvm]; exact k7.cls, State.WarmedH.trans hW0 k4, hsame, hS.2.2, hα, hP.kept (fun k q hq => hkeep q.1 ((hP k q hq).lt)), hD, hw, ⟨Nat.le_trans hS.1 hsz, fun q h1 h2 => (hkeep q (Nat.lt_of_lt_of_le h1 hS.1)).trans (hS.2.1 q h1 h2)⟩⟩
end THROW2
