/-! The law's end out of its pure function. -/
theorem pz_arr0 {s : State} {args : Array Value} {ty : FieldType} (h : (Cond.arrayClass ty).before args s = true) : ∃ cA : ClassId, ArrOfT s cA ty ∧ s.vm.findClass ("[" ++ ty.toString) = some cA := by
  obtain ⟨c, k, comp, h1, h2, h3⟩ := Cond.arrayClass_spec h
  exact ⟨c, fun n z => ⟨fun k h => (by cases h), k, h2, comp, h3⟩, h1⟩
theorem pz_arrO {s : State} (h : va_AO "java/lang/Object" s) : ∃ cA : ClassId, ArrOfT s cA (.object "java/lang/Object") ∧ va_RA s cA (.object "java/lang/Object") := by
  obtain ⟨comp, c, k, h1, -, h3, h4, h5⟩ := Cond.arrayOver_spec (args := #[]) (first := s) (s := s) (o := none) (idx := []) h
  exact ⟨c, fun n z => ⟨fun k h => (by cases h), k, h3, comp, h4⟩, k, comp, h3, h4, h1, h5⟩
theorem pz_tys0 {s : State} {args : Array Value} (hGW : ∀ w ∈ GW, w.before args s = true) (hAO : va_AO "java/lang/Object" s) : ∃ tys : List (ClassId × FieldType), tys.map (fun q => q.2) = pz_TYS ∧ ∀ (k : Nat) (q : ClassId × FieldType), tys[k]? = some q → ArrOfT s q.1 q.2 ∧ va_RA s q.1 q.2 := by
  obtain ⟨c0, a0, b0⟩ := pz_arr0 (hGW _ gw_acI)
  obtain ⟨c1, a1, b1⟩ := pz_arr0 (hGW _ gw_acB)
  obtain ⟨c2, a2, b2⟩ := pz_arr0 (hGW _ gw_acZ)
  obtain ⟨c3, a3, b3⟩ := pz_arr0 (hGW _ gw_acJ)
  obtain ⟨c4, a4, b4⟩ := pz_arrO hAO
  refine ⟨[(c0, .int), (c1, .byte), (c2, .boolean), (c3, .long), (c4, .object "java/lang/Object")], rfl, fun k q h => ?_⟩
  match k, h with
  | 0, h => cases h; exact ⟨a0, b0⟩
  | 1, h => cases h; exact ⟨a1, b1⟩
  | 2, h => cases h; exact ⟨a2, b2⟩
  | 3, h => cases h; exact ⟨a3, b3⟩
  | 4, h => cases h; exact ⟨a4, b4⟩
  | k + 5, h => simp at h
theorem pz_kn0 {s : State} {args : Array Value} (hGW : ∀ w ∈ GW, w.before args s = true) {ci : Nat} {C : String} {T : u_T} {N : Nat} {ty : Nat → FieldType} (hc : pz_cf ci C T N ty) (hi : Cond.instantiable C N ∈ GW) : ∃ (cC : ClassId) (iS : Nat → Nat), ∀ q : vw_C, vwCl[ci]? = some q → u_Kn s q.1 q.2.1 q.2.2 cC iS := by
  obtain ⟨cC, iS, h⟩ := u_known (C := C) (T := T) (N := N) (n := N) hGW hc.2.1 (hGW _ hi)
  refine ⟨cC, iS, fun q hq => ?_⟩
  have e := Option.some.inj (hc.1.symm.trans hq)
  subst e
  exact h
theorem pz_D0 {s : State} {args : Array Value} (hGW : ∀ w ∈ GW, w.before args s = true) : ∃ D : va_G, ∀ (c : Nat) (q : vw_C), vwCl[c]? = some q → u_Kn s q.1 q.2.1 q.2.2 (D.1 c) (D.2 c) := by
  have h : ∀ c : Nat, ∃ (cC : ClassId) (iS : Nat → Nat), ∀ q : vw_C, vwCl[c]? = some q → u_Kn s q.1 q.2.1 q.2.2 cC iS := by
    intro c
    match c with
    | 0 => exact pz_kn0 hGW cf_0 (pz_in (pz_t1 (i := 29) (by decide +kernel)) (by decide +kernel))
    | 1 => exact pz_kn0 hGW cf_1 (pz_in (pz_t1 (i := 134) (by decide +kernel)) (by decide +kernel))
    | 2 => exact pz_kn0 hGW cf_2 (pz_in (pz_t1 (i := 107) (by decide +kernel)) (by decide +kernel))
    | 3 => exact pz_kn0 hGW cf_3 (pz_in (pz_t1 (i := 179) (by decide +kernel)) (by decide +kernel))
    | 4 => exact pz_kn0 hGW cf_4 (pz_in (pz_t5 (i := 31) (by decide +kernel)) (by decide +kernel))
    | 5 => exact pz_kn0 hGW cf_5 (pz_in (pz_t1 (i := 140) (by decide +kernel)) (by decide +kernel))
    | 6 => exact pz_kn0 hGW cf_6 (pz_in (pz_t1 (i := 196) (by decide +kernel)) (by decide +kernel))
    | 7 => exact pz_kn0 hGW cf_7 (pz_in (pz_t1 (i := 37) (by decide +kernel)) (by decide +kernel))
    | 8 => exact pz_kn0 hGW cf_8 (pz_in (pz_t4 (i := 132) (by decide +kernel)) (by decide +kernel))
    | 9 => exact pz_kn0 hGW cf_9 (pz_in (pz_t1 (i := 101) (by decide +kernel)) (by decide +kernel))
    | 10 => exact pz_kn0 hGW cf_10 (pz_in (pz_t5 (i := 141) (by decide +kernel)) (by decide +kernel))
    | 11 => exact pz_kn0 hGW cf_11 (pz_in (pz_t1 (i := 75) (by decide +kernel)) (by decide +kernel))
    | c + 12 => exact ⟨0, fun _ => 0, fun q hq => by simp [vwCl] at hq⟩
  exact ⟨(fun c => Classical.choose (h c), fun c => Classical.choose (Classical.choose_spec (h c))), fun c q hq => Classical.choose_spec (Classical.choose_spec (h c)) q hq⟩
/-- from the law's pure function to the machine's end -/
theorem pz_law {v : Int32} {x : PX} {p : Program} {e : Env} {s : State} {m : MethodId} {below : List Frame} {meth : Method} {c : Code} {l : Launch} {b L : Nat} {xs : Nat → Int32} {w' : PW} (hE : ∀ Γ : PG, pg_S Γ = (L, xs) → EE Γ ML_law 0 (lv_args 0 [.retAddr 5]) [] ([], 0, 0) x) (hx : x = some (.inl (some (.int v)), w')) (h1 : w'.2.1 ≤ 601024) (h2 : w'.2.2 ≤ 7293000)
    (hst : l.stackTraces = false) (hex : p.tables.exec = Jvm.exec) (hb : c.code = code) (hr : meth.sig.returnType = ret) (hml : c.maxLocals = 7) (hn : s.methodNamed? yL_law = some m) (hnm : meth.name = "law") (hown : s.vm.findClass "WaveFilesLaw" = some m.cls) (hts : ∀ w ∈ lw_tbl, w.before #[Value.ref b] s = true) (hX : va_X b L xs s s.heap) (hbl : b < s.heap.size) (hlocks : meth.locks = false) (hgv : (Jvm.Cond.and given_1 narrow_1).before #[Value.ref b] s = true) :
    W p l e room_1 s m #[Value.ref b] below meth c s.heap [] 0 0 (fun t => ∃ o, t.status = .running ∧ Ended t below o ∧ o = .returned (some (.int v)) ∧ Framed s o t [] 601024 7293000) (entryFrame m ([Value.ref b] : List Value).toArray 7) := by
  have hGW : ∀ w ∈ GW, w.before #[Value.ref b] s = true := fun w hw => hts w (List.mem_filter.mp hw).1
  obtain ⟨X, hX5, hext⟩ := pz_start hst hts hX hbl hgv
  obtain ⟨D, hD⟩ := pz_D0 hGW
  obtain ⟨tys, hT1, hT2⟩ := pz_tys0 hGW hext.2.2.2.2.2.1
  have hk := hE (l, D, tys, (fun q : Nat => s.heap.size ≤ q), X, (L, xs), pz_ext l (fun q : Nat => s.heap.size ≤ q) X (L, xs)) rfl
  obtain ⟨-, -, h3⟩ := hk _ _ hx
  have hl := lv_entry [Value.ref b] (n := 7) (Nat.le_of_ble_eq_true rfl)
  rw [lg_entry_eq]
  refine h3 p e s m #[Value.ref b] below meth c room_1 [] 0 0 _ ⟨hex, hb, hr, hml, hGW, hown, hlocks, ⟨hD, hT2⟩, fun q h => h, hext, rfl, rfl, hnm, hn, hT1, fun U V g1 g2 g3 g4 => pz_ext.mv g1 g2 g3 g4, fun U h => h⟩ ⟨by show w'.2.1 ≤ 0 + 601024; omega, by show w'.2.2 ≤ 0 + 7293000; omega, fun t h => ?_⟩ _ _ _ _ _ _ ⟨[], _, [], pz_le.rf, fun k q h => by simp at h, ⟨fun i j p q h => by simp at h, fun k q h => by simp at h⟩, va_S.rf, ?_, hl, ⟨rfl, by show Value.ref b = Value.ref (X 5); rw [hX5], trivial⟩, trivial, rfl, rfl⟩
  · obtain ⟨o, g1, g2, ⟨⟨cv, α, ws, rfl, g4, -⟩, -⟩, LL, ⟨g5, g6, g7⟩, g8⟩ := h
    have hcv : cv = some (.int v) := by
      cases cv with
      | none => exact g4.elim
      | some v9 =>
        obtain ⟨_, g9, -⟩ := pz_sr.i g4
        cases g9
        rfl
    subst hcv
    refine ⟨_, g1, g2, rfl, ⟨_, rfl⟩, g6, ?_⟩
    obtain ⟨i1, i2, i3, i4, i5, i6⟩ := g7
    refine ⟨i1, i2, Nat.le_trans i3 (by omega), i4, Nat.le_trans i5 (by omega), fun a c9 hc => ?_⟩
    obtain ⟨c', j1, j2, j3, j4⟩ := i6 a c9 hc
    refine ⟨c', j1, j2, j3, fun i _ => j4 i (fun hm => ?_)⟩
    have := g8 _ hm
    exact absurd (Array.getElem?_eq_some_iff.mp hc).1 (Nat.not_lt.mpr this)
  · exact ⟨rfl, rfl, fun i x h => by simp at h⟩
