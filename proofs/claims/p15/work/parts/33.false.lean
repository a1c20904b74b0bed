/-! Where class and reference part: a LENGTH without its last byte that is above 100000 already. At this script the law's run comes to its end with 0. -/
def pz_scr : List Int32 := [1, 1, 0, 4, 0, -1, 2, 1, 0, 0, 0, 0, 2, 0, 0, 0, 0, 2, 0, 0, 0, 0, 2, 0, 0, 0, 0, 6, 0, 0, 0, 0, 9, 0, 1000, 0, 0, 10, 167, 255, 0, 0, 10, 168, 255, 0, 0, 10, 169, 255, 0, 0, 12, 0, 0, 0, 0, 13, 4, 0, 0, 0]
def pz_is (x : PX) (v : Int32) : Bool := match x with
  | some (.inl (some (.int u)), w) => u == v && decide (w.2.1 ≤ 601024) && decide (w.2.2 ≤ 7293000)
  | _ => false
theorem pz_is_some {v : Int32} : ∀ {x : PX}, pz_is x v = true → ∃ w' : PW, x = some (.inl (some (.int v)), w') ∧ w'.2.1 ≤ 601024 ∧ w'.2.2 ≤ 7293000
  | some (.inl (some (.int u)), w), h => by
    simp only [pz_is, Bool.and_eq_true, beq_iff_eq, decide_eq_true_eq] at h
    obtain ⟨⟨rfl, h1⟩, h2⟩ := h
    exact ⟨w, rfl, h1, h2⟩
  | none, h => nomatch h
  | some (.inr _, _), h => nomatch h
  | some (.inl none, _), h => nomatch h
  | some (.inl (some (.long _)), _), h => nomatch h
  | some (.inl (some (.float _)), _), h => nomatch h
  | some (.inl (some (.double _)), _), h => nomatch h
  | some (.inl (some (.ref _)), _), h => nomatch h
  | some (.inl (some (.retAddr _)), _), h => nomatch h
  | some (.inl (some .null), _), h => nomatch h
set_option maxRecDepth 1000000 in
theorem pz_scr_0 : pz_is (fL_law (62, fun j => pz_scr.getD j 0) ([], 0, 0)) 0 = true := by decide +kernel
/-- the run of the law at this script, from any start that the claim speaks of, ends with 0 -/
theorem pz_false {p : Program} {e : Env} {s : State} {m : MethodId} {below : List Frame} {meth : Method} {c : Code} {l : Launch} {b : Nat}
    (hst : l.stackTraces = false) (hex : p.tables.exec = Jvm.exec) (hb : c.code = code) (hr : meth.sig.returnType = ret) (hml : c.maxLocals = 7) (hn : s.methodNamed? yL_law = some m) (hnm : meth.name = "law") (hown : s.vm.findClass "WaveFilesLaw" = some m.cls) (hts : ∀ w ∈ lw_tbl, w.before #[Value.ref b] s = true) (hX : va_X b 62 (fun j => pz_scr.getD j 0) s s.heap) (hbl : b < s.heap.size) (hlocks : meth.locks = false) (hgv : (Jvm.Cond.and given_1 narrow_1).before #[Value.ref b] s = true) :
    W p l e room_1 s m #[Value.ref b] below meth c s.heap [] 0 0 (fun t => ∃ o, t.status = .running ∧ Ended t below o ∧ o = .returned (some (.int 0)) ∧ Framed s o t [] 601024 7293000) (entryFrame m ([Value.ref b] : List Value).toArray 7) := by
  obtain ⟨w', e1, e2, e3⟩ := pz_is_some pz_scr_0
  exact pz_law (fun Γ h => by have h9 := t_fL_law (Γ := Γ) ([], 0, 0); rw [h] at h9; exact h9) e1 e2 e3 hst hex hb hr hml hn hnm hown hts hX hbl hlocks hgv
