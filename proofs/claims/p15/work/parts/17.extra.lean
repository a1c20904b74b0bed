/-- a split of an argument -/
theorem ee_splA {Γ : PG} {μ : PM} {pc : Nat} {st : List Value} {w : PW} {v : Value} {K1 : Nat → PX} {K2 : PX} {as bs : List Value} (k1 : ∀ x, EE Γ μ pc (lv_args 0 (as ++ .ref x :: bs)) st w (K1 x)) (k2 : EE Γ μ pc (lv_args 0 (as ++ .retAddr 3 :: bs)) st w K2) : EE Γ μ pc (lv_args 0 (as ++ v :: bs)) st w (p_spl v K1 K2) := by
  match v with
  | .ref x => exact k1 x
  | .retAddr n =>
    show EE Γ μ pc (lv_args 0 (as ++ .retAddr n :: bs)) st w (if n = 3 then K2 else none)
    by_cases h : n = 3
    · subst h; rw [if_pos rfl]; exact k2
    · rw [if_neg h]; exact ee_none
  | .int _ => exact ee_none
  | .long _ => exact ee_none
  | .float _ => exact ee_none
  | .double _ => exact ee_none
  | .null => exact ee_none
/-- a text by a wide index -/
theorem va_ldcSW {p : Program} {l : Launch} {e : Env} {R : Room} {s : State} {m : MethodId} {args : Array Value} {below : List Frame} {meth : Method} {c : Code} {H : Heap} {locs : List Loc} {cells slots : Nat} {Q : State → Prop} {cc : ByteArray} {pc : Nat} {ls : Array Slot} {rest : List Value} (hexec : p.tables.exec = Jvm.exec) (hb : c.code = cc) {own tx : String} {index q : Nat} (hown : s.vm.findClass own = some m.cls) (hZ : vk_R own index tx q s) (hdg : decode cc pc = .ok (.ldc_w index, 3))
    (k : W p l e R s m args below meth c H locs cells slots Q (F0 m (pc + 3) ls (.ref q :: rest))) : W p l e R s m args below meth c H locs cells slots Q (F0 m pc ls rest) := by
  intro T hT X
  obtain ⟨t, a1, b1⟩ := k T hT X
  exact ⟨t, X.ldcStringW hexec hown (text := tx) (a := q) hZ.1 hZ.2 (g := F0 m pc ls rest) rfl (by rw [hb]; exact hdg) t a1, b1⟩
