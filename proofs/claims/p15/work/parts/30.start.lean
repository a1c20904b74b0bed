/-! From the law's entry: what is known of the start, that it stays known, and the end. -/
theorem pz_ls.moved {C n d : String} {A : Nat → Prop} {u U : State} {H : Heap} (hvm : u.vm.Alike U.vm) (h : pz_ls C n d A u H) : pz_ls C n d A U H := by
  obtain ⟨c, k, i, f, a, cell, h1, h2, h3, h4, h5, h6, h7, h8, h9, h10⟩ := h
  obtain ⟨k', hi', he⟩ := State.fieldFound?_setVm hvm h2
  exact ⟨c, k', i, f, a, cell, by rw [hvm.findClass]; exact h1, hi', h3, by rw [he]; exact h4, h5, h6, h7, h8, by rw [he]; exact h9, h10⟩
theorem pz_ls.of {args : Array Value} {s : State} {C n d : String} {A : Nat → Prop} (h : (Cond.laysStatic C n d).before args s = true) (hA : ∀ a : Nat, a < s.heap.size → ¬ A a) : pz_ls C n d A s s.heap := by
  obtain ⟨c, k, i, f, a, cell, h1, h2, h3, h4, h5, h6, h7, h8, h9⟩ := Cond.laysStatic_spec h
  exact ⟨c, k, i, f, a, cell, h1, h2, h3, h4, h5, h6, h7, h8, h9, hA a (Array.getElem?_eq_some_iff.mp h5).1⟩
theorem pz_nw_warm {w : Cond} (hw : pz_wk w = true) {s U : State} (hW : s.WarmedH U.vm) (h : va_Nw w s) : va_Nw w U := by
  cases w with
  | fieldLinkNest a i b n d h' => exact va_Nw.warmF hW h
  | methodLinkNest a i x h' => exact va_Nw.warmM hW h
  | castable C T => exact va_Nw.warmC hW h
  | declares x => exact va_Nw.warmD hW h
  | _ => exact absurd (show false = true from hw) Bool.false_ne_true
theorem pz_ext.mv {l : Launch} {A : Nat → Prop} {X : Nat → Nat} {S : Nat × (Nat → Int32)} {U V : State} (h : pz_ext l A X S U) (hW : U.WarmedH V.vm) (hz : U.heap.size ≤ V.heap.size) (hq : ∀ q : Nat, q < U.heap.size → ¬ A q → V.heap[q]? = U.heap[q]?) : pz_ext l A X S V := by
  obtain ⟨h1, h2, h3, h4, h5, h6, h7, h8, h9, h10, h11, h12, h13, h14, h15, h16⟩ := h
  have al := hW.alike
  refine ⟨fun w hw => pz_nw_warm (List.mem_filter.mp hw).2 hW (h1 w hw), fun j hj => ⟨((h2 j hj).1.kept hq).moved al, ((h2 j hj).2.kept hq).moved al⟩, (h3.kept hq).moved al, (h4.kept hq).moved al, h5.moved al, h6.moved al, h7, fun q hm => ?_, (h9.kept hq).moved al, (h10.kept hq).moved al, (h11.kept hq).moved al, (h12.kept hq).moved al, fun q hm => (h13 q hm).moved al, (h14.kept (hq _ h15 h16)).moved al, Nat.lt_of_lt_of_le h15 hz, h16⟩
  obtain ⟨sa, hsa⟩ := h8 q hm
  exact ⟨sa, hsa.warm hW⟩
def pz_X (t0 t1 t2 t3 t4 t5 : Nat) : Nat → Nat := fun k => match k with
  | 0 => t0
  | 1 => t1
  | 2 => t2
  | 3 => t3
  | 4 => t4
  | _ => t5
/-- the given tables -/
theorem pz_tabs {args : Array Value} {s : State} {nm : String} {f : Nat → Int32} {A : Nat → Prop} (hl : (Cond.laysStatic "WaveFiles" nm "[I").before args s = true) (hini : (Cond.initialized "WaveFiles").before args s = true) (harr : (Cond.arrayOf (.static "WaveFiles" nm "[I") .int).before args s = true) (hlen : (Cond.eq (.length (.static "WaveFiles" nm "[I")) (.int 11)).before args s = true)
    (hel : ∀ j : Nat, j < 11 → (Cond.eq (.elem (.static "WaveFiles" nm "[I") (.int (Int32.ofNat j))) (.int (f j))).before args s = true) (hA : ∀ a : Nat, a < s.heap.size → ¬ A a) : ∃ t : Nat, va_Z "WaveFiles" nm "[I" (.ref t) A s s.heap ∧ va_T .int t 11 (fun k => .int (f k)) A s s.heap := by
  obtain ⟨t, ht, hT⟩ := va_Tof (N := 11) (f := fun k => .int (f k)) (A := A) (by decide) harr (va_eqt hlen) (fun j hj => va_eqt (hel j hj)) hA
  exact ⟨t, va_Zof hl hini ht hA, hT⟩
theorem pz_lt11 {P : Nat → Prop} (h0 : P 0) (h1 : P 1) (h2 : P 2) (h3 : P 3) (h4 : P 4) (h5 : P 5) (h6 : P 6) (h7 : P 7) (h8 : P 8) (h9 : P 9) (h10 : P 10) : ∀ j : Nat, j < 11 → P j
  | 0, _ => h0
  | 1, _ => h1
  | 2, _ => h2
  | 3, _ => h3
  | 4, _ => h4
  | 5, _ => h5
  | 6, _ => h6
  | 7, _ => h7
  | 8, _ => h8
  | 9, _ => h9
  | 10, _ => h10
  | j + 11, h => absurd h (by omega)
set_option maxHeartbeats 8000000 in
/-- what the Statement gives of the start -/
theorem pz_start {l : Launch} {s : State} {b L : Nat} {xs : Nat → Int32} (hst : l.stackTraces = false) (hts : ∀ w ∈ lw_tbl, w.before #[Value.ref b] s = true) (hX : va_X b L xs s s.heap) (hbl : b < s.heap.size) (hgv : (Jvm.Cond.and given_1 narrow_1).before #[Value.ref b] s = true) :
    ∃ X : Nat → Nat, X 5 = b ∧ pz_ext l (fun q : Nat => s.heap.size ≤ q) X (L, xs) s := by
  have hA : ∀ a : Nat, a < s.heap.size → ¬ (fun q : Nat => s.heap.size ≤ q) a := fun a h => Nat.not_le.mpr h
  have hs := flat_of_before _ hgv

  obtain ⟨t0, hZ0, hT0⟩ := pz_tabs (nm := "LEAST") (f := pz_tab 0) (A := fun q : Nat => s.heap.size ≤ q) (hts (Cond.laysStatic "WaveFiles" "LEAST" "[I") (pz_t3 (i := 75) (by decide +kernel))) (hts (Cond.initialized "WaveFiles") (pz_t1 (i := 1) (by decide +kernel))) (hs _ (by decide +kernel)) (hs _ (by decide +kernel)) (pz_lt11 (hs _ (by decide +kernel)) (hs _ (by decide +kernel)) (hs _ (by decide +kernel)) (hs _ (by decide +kernel)) (hs _ (by decide +kernel)) (hs _ (by decide +kernel)) (hs _ (by decide +kernel)) (hs _ (by decide +kernel)) (hs _ (by decide +kernel)) (hs _ (by decide +kernel)) (hs _ (by decide +kernel))) hA
  obtain ⟨t1, hZ1, hT1⟩ := pz_tabs (nm := "GREATEST") (f := pz_tab 1) (A := fun q : Nat => s.heap.size ≤ q) (hts (Cond.laysStatic "WaveFiles" "GREATEST" "[I") (pz_t3 (i := 77) (by decide +kernel))) (hts (Cond.initialized "WaveFiles") (pz_t1 (i := 1) (by decide +kernel))) (hs _ (by decide +kernel)) (hs _ (by decide +kernel)) (pz_lt11 (hs _ (by decide +kernel)) (hs _ (by decide +kernel)) (hs _ (by decide +kernel)) (hs _ (by decide +kernel)) (hs _ (by decide +kernel)) (hs _ (by decide +kernel)) (hs _ (by decide +kernel)) (hs _ (by decide +kernel)) (hs _ (by decide +kernel)) (hs _ (by decide +kernel)) (hs _ (by decide +kernel))) hA
  obtain ⟨t2, hZ2, hT2⟩ := pz_tabs (nm := "AT_FIRST") (f := pz_tab 2) (A := fun q : Nat => s.heap.size ≤ q) (hts (Cond.laysStatic "WaveFiles" "AT_FIRST" "[I") (pz_t2 (i := 18) (by decide +kernel))) (hts (Cond.initialized "WaveFiles") (pz_t1 (i := 1) (by decide +kernel))) (hs _ (by decide +kernel)) (hs _ (by decide +kernel)) (pz_lt11 (hs _ (by decide +kernel)) (hs _ (by decide +kernel)) (hs _ (by decide +kernel)) (hs _ (by decide +kernel)) (hs _ (by decide +kernel)) (hs _ (by decide +kernel)) (hs _ (by decide +kernel)) (hs _ (by decide +kernel)) (hs _ (by decide +kernel)) (hs _ (by decide +kernel)) (hs _ (by decide +kernel))) hA
  obtain ⟨t3, ht3, hT3⟩ := va_Tof (tm := .static "java/util/ArrayList" "DEFAULTCAPACITY_EMPTY_ELEMENTDATA" "[Ljava/lang/Object;") (ty := .object "java/lang/Object") (N := 0) (f := fun _ => .null) (A := fun q : Nat => s.heap.size ≤ q) (by decide) (hs _ (by decide +kernel)) (va_eqt (hs _ (by decide +kernel))) (fun j hj => absurd hj (Nat.not_lt_zero j)) hA
  have hZ3 := va_Zof (A := fun q : Nat => s.heap.size ≤ q) (hts (Cond.laysStatic "java/util/ArrayList" "DEFAULTCAPACITY_EMPTY_ELEMENTDATA" "[Ljava/lang/Object;") (pz_t1 (i := 87) (by decide +kernel))) (hts (Cond.initialized "java/util/ArrayList") (pz_t1 (i := 5) (by decide +kernel))) ht3 hA
  obtain ⟨mi, hMi⟩ := va_Mi.of (hs (Cond.isRef (.mirror "[Ljava/lang/Object;")) (by decide +kernel))
  refine ⟨pz_X t0 t1 t2 t3 mi b, rfl, fun w hw => va_Nw.of ?_ (hts w (List.mem_filter.mp hw).1), fun j hj => ?_, hZ3, hT3, hMi, va_AO.of (hts (Cond.arrayOver (.object "java/lang/Object")) (pz_t4 (i := 219) (by decide +kernel))), hst, ?_, va_Zqof (hts (Cond.laysStatic "java/lang/Throwable" "UNASSIGNED_STACK" "[Ljava/lang/StackTraceElement;") (pz_t4 (i := 10) (by decide +kernel))) (hts (Cond.initialized "java/lang/Throwable") (pz_t1 (i := 14) (by decide +kernel))) (hs _ (by decide +kernel)) hA, va_Zqof (hts (Cond.laysStatic "java/lang/Throwable" "SUPPRESSED_SENTINEL" "Ljava/util/List;") (pz_t4 (i := 12) (by decide +kernel))) (hts (Cond.initialized "java/lang/Throwable") (pz_t1 (i := 14) (by decide +kernel))) (hs _ (by decide +kernel)) hA, pz_ls.of (hts (Cond.laysStatic "java/lang/Throwable" "UNASSIGNED_STACK" "[Ljava/lang/StackTraceElement;") (pz_t4 (i := 10) (by decide +kernel))) hA, pz_ls.of (hts (Cond.laysStatic "java/lang/Throwable" "SUPPRESSED_SENTINEL" "Ljava/util/List;") (pz_t4 (i := 12) (by decide +kernel))) hA, ?_, hX, hbl, Nat.not_le.mpr hbl⟩
  · have h9 := (List.mem_filter.mp hw).2
    cases w with
    | fieldLinkNest a i b n d h' => rfl
    | methodLinkNest a i x h' => rfl
    | castable C T => rfl
    | declares x => rfl
    | _ => exact absurd (show false = true from h9) Bool.false_ne_true
  · match j, hj with
    | 0, _ => exact ⟨hZ0, hT0⟩
    | 1, _ => exact ⟨hZ1, hT1⟩
    | 2, _ => exact ⟨hZ2, hT2⟩
    | j + 3, h => exact absurd h (by omega)
  · refine List.forall_mem_cons.mpr ⟨?_, List.forall_mem_cons.mpr ⟨?_, List.forall_mem_cons.mpr ⟨?_, List.forall_mem_cons.mpr ⟨?_, List.forall_mem_cons.mpr ⟨?_, List.forall_mem_cons.mpr ⟨?_, List.forall_mem_cons.mpr ⟨?_, List.forall_mem_cons.mpr ⟨?_, List.forall_mem_cons.mpr ⟨?_, List.forall_mem_cons.mpr ⟨?_, List.forall_mem_cons.mpr ⟨?_, List.forall_mem_cons.mpr ⟨?_, List.forall_mem_cons.mpr ⟨?_, List.forall_mem_cons.mpr ⟨?_, List.forall_mem_cons.mpr ⟨?_, List.forall_mem_cons.mpr ⟨?_, List.forall_mem_cons.mpr ⟨?_, fun _ h => absurd h List.not_mem_nil⟩⟩⟩⟩⟩⟩⟩⟩⟩⟩⟩⟩⟩⟩⟩⟩⟩
    · obtain ⟨a, _, _, _, q1, -⟩ := Cond.exactly_spec (args := #[Value.ref b]) (first := s) (o := none) (s := s) (idx := []) (t := .string "WaveFiles" 93) (cls := "java/lang/String") (hs _ (by decide +kernel))
      exact ⟨a, vk_R.of (hts (Cond.stringRef "WaveFiles" 93 "no such setting there") (pz_t4 (i := 25) (by decide +kernel))) q1⟩
    · obtain ⟨a, _, _, _, q1, -⟩ := Cond.exactly_spec (args := #[Value.ref b]) (first := s) (o := none) (s := s) (idx := []) (t := .string "WaveFiles" 107) (cls := "java/lang/String") (hs _ (by decide +kernel))
      exact ⟨a, vk_R.of (hts (Cond.stringRef "WaveFiles" 107 "the sizes are fixed") (pz_t4 (i := 68) (by decide +kernel))) q1⟩
    · obtain ⟨a, _, _, _, q1, -⟩ := Cond.exactly_spec (args := #[Value.ref b]) (first := s) (o := none) (s := s) (idx := []) (t := .string "WaveFiles" 116) (cls := "java/lang/String") (hs _ (by decide +kernel))
      exact ⟨a, vk_R.of (hts (Cond.stringRef "WaveFiles" 116 "beyond the bounds of the setting") (pz_t4 (i := 89) (by decide +kernel))) q1⟩
    · obtain ⟨a, _, _, _, q1, -⟩ := Cond.exactly_spec (args := #[Value.ref b]) (first := s) (o := none) (s := s) (idx := []) (t := .string "WaveFiles" 131) (cls := "java/lang/String") (hs _ (by decide +kernel))
      exact ⟨a, vk_R.of (hts (Cond.stringRef "WaveFiles" 131 "no such tile") (pz_t4 (i := 114) (by decide +kernel))) q1⟩
    · obtain ⟨a, _, _, _, q1, -⟩ := Cond.exactly_spec (args := #[Value.ref b]) (first := s) (o := none) (s := s) (idx := []) (t := .string "WaveFiles" 138) (cls := "java/lang/String") (hs _ (by decide +kernel))
      exact ⟨a, vk_R.of (hts (Cond.stringRef "WaveFiles" 138 "no room for a tile part") (pz_t4 (i := 124) (by decide +kernel))) q1⟩
    · obtain ⟨a, _, _, _, q1, -⟩ := Cond.exactly_spec (args := #[Value.ref b]) (first := s) (o := none) (s := s) (idx := []) (t := .string "WaveFiles" 152) (cls := "java/lang/String") (hs _ (by decide +kernel))
      exact ⟨a, vk_R.of (hts (Cond.stringRef "WaveFiles" 152 "no such part") (pz_t4 (i := 230) (by decide +kernel))) q1⟩
    · obtain ⟨a, _, _, _, q1, -⟩ := Cond.exactly_spec (args := #[Value.ref b]) (first := s) (o := none) (s := s) (idx := []) (t := .string "WaveFiles" 162) (cls := "java/lang/String") (hs _ (by decide +kernel))
      exact ⟨a, vk_R.of (hts (Cond.stringRef "WaveFiles" 162 "no room for a packet") (pz_t4 (i := 231) (by decide +kernel))) q1⟩
    · obtain ⟨a, _, _, _, q1, -⟩ := Cond.exactly_spec (args := #[Value.ref b]) (first := s) (o := none) (s := s) (idx := []) (t := .string "WaveFiles" 164) (cls := "java/lang/String") (hs _ (by decide +kernel))
      exact ⟨a, vk_R.of (hts (Cond.stringRef "WaveFiles" 164 "the part has no packet") (pz_t4 (i := 239) (by decide +kernel))) q1⟩
    · obtain ⟨a, _, _, _, q1, -⟩ := Cond.exactly_spec (args := #[Value.ref b]) (first := s) (o := none) (s := s) (idx := []) (t := .string "WaveFiles" 170) (cls := "java/lang/String") (hs _ (by decide +kernel))
      exact ⟨a, vk_R.of (hts (Cond.stringRef "WaveFiles" 170 "no byte") (pz_t5 (i := 3) (by decide +kernel))) q1⟩
    · obtain ⟨a, _, _, _, q1, -⟩ := Cond.exactly_spec (args := #[Value.ref b]) (first := s) (o := none) (s := s) (idx := []) (t := .string "WaveFiles" 175) (cls := "java/lang/String") (hs _ (by decide +kernel))
      exact ⟨a, vk_R.of (hts (Cond.stringRef "WaveFiles" 175 "no room for a byte") (pz_t5 (i := 9) (by decide +kernel))) q1⟩
    · obtain ⟨a, _, _, _, q1, -⟩ := Cond.exactly_spec (args := #[Value.ref b]) (first := s) (o := none) (s := s) (idx := []) (t := .string "WaveFiles" 189) (cls := "java/lang/String") (hs _ (by decide +kernel))
      exact ⟨a, vk_R.of (hts (Cond.stringRef "WaveFiles" 189 "no kind for a box") (pz_t5 (i := 28) (by decide +kernel))) q1⟩
    · obtain ⟨a, _, _, _, q1, -⟩ := Cond.exactly_spec (args := #[Value.ref b]) (first := s) (o := none) (s := s) (idx := []) (t := .string "WaveFiles" 191) (cls := "java/lang/String") (hs _ (by decide +kernel))
      exact ⟨a, vk_R.of (hts (Cond.stringRef "WaveFiles" 191 "no room for a box") (pz_t5 (i := 29) (by decide +kernel))) q1⟩
    · obtain ⟨a, _, _, _, q1, -⟩ := Cond.exactly_spec (args := #[Value.ref b]) (first := s) (o := none) (s := s) (idx := []) (t := .string "WaveFiles" 198) (cls := "java/lang/String") (hs _ (by decide +kernel))
      exact ⟨a, vk_R.of (hts (Cond.stringRef "WaveFiles" 198 "no such box") (pz_t5 (i := 59) (by decide +kernel))) q1⟩
    · obtain ⟨a, _, _, _, q1, -⟩ := Cond.exactly_spec (args := #[Value.ref b]) (first := s) (o := none) (s := s) (idx := []) (t := .string "WaveFiles" 221) (cls := "java/lang/String") (hs _ (by decide +kernel))
      exact ⟨a, vk_R.of (hts (Cond.stringRef "WaveFiles" 221 "no such byte") (pz_t5 (i := 68) (by decide +kernel))) q1⟩
    · obtain ⟨a, _, _, _, q1, -⟩ := Cond.exactly_spec (args := #[Value.ref b]) (first := s) (o := none) (s := s) (idx := []) (t := .string "WaveFiles" 225) (cls := "java/lang/String") (hs _ (by decide +kernel))
      exact ⟨a, vk_R.of (hts (Cond.stringRef "WaveFiles" 225 "fewer than no bytes") (pz_t5 (i := 84) (by decide +kernel))) q1⟩
    · obtain ⟨a, _, _, _, q1, -⟩ := Cond.exactly_spec (args := #[Value.ref b]) (first := s) (o := none) (s := s) (idx := []) (t := .string "WaveFiles" 233) (cls := "java/lang/String") (hs _ (by decide +kernel))
      exact ⟨a, vk_R.of (hts (Cond.stringRef "WaveFiles" 233 "no room for so many bytes") (pz_t5 (i := 85) (by decide +kernel))) q1⟩
    · obtain ⟨a, _, _, _, q1, -⟩ := Cond.exactly_spec (args := #[Value.ref b]) (first := s) (o := none) (s := s) (idx := []) (t := .string "WaveFiles" 263) (cls := "java/lang/String") (hs _ (by decide +kernel))
      exact ⟨a, vk_R.of (hts (Cond.stringRef "WaveFiles" 263 "nothing was read") (pz_t5 (i := 108) (by decide +kernel))) q1⟩
  · exact List.forall_mem_cons.mpr ⟨va_Nc.of (hs (Cond.not (.castable "java/lang/IllegalStateException" "java/lang/IndexOutOfBoundsException")) (by decide +kernel)), List.forall_mem_cons.mpr ⟨va_Nc.of (hs (Cond.not (.castable "java/lang/IllegalArgumentException" "java/lang/IndexOutOfBoundsException")) (by decide +kernel)), List.forall_mem_cons.mpr ⟨va_Nc.of (hs (Cond.not (.castable "java/lang/UnsupportedOperationException" "java/lang/IndexOutOfBoundsException")) (by decide +kernel)), List.forall_mem_cons.mpr ⟨va_Nc.of (hs (Cond.not (.castable "java/lang/IndexOutOfBoundsException" "java/lang/IllegalStateException")) (by decide +kernel)), List.forall_mem_cons.mpr ⟨va_Nc.of (hs (Cond.not (.castable "java/lang/IllegalArgumentException" "java/lang/IllegalStateException")) (by decide +kernel)), List.forall_mem_cons.mpr ⟨va_Nc.of (hs (Cond.not (.castable "java/lang/UnsupportedOperationException" "java/lang/IllegalStateException")) (by decide +kernel)), List.forall_mem_cons.mpr ⟨va_Nc.of (hs (Cond.not (.castable "java/lang/IndexOutOfBoundsException" "java/lang/IllegalArgumentException")) (by decide +kernel)), List.forall_mem_cons.mpr ⟨va_Nc.of (hs (Cond.not (.castable "java/lang/IllegalStateException" "java/lang/IllegalArgumentException")) (by decide +kernel)), List.forall_mem_cons.mpr ⟨va_Nc.of (hs (Cond.not (.castable "java/lang/UnsupportedOperationException" "java/lang/IllegalArgumentException")) (by decide +kernel)), List.forall_mem_cons.mpr ⟨va_Nc.of (hs (Cond.not (.castable "java/lang/IndexOutOfBoundsException" "java/lang/UnsupportedOperationException")) (by decide +kernel)), List.forall_mem_cons.mpr ⟨va_Nc.of (hs (Cond.not (.castable "java/lang/IllegalStateException" "java/lang/UnsupportedOperationException")) (by decide +kernel)), List.forall_mem_cons.mpr ⟨va_Nc.of (hs (Cond.not (.castable "java/lang/IllegalArgumentException" "java/lang/UnsupportedOperationException")) (by decide +kernel)), fun _ h => absurd h List.not_mem_nil⟩⟩⟩⟩⟩⟩⟩⟩⟩⟩⟩⟩
