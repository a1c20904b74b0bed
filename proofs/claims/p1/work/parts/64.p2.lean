section
variable {w : PW} {z : Nat → Int32} {g : Nat → Nat → Int32} {e : Value} {P : List Nat} {rd : Int32}
/-- the kinds -/
theorem q_shr (x s : Int32) (h : s = 0 ∨ s = 8 ∨ s = 16 ∨ s = 24) : p_ishr x s &&& 255 = p_ushr x s &&& 255 := by
  have key : ∀ n : Nat, n ≤ 24 → (BitVec.sshiftRight x.toBitVec n) &&& 255#32 = (x.toBitVec >>> n) &&& 255#32 := by
    intro n hn
    ext i hi
    simp only [BitVec.getElem_and]
    by_cases h8 : i < 8
    · congr 1
      rw [BitVec.getElem_sshiftRight, BitVec.getElem_ushiftRight]
      rw [dif_pos (by omega)]
      rw [BitVec.getLsbD_eq_getElem (by omega)]
    · have : (255#32)[i] = false := by
        have e : ∀ j : Nat, j < 32 → 8 ≤ j → (255#32).getLsbD j = false := by decide
        exact e i hi (by omega)
      rw [this, Bool.and_false, Bool.and_false]
  apply Int32.toBitVec_inj.mp
  rcases h with e | e | e | e <;> subst e
  · exact key 0 (by omega)
  · exact key 8 (by omega)
  · exact key 16 (by omega)
  · exact key 24 (by omega)
def q_sg (x s : Int32) : Int32 := p_ushr x s &&& 255
def q_sgOk (x s : Int32) : Bool := decide (32 ≤ (q_sg x s).toInt ∧ (q_sg x s).toInt ≤ 126)
def q_kd (x : Int32) : Bool := q_sgOk x 0 && q_sgOk x 8 && q_sgOk x 16 && q_sgOk x 24
theorem qW_kind1 (x s : Int32) (hs : ¬ 32 ≤ s) (n : Nat) (w : PW) : fW_isKind_2 (n + 1) x s w = if q_sgOk x s = true then fW_isKind_2 n x (s + 8) w else some (.inl (some (.int 0)), w) := by
  rw [fW_isKind_2, if_neg hs, q_let]
  show (if q_sg x s < 32 then _ else if q_sg x s ≤ 126 then _ else _) = _
  unfold q_sgOk
  have a1 : q_sg x s < 32 ↔ (q_sg x s).toInt < 32 := q_lti
  have a2 : q_sg x s ≤ 126 ↔ (q_sg x s).toInt ≤ 126 := q_lei
  by_cases h1 : (q_sg x s).toInt < 32
  · rw [if_pos (a1.mpr h1), if_neg (by rw [decide_eq_true_eq]; omega)]; rfl
  · rw [if_neg (fun h => h1 (a1.mp h))]
    by_cases h2 : (q_sg x s).toInt ≤ 126
    · rw [if_pos (a2.mpr h2), if_pos (by rw [decide_eq_true_eq]; omega)]; rfl
    · rw [if_neg (fun h => h2 (a2.mp h)), if_neg (by rw [decide_eq_true_eq]; omega)]; rfl
theorem qW_kind (x : Int32) (w : PW) : fW_isKind x w = some (.inl (some (.int (if q_kd x = true then 1 else 0))), w) := by
  show fW_isKind_2 (999996 + 1 + 1 + 1 + 1) x 0 w = _
  rw [qW_kind1 x 0 (by decide), show (0 : Int32) + 8 = 8 from rfl, qW_kind1 x 8 (by decide), show (8 : Int32) + 8 = 16 from rfl, qW_kind1 x 16 (by decide), show (16 : Int32) + 8 = 24 from rfl, qW_kind1 x 24 (by decide), show (24 : Int32) + 8 = 32 from rfl, show (999996 : Nat) = 999995 + 1 from rfl, fW_isKind_2, if_pos (show (32 : Int32) ≤ 32 by decide)]
  unfold q_kd
  cases q_sgOk x 0 <;> cases q_sgOk x 8 <;> cases q_sgOk x 16 <;> cases q_sgOk x 24 <;> rfl
def q_own (x : Int32) : Bool := decide (x = 1783636000 ∨ x = 1718909296 ∨ x = 1785737832 ∨ x = 1768449138 ∨ x = 1785737827)
theorem qW_own (x : Int32) (w : PW) : fW_isOwnKind x w = some (.inl (some (.int (if q_own x = true then 1 else 0))), w) := by
  unfold fW_isOwnKind q_own
  simp only [decide_eq_true_eq, q_ret0, q_ret1]
  by_cases h1 : x = 1783636000
  · rw [if_pos h1, if_pos (Or.inl h1)]
  · rw [if_neg h1]
    by_cases h2 : x = 1718909296
    · rw [if_pos h2, if_pos (Or.inr (Or.inl h2))]
    · rw [if_neg h2]
      by_cases h3 : x = 1785737832
      · rw [if_pos h3, if_pos (Or.inr (Or.inr (Or.inl h3)))]
      · rw [if_neg h3]
        by_cases h4 : x = 1768449138
        · rw [if_pos h4, if_pos (Or.inr (Or.inr (Or.inr (Or.inl h4))))]
        · rw [if_neg h4]
          by_cases h5 : x = 1785737827
          · rw [if_neg (not_not_intro h5), if_pos (Or.inr (Or.inr (Or.inr (Or.inr h5))))]
          · rw [if_pos h5, if_neg (by rintro (k | k | k | k | k); exact h1 k; exact h2 k; exact h3 k; exact h4 k; exact h5 k)]
theorem qD_kind1 (x a s : Int32) (hs : s = 0 ∨ s = 8 ∨ s = 16 ∨ s = 24) (n : Nat) (w : PW) (ha : a = 0 ∨ a = 1) : fD_isKind_4 (n + 1) x a s w = fD_isKind_4 n x (if a = 1 ∧ q_sgOk x s = true then 1 else 0) (s + 8) w := by
  have e32 : (32 : Int64).toInt = 32 := rfl
  have e126 : (126 : Int64).toInt = 126 := rfl
  rw [fD_isKind_4, if_neg (by rcases hs with e | e | e | e <;> subst e <;> decide)]
  rcases ha with e | e
  · subst e
    rw [if_pos rfl, q_let, if_neg (fun h => absurd h.1 (by decide))]
  · subst e
    rw [if_neg (by decide), q_in, q_call, q_kI, q_64, q_shr x s hs, e32, e126]
    simp only [q_let, true_and]
    unfold q_sgOk
    simp only [decide_eq_true_eq]
    by_cases h : 32 ≤ (p_ushr x s &&& 255).toInt ∧ (p_ushr x s &&& 255).toInt ≤ 126
    · rw [if_pos h, if_neg (by decide), if_pos (show 32 ≤ (q_sg x s).toInt ∧ (q_sg x s).toInt ≤ 126 from h)]
    · rw [if_neg h, if_pos rfl, if_neg (show ¬ (32 ≤ (q_sg x s).toInt ∧ (q_sg x s).toInt ≤ 126) from h)]
theorem qD_kind (x : Int32) (w : PW) : fD_isKind x w = some (.inl (some (.int (if q_kd x = true ∧ q_own x = false then 1 else 0))), w) := by
  have i01 : ∀ p : Prop, [Decidable p] → ((if p then (1 : Int32) else 0) = 0 ∨ (if p then (1 : Int32) else 0) = 1) := fun p _ => by split; exact Or.inr rfl; exact Or.inl rfl
  have i1 : ∀ p : Prop, [Decidable p] → ((if p then (1 : Int32) else 0) = 1 ↔ p) := fun p _ => by
    split
    · rename_i h; exact ⟨fun _ => h, fun _ => rfl⟩
    · rename_i h; exact ⟨fun k => absurd k (by decide), fun k => absurd k h⟩
  show fD_isKind_4 (999996 + 1 + 1 + 1 + 1) x 1 0 w = _
  rw [qD_kind1 x 1 0 (Or.inl rfl) _ _ (Or.inr rfl), show (0 : Int32) + 8 = 8 from rfl, qD_kind1 x _ 8 (Or.inr (Or.inl rfl)) _ _ (i01 _), show (8 : Int32) + 8 = 16 from rfl, qD_kind1 x _ 16 (Or.inr (Or.inr (Or.inl rfl))) _ _ (i01 _), show (16 : Int32) + 8 = 24 from rfl, qD_kind1 x _ 24 (Or.inr (Or.inr (Or.inr rfl))) _ _ (i01 _), show (24 : Int32) + 8 = 32 from rfl, show (999996 : Nat) = 999995 + 1 from rfl, fD_isKind_4, if_pos (show (32 : Int32) ≤ 32 by decide)]
  simp only [i1, true_and]
  have hk : (((q_sgOk x 0 = true ∧ q_sgOk x 8 = true) ∧ q_sgOk x 16 = true) ∧ q_sgOk x 24 = true) ↔ q_kd x = true := by
    unfold q_kd
    simp only [Bool.and_eq_true]
  simp only [hk]
  by_cases h : q_kd x = true
  · rw [if_pos h, if_neg (by decide)]
    simp only [h, true_and, q_ret0, q_ret1]
    unfold q_own
    simp only [decide_eq_false_iff_not]
    by_cases h1 : x = 1783636000
    · rw [if_pos h1, if_neg (fun k => k (Or.inl h1))]
    · rw [if_neg h1]
      by_cases h2 : x = 1718909296
      · rw [if_pos h2, if_neg (fun k => k (Or.inr (Or.inl h2)))]
      · rw [if_neg h2]
        by_cases h3 : x = 1785737832
        · rw [if_pos h3, if_neg (fun k => k (Or.inr (Or.inr (Or.inl h3))))]
        · rw [if_neg h3]
          by_cases h4 : x = 1768449138
          · rw [if_pos h4, if_neg (fun k => k (Or.inr (Or.inr (Or.inr (Or.inl h4)))))]
          · rw [if_neg h4]
            by_cases h5 : x = 1785737827
            · rw [if_pos h5, if_neg (fun k => k (Or.inr (Or.inr (Or.inr (Or.inr h5)))))]
            · rw [if_neg h5, if_pos (by rintro (k | k | k | k | k); exact h1 k; exact h2 k; exact h3 k; exact h4 k; exact h5 k)]
  · rw [if_neg h, if_pos rfl, if_neg (fun k => h k.1)]; rfl
/-- how a box ends -/
def q_bc (n : Nat) (x : Int32) : Int32 := if ¬ (q_kd x = true ∧ q_own x = false) then 1 else if 8 ≤ n then 2 else 0
theorem qW_box (ho : qCo w rd) (hl : qL w 8 e P) (h8 : P.length ≤ 8) (hel : ∀ y : Nat, .ref y = e → y ≠ 0) (i x : Int32) (hi : i = 0 ∨ i = 1) :
    (q_bc P.length x = 1 → ∃ w', fW_box 0 i x w = some (.inr "java/lang/IllegalArgumentException", w') ∧ qT w w') ∧
    (q_bc P.length x = 2 → ∃ w', fW_box 0 i x w = some (.inr "java/lang/UnsupportedOperationException", w') ∧ qT w w') ∧
    (q_bc P.length x = 0 → ∃ w' e', fW_box 0 i x w = some (.inl (some (.int (Int32.ofNat P.length))), w') ∧ qL w' 8 e' (P ++ [w.1.length]) ∧ w'.1[w.1.length]? = some (.inr (4, [.int i, .int x, .ref (w.1.length + 1)])) ∧ qB w' (w.1.length + 1) (w.1.length + 2) 40 32 [] (fun _ => 0) ∧ qF (fun y => y = 8 ∨ .ref y = e) w w' ∧ (e' = e ∨ ∃ r, e' = .ref r ∧ w.1.length + 3 ≤ r) ∧ w'.2.2 ≤ w.2.2 + 87) := by
  have h2 : p_getR w 0 0 2 = some 8 := q_getR ho rfl
  obtain ⟨fl, hlo⟩ := hl.obj
  unfold fW_box fW_box_14 q_bc
  rw [qW_kind, q_call, q_kI]
  by_cases hk : q_kd x = true
  · rw [if_pos hk, if_neg (show ¬ (1 : Int32) = 0 by decide), qW_own, q_call, q_kI]
    cases how : q_own x
    · rw [if_neg (show ¬ false = true by decide), if_pos (show (0 : Int32) = 0 from rfl), if_neg (show ¬ ¬ (q_kd x = true ∧ false = false) from not_not_intro ⟨hk, rfl⟩), h2, Option.bind_some, hlo, Option.bind_some, hl.size, q_call, q_kI]
      by_cases hf : 8 ≤ P.length
      · rw [if_pos hf, if_neg (fun hh => by have := (q_lt (m := P.length) (n := 8) (by omega) (by omega)).mp hh; omega)]
        exact ⟨fun e => absurd e (by decide), fun _ => q_throw _ _, fun e => absurd e (by decide)⟩
      · rw [if_neg hf, if_pos (show Int32.ofNat P.length < 8 from (q_lt (m := P.length) (n := 8) (by omega) (by omega)).mpr (by omega)), h2, Option.bind_some]
        refine ⟨fun e => absurd e (by decide), fun e => absurd e (by decide), fun _ => ?_⟩
        obtain ⟨w1, g1, s1, F1⟩ := o_newO w 4 3 [.int 0, .int 0, .null]
        have l0 : 0 < w.1.length := q_lt_len ho
        have l8 : 8 < w.1.length := q_lt_len hl.choose_spec.1
        have lP : ∀ y, y ∈ P → y < w.1.length := fun y hy => q_lt_len (p_elt_some (hl.choose_spec.2.2.1 y hy)).choose_spec.choose_spec.1
        have le : ∀ y : Nat, .ref y = e → y < w.1.length := fun y hy => by
          rcases hl.choose_spec.2.2.2 with ⟨x1, -⟩ | ⟨r, n, f, x1, hr, -⟩
          · rw [x1] at hy; cases hy
          · rw [x1] at hy
            cases hy
            exact q_lt_len hr
        have L1 := F1.1
        rw [g1]
        unfold fMadeBox_init
        obtain ⟨w4, g4, s4, F4⟩ := o_newO w1 2 3 [.int 0, .null, .int 0]
        have L4 := F4.1
        rw [g4]
        unfold fBytes_init
        obtain ⟨w5, g5, s5, F5⟩ := o_newA w4 1 1 32 (by omega) (by omega)
        have L5 := F5.1
        rw [show (32 : Int32) = Int32.ofNat 32 from rfl, g5]
        obtain ⟨w6, g6, s6, F6⟩ := o_put (k := 1) (F5.at s4) (by simp) (.ref w4.1.length)
        have L6 := F6.1
        rw [g6, Option.bind_some]
        obtain ⟨w7, g7, s7, F7⟩ := o_put (k := 2) s6 (by simp) (.int 0)
        have L7 := F7.1
        rw [g7, Option.bind_some]
        obtain ⟨w8, g8, s8, F8⟩ := o_put (k := 0) s7 (by simp) (.int 40)
        have L8 := F8.1
        rw [g8, Option.bind_some, q_call, q_kV]
        have x3 := F8.at (F7.at (F6.at (F5.at (F4.at s1)) (by omega)) (by omega)) (by omega)
        obtain ⟨w9, g9, s9, F9⟩ := o_put (k := 2) x3 (by simp) (.ref w1.1.length)
        have L9 := F9.1
        rw [g9, Option.bind_some, if_neg (not_not_intro hi)]
        obtain ⟨wB, gB, sB, FB⟩ := o_put (k := 0) s9 (by simp) (.int i)
        have LB := FB.1
        rw [gB, Option.bind_some]
        obtain ⟨wC, gC, sC, FC⟩ := o_put (k := 1) sB (by simp) (.int x)
        have LC := FC.1
        rw [gC, Option.bind_some, q_call, q_kV]
        have old : ∀ y, y < w.1.length → wC.1[y]? = w.1[y]? := fun y hy => by
          rw [FC.2.1 y (by omega), FB.2.1 y (by omega), F9.2.1 y (by omega), F8.2.1 y (by omega), F7.2.1 y (by omega), F6.2.1 y (by omega), F5.2.1 y (by omega), F4.2.1 y (by omega), F1.2.1 y (by omega)]
        have hlC : qL wC 8 e P := hl.keep (fun y hy => old y (by
          rcases hy with h | h | h
          · omega
          · exact le y h
          · exact lP y h))
        have oC : wC.1[w.1.length]? = some (.inr (4, [.int i, .int x, .ref (w.1.length + 1)])) := by
          rw [sC]
          show some (Sum.inr (4, [Value.int i, Value.int x, Value.ref w1.1.length])) = _
          rw [L1]
        have bC : qB wC (w.1.length + 1) (w.1.length + 2) 40 32 [] (fun _ => 0) := by
          have e1 : w1.1.length = w.1.length + 1 := by omega
          have e2 : w4.1.length = w.1.length + 2 := by omega
          refine ⟨?_, ?_, by simp, by simp, Or.inr (Or.inr rfl), Or.inr (Or.inl rfl), by omega, fun _ => rfl, fun i hi => absurd hi (Nat.not_lt_zero i)⟩
          · rw [← e1, ← e2]
            exact FC.at (FB.at (F9.at s8 (by omega)) (by omega)) (by omega)
          · rw [← e2]
            exact FC.at (FB.at (F9.at (F8.at (F7.at (F6.at s5 (by omega)) (by omega)) (by omega)) (by omega)) (by omega)) (by omega)
        obtain ⟨flC, hloC⟩ := hlC.obj
        have elC : p_elt wC w.1.length = true := by
          unfold p_elt
          rw [oC]
          rfl
        obtain ⟨wD, e', gD, hlD, FD, eD, cD⟩ := hlC.add w.1.length elC (by omega)
        rw [hloC, Option.bind_some, gD, q_call, q_kI]
        have notE : ∀ y : Nat, w.1.length ≤ y → ¬ (y = 8 ∨ .ref y = e) := fun y hy h => by
          rcases h with h | h
          · omega
          · have := le y h
            omega
        have hoD : qCo wD rd := by
          have : wD.1[0]? = wC.1[0]? := q_keepF FD (by omega) (by rintro (h | h); omega; exact hel 0 h rfl)
          unfold qCo
          rw [this, old 0 l0]
          exact ho
        obtain ⟨flD, hloD⟩ := hlD.obj
        rw [q_getR (k := 2) hoD rfl, Option.bind_some, hloD, Option.bind_some, hlD.size, q_call, q_kI]
        have hsz : Int32.ofNat (P ++ [w.1.length]).length - 1 = Int32.ofNat P.length := by
          rw [List.length_append, show Int32.ofNat (P.length + [w.1.length].length) = Int32.ofNat P.length + 1 from Int32.ofNat_add _ _]
          grind
        rw [hsz]
        have c2 : wC.2 = w8.2 := by rw [FC.2.2, FB.2.2, F9.2.2]
        have c3 : w8.2 = w5.2 := by rw [F8.2.2, F7.2.2, F6.2.2]
        have c4 := F5.2.2
        have c5 := F4.2.2
        have c8 := F1.2.2
        refine ⟨wD, e', rfl, hlD, ?_, ?_, ?_, ?_, ?_⟩
        · rw [q_keepF FD (by omega) (notE _ (Nat.le_refl _)), oC]
        · obtain ⟨b1, b2, b3⟩ := bC
          exact ⟨by rw [q_keepF FD (by omega) (notE _ (by omega)), b1], by rw [q_keepF FD (by omega) (notE _ (by omega)), b2], b3⟩
        · refine ⟨by have := FD.1; omega, fun y hy hp => by rw [q_keepF FD (by omega) hp, old y hy], ?_⟩
          have c1 := FD.2.2
          rw [c2, c3] at c1
          omega
        · rcases eD with h | ⟨r, h, hr⟩
          · exact Or.inl h
          · exact Or.inr ⟨r, h, by omega⟩
        · rw [c2, c3] at cD
          omega
    · rw [if_pos (show true = true from rfl), if_neg (show ¬ (1 : Int32) = 0 by decide), if_pos (show ¬ (q_kd x = true ∧ true = false) from fun h => absurd h.2 (by decide))]
      exact ⟨fun _ => q_throw _ _, fun e => absurd e (by decide), fun e => absurd e (by decide)⟩
  · rw [if_neg hk, if_pos (show (0 : Int32) = 0 from rfl), if_pos (show ¬ (q_kd x = true ∧ q_own x = false) from fun h => hk h.1)]
    exact ⟨fun _ => q_throw _ _, fun e => absurd e (by decide), fun e => absurd e (by decide)⟩
theorem q_nar01 {i : Int32} (h : i = 0 ∨ i = 1) : vp_nar .boolean i = i := by
  rcases h with e | e <;> subst e <;> decide
def q_bxg (g : Nat → Nat → Int32) (n : Nat) (i x : Int32) : Nat → Nat → Int32 := ug (ug (ug g 48 n i) 49 n x) 50 n 0
theorem qM.bx26 (h : qM w z g) (i x s0 : Int32) (hs : s0 = 1 ∨ s0 = 2) : ∃ w', fD_box_26 37 i x s0 37 w = some (.inl (some (.int 0)), w') ∧ qM w' (upd z 0 s0) g ∧ qI 37 66 w w' := by
  obtain ⟨w1, g1, q1, F1⟩ := h.put 0 s0 (by omega) rfl
  unfold fD_box_26
  rw [g1, Option.bind_some, q1.I 0 rfl, Option.bind_some, show upd z 0 s0 0 = s0 from rfl, if_neg (by rcases hs with e | e <;> subst e <;> decide)]
  exact ⟨w1, rfl, q1, F1⟩
theorem qM.box (h : qM w z g) (n : Nat) (hz : z 14 = Int32.ofNat n) (hn : n ≤ 8) (i x : Int32) (hi : i = 0 ∨ i = 1) :
    ∃ w' b, fD_box 37 i x w = some (.inl (some (.int b)), w') ∧ qI 37 66 w w' ∧ (¬ q_bc n x = 0 → qM w' (upd z 0 (q_bc n x)) g) ∧ (q_bc n x = 0 → b = Int32.ofNat n ∧ qM w' (upd (upd z 0 0) 14 (Int32.ofNat (n + 1))) (q_bxg g n i x)) := by
  unfold fD_box q_bc
  rw [qD_kind, q_call, q_kI]
  by_cases hk : q_kd x = true ∧ q_own x = false
  · rw [if_pos hk, if_pos (show ¬ (1 : Int32) = 0 by decide), if_neg (not_not_intro hk), h.I 14 rfl, Option.bind_some, hz]
    by_cases hf : 8 ≤ n
    · have : n = 8 := by omega
      subst this
      rw [if_neg (show ¬ ¬ Int32.ofNat 8 = 8 from not_not_intro rfl), if_pos hf]
      obtain ⟨w1, g1, q1, F1⟩ := h.bx26 i x 2 (Or.inr rfl)
      exact ⟨w1, 0, g1, F1, fun _ => q1, fun e => absurd e (by decide)⟩
    · have hne : ¬ Int32.ofNat n = 8 := fun e => by
        have := congrArg Int32.toNatClampNeg e
        rw [q_tno (by omega)] at this
        have e8 : (8 : Int32).toNatClampNeg = 8 := rfl
        omega
      rw [if_pos hne, if_neg hf]
      obtain ⟨w1, g1, q1, F1⟩ := h.put 0 0 (by omega) rfl
      unfold fD_box_26
      rw [g1, Option.bind_some, q1.I 0 rfl, Option.bind_some, show upd z 0 0 0 = 0 from rfl, if_pos (by decide)]
      have z1 : upd z 0 0 14 = Int32.ofNat n := hz
      rw [q1.R 15 48 rfl, Option.bind_some, q1.I 14 rfl, Option.bind_some, z1, q_nar01 hi]
      obtain ⟨w2, g2, q2, F2⟩ := q1.stn 48 2 n i rfl (by omega) (by omega) (by show n < 8; omega) (by decide)
      rw [g2, Option.bind_some, q2.R 16 49 rfl, Option.bind_some, q2.I 14 rfl, Option.bind_some, z1]
      obtain ⟨w3, g3, q3, F3⟩ := q2.stn 49 0 n x rfl (by omega) (by omega) (by show n < 8; omega) (by decide)
      rw [g3, Option.bind_some, q3.R 17 50 rfl, Option.bind_some, q3.I 14 rfl, Option.bind_some, z1]
      obtain ⟨w4, g4, q4, F4⟩ := q3.stn 50 0 n 0 rfl (by omega) (by omega) (by show n < 8; omega) (by decide)
      rw [g4, Option.bind_some, q4.I 14 rfl, Option.bind_some, z1, show Int32.ofNat n + 1 = Int32.ofNat (n + 1) from (Int32.ofNat_add n 1).symm]
      obtain ⟨w5, g5, q5, F5⟩ := q4.put 14 (Int32.ofNat (n + 1)) (by omega) rfl
      rw [g5, Option.bind_some, q5.I 14 rfl, Option.bind_some, show upd (upd z 0 0) 14 (Int32.ofNat (n + 1)) 14 = Int32.ofNat (n + 1) from rfl, show Int32.ofNat (n + 1) - 1 = Int32.ofNat n by rw [show Int32.ofNat (n + 1) = Int32.ofNat n + 1 from Int32.ofNat_add n 1]; grind]
      exact ⟨w5, _, rfl, (((F1.tr F2).tr F3).tr F4).tr F5, fun hh => absurd rfl hh, fun _ => ⟨rfl, q5⟩⟩
  · rw [if_neg hk, if_neg (show ¬ ¬ (0 : Int32) = 0 from not_not_intro rfl), if_pos hk]
    obtain ⟨w1, g1, q1, F1⟩ := h.bx26 i x 1 (Or.inl rfl)
    exact ⟨w1, 0, g1, F1, fun _ => q1, fun e => absurd e (by decide)⟩
end
