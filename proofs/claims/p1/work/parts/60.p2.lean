theorem o_newR (w : PW) (n : Nat) (hn : n ≤ 1000) : ∃ w', (∀ K, p_newR w (Int32.ofNat n) K = K w.1.length w') ∧ w'.1[w.1.length]? = some (.inl (4, n, .inr (.inr (.inr (.inr fun _ => none))))) ∧ qA n w w' := by
  refine ⟨(w.1 ++ [.inl (4, n, .inr (.inr (.inr (.inr fun _ => none))))], w.2.1 + 1, w.2.2 + n), fun K => ?_, ?_, ?_, fun x hx => ?_, rfl, rfl⟩
  · unfold p_newR
    rw [q_tno (by omega), if_neg]
    rintro (h | h)
    · have := (q_lt (m := n) (n := 0) (by omega) (by omega)).mp h
      omega
    · omega
  · show (w.1 ++ [_])[w.1.length]? = _
    rw [List.getElem?_append_right (Nat.le_refl _), Nat.sub_self]; rfl
  · simp
  · exact List.getElem?_append_left hx
theorem q_arrR {w : PW} {a n : Nat} {f : Nat → Option Nat} (h : w.1[a]? = some (.inl (4, n, .inr (.inr (.inr (.inr f)))))) : p_arrR w a = some (n, f) := by
  simp only [p_arrR, h, if_true]
theorem o_copyR {w : PW} {a0 a1 n0 n1 n : Nat} {f0 f1 : Nat → Option Nat} (h0 : w.1[a0]? = some (.inl (4, n0, .inr (.inr (.inr (.inr f0)))))) (h1 : w.1[a1]? = some (.inl (4, n1, .inr (.inr (.inr (.inr f1)))))) (hn : n < 2147483648) (k0 : n ≤ n0) (k1 : n ≤ n1) (hf : ∀ i, i < n → p_eltO w (f0 i) = true) : ∃ w', p_copyR w a0 0 a1 0 (Int32.ofNat n) = some w' ∧ w'.1[a1]? = some (.inl (4, n1, .inr (.inr (.inr (.inr (va_cpy f0 f1 0 0 n)))))) ∧ qE a1 w w' := by
  refine ⟨(w.1.set a1 (.inl (4, n1, .inr (.inr (.inr (.inr (va_cpy f0 f1 0 0 n)))))), w.2), ?_, q_set_self h1, List.length_set, fun x hx => q_set_ne hx.symm, rfl⟩
  have z : (0 : Int32).toNatClampNeg = 0 := rfl
  have z2 : ¬ (0 : Int32) < 0 := by decide
  have z3 : ¬ Int32.ofNat n < 0 := fun h => absurd ((q_lt (m := n) (n := 0) hn (by omega)).mp h) (Nat.not_lt_zero _)
  simp only [p_copyR, q_arrR h0, q_arrR h1, Option.bind_some, q_tno hn, z]
  rw [if_pos]
  refine ⟨⟨z2, z2, z3, by omega, by omega⟩, fun i hi => ?_⟩
  rw [Nat.zero_add]
  exact hf i hi
theorem o_astR {w : PW} {a n : Nat} {f : Nat → Option Nat} {i : Int32} (h : w.1[a]? = some (.inl (4, n, .inr (.inr (.inr (.inr f)))))) (h0 : 0 ≤ i) (hi : i < Int32.ofNat n) (hn : n < 2147483648) (x : Option Nat) (hx : p_eltO w x = true) : ∃ w', p_astR w a i x = some w' ∧ w'.1[a]? = some (.inl (4, n, .inr (.inr (.inr (.inr (va_up f i.toNatClampNeg x)))))) ∧ qE a w w' := by
  refine ⟨(w.1.set a (.inl (4, n, .inr (.inr (.inr (.inr (va_up f i.toNatClampNeg x)))))), w.2), ?_, q_set_self h, List.length_set, fun x hx => q_set_ne hx.symm, rfl⟩
  simp only [p_astR, q_arrR h, Option.bind_some]
  rw [if_neg]
  have := q_inb h0 hi hn
  rintro (e | e | e)
  · exact this (Or.inl e)
  · exact this (Or.inr e)
  · rw [hx] at e; cases e
/-- a list of objects -/
def qL (w : PW) (a : Nat) (e : Value) (P : List Nat) : Prop := ∃ m, w.1[a]? = some (.inr (11, [.int m, e, .int (Int32.ofNat P.length)])) ∧ P.length ≤ 40 ∧ (∀ x ∈ P, p_elt w x = true) ∧
  ((e = .retAddr 3 ∧ P = []) ∨ ∃ r n f, e = .ref r ∧ w.1[r]? = some (.inl (4, n, .inr (.inr (.inr (.inr f))))) ∧ (n = 10 ∨ n = 15 ∨ n = 22 ∨ n = 33 ∨ n = 49) ∧ P.length ≤ n ∧ ∀ i, f i = P[i]?)
section
variable {w : PW} {a : Nat} {e : Value} {P : List Nat}
theorem q_splR {x : Nat} {K1 : Nat → PX} {K2 : PX} : p_spl (.ref x) K1 K2 = K1 x := rfl
theorem q_splX {K1 : Nat → PX} {K2 : PX} : p_spl (.retAddr 3) K1 K2 = K2 := rfl
theorem q_grow_e {w : PW} {a : Nat} {m : Int32} (ho : w.1[a]? = some (.inr (11, [.int m, .retAddr 3, .int 0]))) : ∃ w', fAL_grow1 a w = some (.inl (some (.ref w.1.length)), w') ∧ w'.1[a]? = some (.inr (11, [.int m, .ref w.1.length, .int 0])) ∧ w'.1[w.1.length]? = some (.inl (4, 10, .inr (.inr (.inr (.inr fun _ => none))))) ∧ qF (fun y => y = a) w w' ∧ w'.1.length = w.1.length + 1 ∧ w'.2.2 = w.2.2 + 10 := by
  unfold fAL_grow1
  rw [q_getI (k := 2) ho rfl, Option.bind_some, q_obj ho, Option.bind_some]
  unfold fAL_grow0
  have gv : p_getV w a 11 1 = some (.retAddr 3) := by
    unfold p_getV
    rw [q_obj ho]
    rfl
  obtain ⟨w2, g2, s2, F2⟩ := o_newR w 10 (by omega)
  obtain ⟨w3, g3, s3, F3⟩ := o_put (k := 1) (F2.at ho) (by simp) (.ref w.1.length)
  have la : a < w.1.length := q_lt_len ho
  rw [gv, Option.bind_some, q_splX, if_neg (by decide), Option.bind_some, q_splX, show p_max (10 : Int32) (0 + 1) = Int32.ofNat 10 from rfl, g2, g3, Option.bind_some, q_call, q_kR]
  exact ⟨w3, rfl, s3, F3.at s2 (by omega), ((F2.fr (by omega)).mono (fun _ _ h => h.elim)).tr F3.fr (fun _ _ h => h), by rw [F3.1, F2.1], by rw [F3.2.2, F2.2.2.2]⟩
theorem qL.obj (h : qL w a e P) : ∃ fs, p_obj w a 11 = some fs := by
  obtain ⟨m, h1, -⟩ := h
  exact ⟨_, q_obj h1⟩
theorem qL.size (h : qL w a e P) : fAL_size a w = some (.inl (some (.int (Int32.ofNat P.length))), w) := by
  obtain ⟨m, h1, -⟩ := h
  unfold fAL_size
  rw [q_getI h1 rfl, Option.bind_some]
theorem qL.get (h : qL w a e P) (i : Nat) (x : Nat) (hx : P[i]? = some x) : fAL_get a (Int32.ofNat i) w = some (.inl (some (.ref x)), w) := by
  obtain ⟨m, h1, h2, h3, h4⟩ := h
  have hi : i < P.length := (List.getElem?_eq_some_iff.mp hx).1
  rcases h4 with ⟨-, e2⟩ | ⟨r, n, f, e1, hr, hn, hle, hf⟩
  · rw [e2] at hi
    exact absurd hi (Nat.not_lt_zero _)
  · subst e1
    unfold fAL_get fObjects_checkIndex0 fPreconditions_checkIndex0 fAL_elementData
    have i0 : ¬ Int32.ofNat i < 0 := fun h => absurd ((q_lt (m := i) (n := 0) (by omega) (by omega)).mp h) (Nat.not_lt_zero _)
    have i1 : Int32.ofNat i < Int32.ofNat P.length := (q_lt (by omega) (by omega)).mpr hi
    have gv : p_getV w a 11 1 = some (.ref r) := by
      unfold p_getV
      rw [q_obj h1]
      rfl
    have al : p_aldR w r (Int32.ofNat i) = some x := by
      unfold p_aldR
      rw [q_arrR hr, Option.bind_some, if_neg (q_inb (q_ge0 i (by omega)) ((q_lt (by omega) (by omega)).mpr (by omega)) (by omega)), q_tno (by omega)]
      show f i = some x
      rw [hf, hx]
    rw [q_getI h1 rfl, Option.bind_some, if_neg i0, if_pos i1, q_call, q_kI, q_call, q_kI, q_obj h1, Option.bind_some, gv, Option.bind_some]
    show p_call ((p_aldR w r (Int32.ofNat i)).bind _) _ = _
    rw [al]
    rfl
theorem p_elt_keep {w w' : PW} {x : Nat} (h : w'.1[x]? = w.1[x]?) : p_elt w' x = p_elt w x := by
  unfold p_elt
  rw [h]
theorem p_elt_some {w : PW} {x : Nat} (h : p_elt w x = true) : ∃ c fs, w.1[x]? = some (.inr (c, fs)) ∧ (c = 4 ∨ c = 8) := by
  unfold p_elt at h
  split at h
  · rename_i c fs he
    refine ⟨c, fs, he, ?_⟩
    simpa using h
  · cases h
theorem qL.add11 {w : PW} {a r n l : Nat} {m : Int32} {f : Nat → Option Nat} {x : Nat} {e' : Value} (ho : w.1[a]? = some (.inr (11, [.int m, e', .int (Int32.ofNat l)]))) (hr : w.1[r]? = some (.inl (4, n, .inr (.inr (.inr (.inr f)))))) (hl : l < n) (hn : n ≤ 49) (hx : p_elt w x = true) :
    ∃ w', fAL_add0_11 a x r (Int32.ofNat l) w = some (.inl none, w') ∧ w'.1[a]? = some (.inr (11, [.int m, e', .int (Int32.ofNat (l + 1))])) ∧ w'.1[r]? = some (.inl (4, n, .inr (.inr (.inr (.inr (va_up f l (some x))))))) ∧ qF (fun y => y = a ∨ y = r) w w' ∧ w'.1.length = w.1.length ∧ w'.2 = w.2 := by
  have hne : a ≠ r := fun h => by rw [h, hr] at ho; cases ho
  unfold fAL_add0_11
  obtain ⟨w1, g1, s1, F1⟩ := o_astR hr (q_ge0 l (by omega)) ((q_lt (by omega) (by omega)).mpr hl) (by omega) (some x) hx
  rw [g1, Option.bind_some]
  rw [q_tno (by omega)] at s1
  obtain ⟨w2, g2, s2, F2⟩ := o_put (k := 2) (F1.at ho hne) (by simp) (.int (Int32.ofNat l + 1))
  rw [g2, Option.bind_some]
  refine ⟨w2, rfl, ?_, F2.at s1 hne.symm, (F1.fr.mono (fun _ _ h => Or.inr h)).tr F2.fr (fun _ _ h => Or.inl h), F2.1.trans F1.1, F2.2.2.trans F1.2.2⟩
  rw [s2, show Int32.ofNat (l + 1) = Int32.ofNat l + 1 from Int32.ofNat_add _ _]
  rfl
theorem q_getV {w : PW} {a c k : Nat} {fs : List Value} {v : Value} (h : w.1[a]? = some (.inr (c, fs))) (hk : fs[k]? = some v) : p_getV w a c k = some v := by
  unfold p_getV
  rw [q_obj h, Option.bind_some, hk]
theorem va_up_at {α : Type} (f : Nat → α) (k : Nat) (v : α) (j : Nat) : va_up f k v j = if j = k then v else f j := rfl
theorem q_snoc {P : List Nat} {x : Nat} (i : Nat) : (P ++ [x])[i]? = if i = P.length then some x else P[i]? := by
  by_cases h : i = P.length
  · rw [if_pos h, h, List.getElem?_append_right (Nat.le_refl _), Nat.sub_self]; rfl
  · rw [if_neg h]
    by_cases h2 : i < P.length
    · rw [List.getElem?_append_left h2]
    · rw [List.getElem?_eq_none (by simp; omega), List.getElem?_eq_none (by omega)]
theorem qL.add (h : qL w a e P) (x : Nat) (hx : p_elt w x = true) (hP : P.length < 40) : ∃ w' e', fAL_add1 a x w = some (.inl (some (.int 1)), w') ∧ qL w' a e' (P ++ [x]) ∧ qF (fun y => y = a ∨ .ref y = e) w w' ∧ (e' = e ∨ ∃ r, e' = .ref r ∧ w.1.length ≤ r) ∧ w'.2.2 ≤ w.2.2 + 49 := by
  obtain ⟨m, ho, h2, h3, h4⟩ := h
  have hax : ∀ y, p_elt w y = true → y ≠ a := fun y hy e => by
    obtain ⟨c, fs, k1, k2⟩ := p_elt_some hy
    rw [e, ho] at k1
    cases k1
    rcases k2 with k | k <;> cases k
  have hP1 : (Int32.ofNat P.length + 1) = Int32.ofNat (P.length + 1) := (Int32.ofNat_add _ _).symm
  unfold fAL_add1
  rw [q_getI (k := 0) ho rfl, Option.bind_some]
  obtain ⟨w1, g1, s1, F1⟩ := o_put (k := 0) ho (by simp) (.int (m + 1))
  have s1' : w1.1[a]? = some (.inr (11, [.int (m + 1), e, .int (Int32.ofNat P.length)])) := s1
  have hx1 : ∀ y, p_elt w y = true → p_elt w1 y = true := fun y hy => by rw [p_elt_keep (F1.2.1 y (hax y hy)), hy]
  rw [g1, Option.bind_some, q_getV (k := 1) s1' rfl, Option.bind_some]
  have hmem : ∀ (w' : PW), (∀ y, p_elt w y = true → w'.1[y]? = w.1[y]?) → ∀ y ∈ P ++ [x], p_elt w' y = true := fun w' hk y hy => by
    rcases List.mem_append.mp hy with h | h
    · rw [p_elt_keep (hk y (h3 y h)), h3 y h]
    · rw [List.mem_singleton.mp h, p_elt_keep (hk x hx), hx]
  rcases h4 with ⟨e1, e2⟩ | ⟨r, n, f, e1, hr, hn, hle, hf⟩
  · subst e1
    subst e2
    rw [q_splX, q_getI (k := 2) s1' rfl, Option.bind_some, q_obj s1', Option.bind_some]
    unfold fAL_add0
    obtain ⟨w3, g3, s3, hr3, F3, L3, c3⟩ := q_grow_e (show w1.1[a]? = some (.inr (11, [.int (m + 1), .retAddr 3, .int 0])) from s1')
    rw [q_splX, if_neg (show ¬ ¬ Int32.ofNat ([] : List Nat).length = 0 from not_not_intro rfl), q_obj s1', Option.bind_some, g3, q_call, q_kR]
    have la : a < w1.1.length := q_lt_len s1'
    have l1 := F1.1
    have keep3 : ∀ y, p_elt w y = true → w3.1[y]? = w.1[y]? := fun y hy => by
      have ly : y < w.1.length := q_lt_len (p_elt_some hy).choose_spec.choose_spec.1
      have hya := hax y hy
      rw [F3.2.1 y (by omega) hya, F1.2.1 y hya]
    have hx3 : p_elt w3 x = true := by rw [p_elt_keep (keep3 x hx), hx]
    obtain ⟨w4, g4, t4, r4, F4, L4, c4⟩ := qL.add11 (l := 0) s3 hr3 (by omega) (by omega) hx3
    rw [show Int32.ofNat ([] : List Nat).length = Int32.ofNat 0 from rfl, g4, q_call, q_kV, q_ret1]
    refine ⟨w4, .ref w1.1.length, rfl, ⟨m + 1, t4, by simp, hmem w4 (fun y hy => ?_), Or.inr ⟨_, 10, _, rfl, r4, Or.inl rfl, by simp, fun i => ?_⟩⟩, ?_, Or.inr ⟨_, rfl, by omega⟩, ?_⟩
    · have ly : y < w.1.length := q_lt_len (p_elt_some hy).choose_spec.choose_spec.1
      have hya := hax y hy
      rw [F4.2.1 y (by omega) (by omega), keep3 y hy]
    · rw [va_up_at, q_snoc]
      rfl
    · refine ((F1.fr.mono (Q := fun y => y = a ∨ Value.ref y = .retAddr 3) (fun _ _ h => Or.inl h)).tr F3 (fun _ _ h => Or.inl h)).tr F4 (fun y hy h => ?_)
      rcases h with h | h
      · exact Or.inl h
      · omega
    · rw [c4, c3, F1.2.2]
      omega
  · subst e1
    have hra : r ≠ a := fun h => by rw [h, ho] at hr; cases hr
    have hr1 := F1.at hr hra
    rw [q_splR, q_getI (k := 2) s1' rfl, Option.bind_some, q_obj s1', Option.bind_some]
    unfold fAL_add0
    rw [q_splR, q_len hr1, Option.bind_some]
    have lr : r < w.1.length := q_lt_len hr
    have la : a < w.1.length := q_lt_len ho
    by_cases hfull : P.length = n
    · rw [if_neg (not_not_intro (by rw [hfull])), q_obj s1', Option.bind_some]
      unfold fAL_grow1
      rw [q_getI (k := 2) s1' rfl, Option.bind_some, q_obj s1', Option.bind_some]
      unfold fAL_grow0
      rw [q_getV (k := 1) s1' rfl, Option.bind_some]
      obtain ⟨n2, hn2, hsh⟩ : ∃ n2, (n2 = 15 ∨ n2 = 22 ∨ n2 = 33 ∨ n2 = 49) ∧ (∀ w9, fArraysSupport_newLength (Int32.ofNat n) (Int32.ofNat n + 1 - Int32.ofNat n) (p_ishr (Int32.ofNat n) 1) w9 = some (.inl (some (.int (Int32.ofNat n2))), w9)) ∧ n < n2 := by
        rcases hn with e | e | e | e | e
        · exact ⟨15, Or.inl rfl, fun w9 => by subst e; rfl, by omega⟩
        · exact ⟨22, Or.inr (Or.inl rfl), fun w9 => by subst e; rfl, by omega⟩
        · exact ⟨33, Or.inr (Or.inr (Or.inl rfl)), fun w9 => by subst e; rfl, by omega⟩
        · exact ⟨49, Or.inr (Or.inr (Or.inr rfl)), fun w9 => by subst e; rfl, by omega⟩
        · omega
      obtain ⟨w2, g2, s2, F2⟩ := o_newR w1 n2 (by omega)
      have l1 := F1.1
      have l2 := F2.1
      have hr2 := F2.at hr1
      have helt : ∀ i, i < n → p_eltO w2 (f i) = true := fun i hi => by
        rw [hf i, List.getElem?_eq_getElem (by omega)]
        have hy := h3 P[i] (List.getElem_mem (by omega))
        have ly : P[i] < w.1.length := q_lt_len (p_elt_some hy).choose_spec.choose_spec.1
        show p_elt w2 P[i] = true
        rw [p_elt_keep (F2.2.1 _ (by omega)), hx1 _ hy]
      obtain ⟨w3, g3, s3, F3⟩ := o_copyR (n := n) hr2 s2 (by omega) (Nat.le_refl _) (by omega) helt
      have l3 := F3.1
      obtain ⟨w4, g4, s4, F4⟩ := o_put (k := 1) (F3.at (F2.at s1') (by omega)) (by simp) (.ref w1.1.length)
      have l4 := F4.1
      have s4' : w4.1[a]? = some (.inr (11, [.int (m + 1), .ref w1.1.length, .int (Int32.ofNat P.length)])) := s4
      have keep4 : ∀ y, p_elt w y = true → w4.1[y]? = w.1[y]? := fun y hy => by
        have ly : y < w.1.length := q_lt_len (p_elt_some hy).choose_spec.choose_spec.1
        have hya := hax y hy
        rw [F4.2.1 y hya, F3.2.1 y (by omega), F2.2.1 y (by omega), F1.2.1 y hya]
      have hx4 : p_elt w4 x = true := by rw [p_elt_keep (keep4 x hx), hx]
      have hr4 : w4.1[w1.1.length]? = some (.inl (4, n2, .inr (.inr (.inr (.inr (va_cpy f (fun _ => none) 0 0 n)))))) := F4.at s3 (by omega)
      obtain ⟨w5, g5, t5, r5, F5, L5, c5⟩ := qL.add11 (l := P.length) s4' hr4 (by omega) (by omega) hx4
      refine ⟨w5, .ref w1.1.length, ?_, ⟨m + 1, by rw [t5]; simp, by simp; omega, hmem w5 (fun y hy => ?_), Or.inr ⟨_, n2, _, rfl, r5, by omega, by simp; omega, fun i => ?_⟩⟩, ?_, Or.inr ⟨_, rfl, by omega⟩, ?_⟩
      · rw [q_splR, q_len hr1, Option.bind_some, if_pos (show 0 < Int32.ofNat n from (q_lt (m := 0) (n := n) (by omega) (by omega)).mpr (by omega))]
        unfold fAL_grow0_20
        rw [hfull, hsh.1 w1, q_call, q_kI, q_getV (k := 1) s1' rfl, Option.bind_some, q_splR]
        unfold fAR_copyOf0 fAR_copyOf1 fAR_copyOf1_24
        rw [q_arrR hr1, Option.bind_some, g2, q_len hr2, Option.bind_some, q_min (by omega) (by omega), Nat.min_eq_left (by omega), g3, Option.bind_some, q_call, q_kR, q_call, q_kR, g4, Option.bind_some, q_call, q_kR, q_call, q_kR]
        rw [hfull] at g5
        rw [g5, q_call, q_kV, q_ret1]
      · have ly : y < w.1.length := q_lt_len (p_elt_some hy).choose_spec.choose_spec.1
        have hya := hax y hy
        rw [F5.2.1 y (by omega) (by omega), keep4 y hy]
      · rw [va_up_at, q_snoc]
        by_cases hi : i = P.length
        · rw [if_pos hi, if_pos hi]
        · rw [if_neg hi, if_neg hi]
          unfold va_cpy
          by_cases hi2 : i < n
          · rw [if_pos (by omega), show 0 + (i - 0) = i by omega, hf i]
          · rw [if_neg (by omega), List.getElem?_eq_none (by omega)]
      · refine ((((F1.fr.mono (Q := fun y => y = a ∨ Value.ref y = .ref r) (fun _ _ h => Or.inl h)).tr (F2.fr (by omega)) (fun _ _ h => h.elim)).tr F3.fr (fun y hy h => by omega)).tr F4.fr (fun _ _ h => Or.inl h)).tr F5 (fun y hy h => ?_)
        rcases h with h | h
        · exact Or.inl h
        · omega
      · rw [c5, F4.2.2, F3.2.2, F2.2.2.2, F1.2.2]
        omega
    · rw [if_pos (fun h => hfull (by have := congrArg Int32.toNatClampNeg h; rw [q_tno (by omega), q_tno (by omega)] at this; exact this))]
      obtain ⟨w5, g5, t5, r5, F5, L5, c5⟩ := qL.add11 (l := P.length) s1' hr1 (by omega) (by omega) (hx1 x hx)
      rw [g5, q_call, q_kV, q_ret1]
      have l1 := F1.1
      refine ⟨w5, .ref r, rfl, ⟨m + 1, by rw [t5]; simp, by simp; omega, hmem w5 (fun y hy => ?_), Or.inr ⟨r, n, _, rfl, r5, hn, by simp; omega, fun i => ?_⟩⟩, ?_, Or.inl rfl, by rw [c5, F1.2.2]; omega⟩
      · have ly : y < w.1.length := q_lt_len (p_elt_some hy).choose_spec.choose_spec.1
        have hya := hax y hy
        have hyr : y ≠ r := fun h => by
          obtain ⟨c, fs, k1, -⟩ := p_elt_some hy
          rw [h, hr] at k1
          cases k1
        rw [F5.2.1 y (by omega) (by rintro (h | h); exact hya h; exact hyr h), F1.2.1 y hya]
      · rw [va_up_at, q_snoc, hf i]
      · refine (F1.fr.mono (Q := fun y => y = a ∨ Value.ref y = .ref r) (fun _ _ h => Or.inl h)).tr F5 (fun y hy h => ?_)
        rcases h with h | h
        · exact Or.inl h
        · exact Or.inr (by rw [h])
end
