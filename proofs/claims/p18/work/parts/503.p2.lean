theorem o_newR (w : PW) (n : Nat) (hn : n ≤ 1000) : ∃ w', (∀ K, p_newR w (Int32.ofNat n) K = K w.1.length w') ∧ w'.1[w.1.length]? = some (.inl (4, n, .inr (.inr (.inr (.inr fun _ => none))))) ∧ qA n w w' := by
  refine ⟨(w.1 ++ [.inl (4, n, .inr (.inr (.inr (.inr fun _ => none))))], w.2.1 + 1, w.2.2 + n), fun K => ?_, ?_, ?_, fun x hx => ?_, rfl, rfl⟩
  · unfold p_newR
    rw [q_tno (by omega), if_neg]
    rintro (h | h)
    · have := (q_lt (m := n) (n := 0) (by omega) (by omega)).mp h
      omega
    · omega
  · show (w.1 ++ [_])[w.1.length]? = _
    rw [List.getElem?_append_right (Nat.le_refl _), Nat.sub_self]; rfl
  · simp
  · exact List.getElem?_append_left hx
theorem q_arrR {w : PW} {a n : Nat} {f : Nat → Option Nat} (h : w.1[a]? = some (.inl (4, n, .inr (.inr (.inr (.inr f)))))) : p_arrR w a = some (n, f) := by
  simp only [p_arrR, h, if_true]
theorem o_copyR {w : PW} {a0 a1 n0 n1 n : Nat} {f0 f1 : Nat → Option Nat} (h0 : w.1[a0]? = some (.inl (4, n0, .inr (.inr (.inr (.inr f0)))))) (h1 : w.1[a1]? = some (.inl (4, n1, .inr (.inr (.inr (.inr f1)))))) (hn : n < 2147483648) (k0 : n ≤ n0) (k1 : n ≤ n1) (hf : ∀ i, i < n → p_eltO w (f0 i) = true) : ∃ w', p_copyR w a0 0 a1 0 (Int32.ofNat n) = some w' ∧ w'.1[a1]? = some (.inl (4, n1, .inr (.inr (.inr (.inr (va_cpy f0 f1 0 0 n)))))) ∧ qE a1 w w' := by
  refine ⟨(w.1.set a1 (.inl (4, n1, .inr (.inr (.inr (.inr (va_cpy f0 f1 0 0 n)))))), w.2), ?_, q_set_self h1, List.length_set, fun x hx => q_set_ne hx.symm, rfl⟩
  have z : (0 : Int32).toNatClampNeg = 0 := rfl
  have z2 : ¬ (0 : Int32) < 0 := by decide
  have z3 : ¬ Int32.ofNat n < 0 := fun h => absurd ((q_lt (m := n) (n := 0) hn (by omega)).mp h) (Nat.not_lt_zero _)
  simp only [p_copyR, q_arrR h0, q_arrR h1, Option.bind_some, q_tno hn, z]
  rw [if_pos]
  refine ⟨⟨z2, z2, z3, by omega, by omega⟩, fun i hi => ?_⟩
  rw [Nat.zero_add]
  exact hf i hi
theorem o_astR {w : PW} {a n : Nat} {f : Nat → Option Nat} {i : Int32} (h : w.1[a]? = some (.inl (4, n, .inr (.inr (.inr (.inr f)))))) (h0 : 0 ≤ i) (hi : i < Int32.ofNat n) (hn : n < 2147483648) (x : Option Nat) (hx : p_eltO w x = true) : ∃ w', p_astR w a i x = some w' ∧ w'.1[a]? = some (.inl (4, n, .inr (.inr (.inr (.inr (va_up f i.toNatClampNeg x)))))) ∧ qE a w w' := by
  refine ⟨(w.1.set a (.inl (4, n, .inr (.inr (.inr (.inr (va_up f i.toNatClampNeg x)))))), w.2), ?_, q_set_self h, List.length_set, fun x hx => q_set_ne hx.symm, rfl⟩
  simp only [p_astR, q_arrR h, Option.bind_some]
  rw [if_neg]
  have := q_inb h0 hi hn
  rintro (e | e | e)
  · exact this (Or.inl e)
  · exact this (Or.inr e)
  · rw [hx] at e; cases e
/-- a list of objects -/
def qL (w : PW) (a : Nat) (e : Value) (P : List Nat) : Prop := ∃ m, w.1[a]? = some (.inr (11, [.int m, e, .int (Int32.ofNat P.length)])) ∧ P.length ≤ 40 ∧ (∀ x ∈ P, p_elt w x = true) ∧
  ((e = .retAddr 3 ∧ P = []) ∨ ∃ r n f, e = .ref r ∧ w.1[r]? = some (.inl (4, n, .inr (.inr (.inr (.inr f))))) ∧ (n = 10 ∨ n = 15 ∨ n = 22 ∨ n = 33 ∨ n = 49) ∧ P.length ≤ n ∧ ∀ i, f i = P[i]?)
section
variable {w : PW} {a : Nat} {e : Value} {P : List Nat}
theorem q_splR {x : Nat} {K1 : Nat → PX} {K2 : PX} : p_spl (.ref x) K1 K2 = K1 x := rfl
theorem q_splX {K1 : Nat → PX} {K2 : PX} : p_spl (.retAddr 3) K1 K2 = K2 := rfl
theorem q_grow_e {w : PW} {a : Nat} {m : Int32} (ho : w.1[a]? = some (.inr (11, [.int m, .retAddr 3, .int 0]))) : ∃ w', fAL_grow1 a w = some (.inl (some (.ref w.1.length)), w') ∧ w'.1[a]? = some (.inr (11, [.int m, .ref w.1.length, .int 0])) ∧ w'.1[w.1.length]? = some (.inl (4, 10, .inr (.inr (.inr (.inr fun _ => none))))) ∧ qF (fun y => y = a) w w' ∧ w'.1.length = w.1.length + 1 ∧ w'.2.2 = w.2.2 + 10 := by
  unfold fAL_grow1
  rw [q_getI (k := 2) ho rfl, Option.bind_some, q_obj ho, Option.bind_some]
  unfold fAL_grow0
  have gv : p_getV w a 11 1 = some (.retAddr 3) := by
    unfold p_getV
    rw [q_obj ho]
    rfl
  obtain ⟨w2, g2, s2, F2⟩ := o_newR w 10 (by omega)
  obtain ⟨w3, g3, s3, F3⟩ := o_put (k := 1) (F2.at ho) (by simp) (.ref w.1.length)
  have la : a < w.1.length := q_lt_len ho
  rw [gv, Option.bind_some, q_splX, if_neg (by decide), Option.bind_some, q_splX, show p_max (10 : Int32) (0 + 1) = Int32.ofNat 10 from rfl, g2, g3, Option.bind_some, q_call, q_kR]
  exact ⟨w3, rfl, s3, F3.at s2 (by omega), ((F2.fr (by omega)).mono (fun _ _ h => h.elim)).tr F3.fr (fun _ _ h => h), by rw [F3.1, F2.1], by rw [F3.2.2, F2.2.2.2]⟩
theorem qL.obj (h : qL w a e P) : ∃ fs, p_obj w a 11 = some fs := by
  obtain ⟨m, h1, -⟩ := h
  exact ⟨_, q_obj h1⟩
theorem qL.size (h : qL w a e P) : fAL_size a w = some (.inl (some (.int (Int32.ofNat P.length))), w) := by
  obtain ⟨m, h1, -⟩ := h
  unfold fAL_size
  rw [q_getI h1 rfl, Option.bind_some]
theorem qL.get (h : qL w a e P) (i : Nat) (x : Nat) (hx : P[i]? = some x) : fAL_get a (Int32.ofNat i) w = some (.inl (some (.ref x)), w) := by
  obtain ⟨m, h1, h2, h3, h4⟩ := h
  have hi : i < P.length := (List.getElem?_eq_some_iff.mp hx).1
  rcases h4 with ⟨-, e2⟩ | ⟨r, n, f, e1, hr, hn, hle, hf⟩
  · rw [e2] at hi
    exact absurd hi (Nat.not_lt_zero _)
  · subst e1
    unfold fAL_get fObjects_checkIndex0 fPreconditions_checkIndex0 fAL_elementData
    have i0 : ¬ Int32.ofNat i < 0 := fun h => absurd ((q_lt (m := i) (n := 0) (by omega) (by omega)).mp h) (Nat.not_lt_zero _)
    have i1 : Int32.ofNat i < Int32.ofNat P.length := (q_lt (by omega) (by omega)).mpr hi
    have gv : p_getV w a 11 1 = some (.ref r) := by
      unfold p_getV
      rw [q_obj h1]
      rfl
    have al : p_aldR w r (Int32.ofNat i) = some x := by
      unfold p_aldR
      rw [q_arrR hr, Option.bind_some, if_neg (q_inb (q_ge0 i (by omega)) ((q_lt (by omega) (by omega)).mpr (by omega)) (by omega)), q_tno (by omega)]
      show f i = some x
      rw [hf, hx]
    rw [q_getI h1 rfl, Option.bind_some, if_neg i0, if_pos i1, q_call, q_kI, q_call, q_kI, q_obj h1, Option.bind_some, gv, Option.bind_some]
    show p_call ((p_aldR w r (Int32.ofNat i)).bind _) _ = _
    rw [al]
    rfl
theorem p_elt_keep {w w' : PW} {x : Nat} (h : w'.1[x]? = w.1[x]?) : p_elt w' x = p_elt w x := by
  unfold p_elt
  rw [h]
theorem p_elt_some {w : PW} {x : Nat} (h : p_elt w x = true) : ∃ c fs, w.1[x]? = some (.inr (c, fs)) ∧ (c = 4 ∨ c = 8) := by
  unfold p_elt at h
  split at h
  · rename_i c fs he
    refine ⟨c, fs, he, ?_⟩
    simpa using h
  · cases h
theorem qL.add11 {w : PW} {a r n l : Nat} {m : Int32} {f : Nat → Option Nat} {x : Nat} {e' : Value} (ho : w.1[a]? = some (.inr (11, [.int m, e', .int (Int32.ofNat l)]))) (hr : w.1[r]? = some (.inl (4, n, .inr (.inr (.inr (.inr f)))))) (hl : l < n) (hn : n ≤ 49) (hx : p_elt w x = true) :
    ∃ w', fAL_add0_11 a x r (Int32.ofNat l) w = some (.inl none, w') ∧ w'.1[a]? = some (.inr (11, [.int m, e', .int (Int32.ofNat (l + 1))])) ∧ w'.1[r]? = some (.inl (4, n, .inr (.inr (.inr (.inr (va_up f l (some x))))))) ∧ qF (fun y => y = a ∨ y = r) w w' ∧ w'.1.length = w.1.length ∧ w'.2 = w.2 := by
  have hne : a ≠ r := fun h => by rw [h, hr] at ho; cases ho
  unfold fAL_add0_11
  obtain ⟨w1, g1, s1, F1⟩ := o_astR hr (q_ge0 l (by omega)) ((q_lt (by omega) (by omega)).mpr hl) (by omega) (some x) hx
  rw [g1, Option.bind_some]
  rw [q_tno (by omega)] at s1
  obtain ⟨w2, g2, s2, F2⟩ := o_put (k := 2) (F1.at ho hne) (by simp) (.int (Int32.ofNat l + 1))
  rw [g2, Option.bind_some]
  refine ⟨w2, rfl, ?_, F2.at s1 hne.symm, (F1.fr.mono (fun _ _ h => Or.inr h)).tr F2.fr (fun _ _ h => Or.inl h), F2.1.trans F1.1, F2.2.2.trans F1.2.2⟩
  rw [s2, show Int32.ofNat (l + 1) = Int32.ofNat l + 1 from Int32.ofNat_add _ _]
  rfl
theorem q_getV {w : PW} {a c k : Nat} {fs : List Value} {v : Value} (h : w.1[a]? = some (.inr (c, fs))) (hk : fs[k]? = some v) : p_getV w a c k = some v := by
  unfold p_getV
  rw [q_obj h, Option.bind_some, hk]
theorem va_up_at {α : Type} (f : Nat → α) (k : Nat) (v : α) (j : Nat) : va_up f k v j = if j = k then v else f j := rfl
theorem q_snoc {P : List Nat} {x : Nat} (i : Nat) : (P ++ [x])[i]? = if i = P.length then some x else P[i]? := by
  by_cases h : i = P.length
  · rw [if_pos h, h, List.getElem?_append_right (Nat.le_refl _), Nat.sub_self]; rfl
  · rw [if_neg h]
    by_cases h2 : i < P.length
    · rw [List.getElem?_append_left h2]
    · rw [List.getElem?_eq_none (by simp; omega), List.getElem?_eq_none (by omega)]
theorem qL.add (h : qL w a e P) (x : Nat) (hx : p_elt w x = true) (hP : P.length < 40) : ∃ w' e', fAL_add1 a x w = some (.inl (some (.int 1)), w') ∧ qL w' a e' (P ++ [x]) ∧ qF (fun y => y = a ∨ .ref y = e) w w' ∧ (e' = e ∨ ∃ r, e' = .ref r ∧ w.1.length ≤ r) ∧ w'.2.2 ≤ w.2.2 + 49 := by
  obtain ⟨m, ho, h2, h3, h4⟩ := h
  have hax : ∀ y, p_elt w y = true → y ≠ a := fun y hy e => by
    obtain ⟨c, fs, k1, k2⟩ := p_elt_some hy
    rw [e, ho] at k1
    cases k1
    rcases k2 with k | k <;> cases k
  have hP1 : (Int32.ofNat P.length + 1) = Int32.ofNat (P.length + 1) := (Int32.ofNat_add _ _).symm
  unfold fAL_add1
  rw [q_getI (k := 0) ho rfl, Option.bind_some]
  obtain ⟨w1, g1, s1, F1⟩ := o_put (k := 0) ho (by simp) (.int (m + 1))
  have s1' : w1.1[a]? = some (.inr (11, [.int (m + 1), e, .int (Int32.ofNat P.length)])) := s1
  have hx1 : ∀ y, p_elt w y = true → p_elt w1 y = true := fun y hy => by rw [p_elt_keep (F1.2.1 y (hax y hy)), hy]
  rw [g1, Option.bind_some, q_getV (k := 1) s1' rfl, Option.bind_some]
  have hmem : ∀ (w' : PW), (∀ y, p_elt w y = true → w'.1[y]? = w.1[y]?) → ∀ y ∈ P ++ [x], p_elt w' y = true := fun w' hk y hy => by
    rcases List.mem_append.mp hy with h | h
    · rw [p_elt_keep (hk y (h3 y h)), h3 y h]
    · rw [List.mem_singleton.mp h, p_elt_keep (hk x hx), hx]
  rcases h4 with ⟨e1, e2⟩ | ⟨r, n, f, e1, hr, hn, hle, hf⟩
  · subst e1
    subst e2
    rw [q_splX, q_getI (k := 2) s1' rfl, Option.bind_some, q_obj s1', Option.bind_some]
    unfold fAL_add0
    obtain ⟨w3, g3, s3, hr3, F3, L3, c3⟩ := q_grow_e (show w1.1[a]? = some (.inr (11, [.int (m + 1), .retAddr 3, .int 0])) from s1')
    rw [q_splX, if_neg (show ¬ ¬ Int32.ofNat ([] : List Nat).length = 0 from not_not_intro rfl), q_obj s1', Option.bind_some, g3, q_call, q_kR]
    have la : a < w1.1.length := q_lt_len s1'
    have l1 := F1.1
    have keep3 : ∀ y, p_elt w y = true → w3.1[y]? = w.1[y]? := fun y hy => by
      have ly : y < w.1.length := q_lt_len (p_elt_some hy).choose_spec.choose_spec.1
      have hya := hax y hy
      rw [F3.2.1 y (by omega) hya, F1.2.1 y hya]
    have hx3 : p_elt w3 x = true := by rw [p_elt_keep (keep3 x hx), hx]
    obtain ⟨w4, g4, t4, r4, F4, L4, c4⟩ := qL.add11 (l := 0) s3 hr3 (by omega) (by omega) hx3
    rw [show Int32.ofNat ([] : List Nat).length = Int32.ofNat 0 from rfl, g4, q_call, q_kV, q_ret1]
    refine ⟨w4, .ref w1.1.length, rfl, ⟨m + 1, t4, by simp, hmem w4 (fun y hy => ?_), Or.inr ⟨_, 10, _, rfl, r4, Or.inl rfl, by simp, fun i => ?_⟩⟩, ?_, Or.inr ⟨_, rfl, by omega⟩, ?_⟩
    · have ly : y < w.1.length := q_lt_len (p_elt_some hy).choose_spec.choose_spec.1
      have hya := hax y hy
      rw [F4.2.1 y (by omega) (by omega), keep3 y hy]
    · rw [va_up_at, q_snoc]
      rfl
    · refine ((F1.fr.mono (Q := fun y => y = a ∨ Value.ref y = .retAddr 3) (fun _ _ h => Or.inl h)).tr F3 (fun _ _ h => Or.inl h)).tr F4 (fun y hy h => ?_)
      rcases h with h | h
      · exact Or.inl h
      · omega
    · rw [c4, c3, F1.2.2]
      omega
  · subst e1
    have hra : r ≠ a := fun h => by rw [h, ho] at hr; cases hr
    have hr1 := F1.at hr hra
    rw [q_splR, q_getI (k := 2) s1' rfl, Option.bind_some, q_obj s1', Option.bind_some]
    unfold fAL_add0
    rw [q_splR, q_len hr1, Option.bind_some]
    have lr : r < w.1.length := q_lt_len hr
    have la : a < w.1.length := q_lt_len ho
    by_cases hfull : P.length = n
    · rw [if_neg (not_not_intro (by rw [hfull])), q_obj s1', Option.bind_some]
      unfold fAL_grow1
      rw [q_getI (k := 2) s1' rfl, Option.bind_some, q_obj s1', Option.bind_some]
      unfold fAL_grow0
      rw [q_getV (k := 1) s1' rfl, Option.bind_some]
      obtain ⟨n2, hn2, hsh⟩ : ∃ n2, (n2 = 15 ∨ n2 = 22 ∨ n2 = 33 ∨ n2 = 49) ∧ (∀ w9, fArraysSupport_newLength (Int32.ofNat n) (Int32.ofNat n + 1 - Int32.ofNat n) (p_ishr (Int32.ofNat n) 1) w9 = some (.inl (some (.int (Int32.ofNat n2))), w9)) ∧ n < n2 := by
        rcases hn with e | e | e | e | e
        · exact ⟨15, Or.inl rfl, fun w9 => by subst e; rfl, by omega⟩
        · exact ⟨22, Or.inr (Or.inl rfl), fun w9 => by subst e; rfl, by omega⟩
        · exact ⟨33, Or.inr (Or.inr (Or.inl rfl)), fun w9 => by subst e; rfl, by omega⟩
        · exact ⟨49, Or.inr (Or.inr (Or.inr rfl)), fun w9 => by subst e; rfl, by omega⟩
        · omega
      obtain ⟨w2, g2, s2, F2⟩ := o_newR w1 n2 (by omega)
      have l1 := F1.1
      have l2 := F2.1
      have hr2 := F2.at hr1
      have helt : ∀ i, i < n → p_eltO w2 (f i) = true := fun i hi => by
        rw [hf i, List.getElem?_eq_getElem (by omega)]
        have hy := h3 P[i] (List.getElem_mem (by omega))
        have ly : P[i] < w.1.length := q_lt_len (p_elt_some hy).choose_spec.choose_spec.1
        show p_elt w2 P[i] = true
        rw [p_elt_keep (F2.2.1 _ (by omega)), hx1 _ hy]
      obtain ⟨w3, g3, s3, F3⟩ := o_copyR (n := n) hr2 s2 (by omega) (Nat.le_refl _) (by omega) helt
      have l3 := F3.1
      obtain ⟨w4, g4, s4, F4⟩ := o_put (k := 1) (F3.at (F2.at s1') (by omega)) (by simp) (.ref w1.1.length)
      have l4 := F4.1
      have s4' : w4.1[a]? = some (.inr (11, [.int (m + 1), .ref w1.1.length, .int (Int32.ofNat P.length)])) := s4
      have keep4 : ∀ y, p_elt w y = true → w4.1[y]? = w.1[y]? := fun y hy => by
        have ly : y < w.1.length := q_lt_len (p_elt_some hy).choose_spec.choose_spec.1
        have hya := hax y hy
        rw [F4.2.1 y hya, F3.2.1 y (by omega), F2.2.1 y (by omega), F1.2.1 y hya]
      have hx4 : p_elt w4 x = true := by rw [p_elt_keep (keep4 x hx), hx]
      have hr4 : w4.1[w1.1.length]? = some (.inl (4, n2, .inr (.inr (.inr (.inr (va_cpy f (fun _ => none) 0 0 n)))))) := F4.at s3 (by omega)
      obtain ⟨w5, g5, t5, r5, F5, L5, c5⟩ := qL.add11 (l := P.length) s4' hr4 (by omega) (by omega) hx4
      refine ⟨w5, .ref w1.1.length, ?_, ⟨m + 1, by rw [t5]; simp, by simp; omega, hmem w5 (fun y hy => ?_), Or.inr ⟨_, n2, _, rfl, r5, by omega, by simp; omega, fun i => ?_⟩⟩, ?_, Or.inr ⟨_, rfl, by omega⟩, ?_⟩
      · rw [q_splR, q_len hr1, Option.bind_some, if_pos (show 0 < Int32.ofNat n from (q_lt (m := 0) (n := n) (by omega) (by omega)).mpr (by omega))]
        unfold fAL_grow0_20
        rw [hfull, hsh.1 w1, q_call, q_kI, q_getV (k := 1) s1' rfl, Option.bind_some, q_splR]
        unfold fAR_copyOf0 fAR_copyOf1 fAR_copyOf1_24
        rw [q_arrR hr1, Option.bind_some, g2, q_len hr2, Option.bind_some, q_min (by omega) (by omega), Nat.min_eq_left (by omega), g3, Option.bind_some, q_call, q_kR, q_call, q_kR, g4, Option.bind_some, q_call, q_kR, q_call, q_kR]
        rw [hfull] at g5
        rw [g5, q_call, q_kV, q_ret1]
      · have ly : y < w.1.length := q_lt_len (p_elt_some hy).choose_spec.choose_spec.1
        have hya := hax y hy
        rw [F5.2.1 y (by omega) (by omega), keep4 y hy]
      · rw [va_up_at, q_snoc]
        by_cases hi : i = P.length
        · rw [if_pos hi, if_pos hi]
        · rw [if_neg hi, if_neg hi]
          unfold va_cpy
          by_cases hi2 : i < n
          · rw [if_pos (by omega), show 0 + (i - 0) = i by omega, hf i]
          · rw [if_neg (by omega), List.getElem?_eq_none (by omega)]
      · refine ((((F1.fr.mono (Q := fun y => y = a ∨ Value.ref y = .ref r) (fun _ _ h => Or.inl h)).tr (F2.fr (by omega)) (fun _ _ h => h.elim)).tr F3.fr (fun y hy h => by omega)).tr F4.fr (fun _ _ h => Or.inl h)).tr F5 (fun y hy h => ?_)
        rcases h with h | h
        · exact Or.inl h
        · omega
      · rw [c5, F4.2.2, F3.2.2, F2.2.2.2, F1.2.2]
        omega
    · rw [if_pos (fun h => hfull (by have := congrArg Int32.toNatClampNeg h; rw [q_tno (by omega), q_tno (by omega)] at this; exact this))]
      obtain ⟨w5, g5, t5, r5, F5, L5, c5⟩ := qL.add11 (l := P.length) s1' hr1 (by omega) (by omega) (hx1 x hx)
      rw [g5, q_call, q_kV, q_ret1]
      have l1 := F1.1
      refine ⟨w5, .ref r, rfl, ⟨m + 1, by rw [t5]; simp, by simp; omega, hmem w5 (fun y hy => ?_), Or.inr ⟨r, n, _, rfl, r5, hn, by simp; omega, fun i => ?_⟩⟩, ?_, Or.inl rfl, by rw [c5, F1.2.2]; omega⟩
      · have ly : y < w.1.length := q_lt_len (p_elt_some hy).choose_spec.choose_spec.1
        have hya := hax y hy
        have hyr : y ≠ r := fun h => by
          obtain ⟨c, fs, k1, -⟩ := p_elt_some hy
          rw [h, hr] at k1
          cases k1
        rw [F5.2.1 y (by omega) (by rintro (h | h); exact hya h; exact hyr h), F1.2.1 y hya]
      · rw [va_up_at, q_snoc, hf i]
      · refine (F1.fr.mono (Q := fun y => y = a ∨ Value.ref y = .ref r) (fun _ _ h => Or.inl h)).tr F5 (fun y hy h => ?_)
        rcases h with h | h
        · exact Or.inl h
        · exact Or.inr (by rw [h])
end
section
variable {w : PW} {a : Nat} {e : Value} {P : List Nat}
theorem q_clear27 {r n : Nat} (hn : n ≤ 49) : ∀ (k i F : Nat) (w : PW) (f : Nat → Option Nat), w.1[r]? = some (.inl (4, n, .inr (.inr (.inr (.inr f))))) → k < F → i + k ≤ n → ∃ w', fAL_clear_27 F r (Int32.ofNat (i + k)) (Int32.ofNat i) w = some (.inl none, w') ∧ (∃ f', w'.1[r]? = some (.inl (4, n, .inr (.inr (.inr (.inr f'))))) ∧ ∀ j, f' j = if i ≤ j ∧ j < i + k then none else f j) ∧ qE r w w'
  | 0, i, F + 1, w, f, h, _, hi => by
    rw [fAL_clear_27, if_pos ((q_le (by omega) (by omega)).mpr (by omega))]
    exact ⟨w, rfl, ⟨f, h, fun j => by rw [if_neg (by omega)]⟩, rfl, fun _ _ => rfl, rfl⟩
  | k + 1, i, F + 1, w, f, h, hF, hi => by
    rw [fAL_clear_27, if_neg (fun hh => by have := (q_le (m := i + (k + 1)) (n := i) (by omega) (by omega)).mp hh; omega)]
    obtain ⟨w1, g1, s1, F1⟩ := o_astR h (q_ge0 i (by omega)) ((q_lt (by omega) (by omega)).mpr (by omega)) (by omega) none rfl
    rw [g1, Option.bind_some]
    rw [q_tno (by omega)] at s1
    obtain ⟨w2, g2, ⟨f', t2, r2⟩, F2⟩ := q_clear27 hn k (i + 1) F w1 _ s1 (by omega) (by omega)
    refine ⟨w2, ?_, ⟨f', t2, fun j => ?_⟩, F2.1.trans F1.1, fun y hy => (F2.2.1 y hy).trans (F1.2.1 y hy), F2.2.2.trans F1.2.2⟩
    · show fAL_clear_27 F r (Int32.ofNat (i + (k + 1))) (Int32.ofNat i + 1) w1 = _
      rw [show Int32.ofNat i + 1 = Int32.ofNat (i + 1) from (Int32.ofNat_add i 1).symm, show i + (k + 1) = i + 1 + k by omega, g2]
    · rw [r2, va_up_at]
      by_cases hj : j = i
      · rw [if_neg (by omega), if_pos hj, if_pos (by omega)]
      · rw [if_neg hj]
        by_cases hj2 : i + 1 ≤ j ∧ j < i + 1 + k
        · rw [if_pos hj2, if_pos (by omega)]
        · rw [if_neg hj2, if_neg (by omega)]
theorem qL.clear (h : qL w a e P) : ∃ w', fAL_clear a w = some (.inl none, w') ∧ qL w' a e [] ∧ qF (fun y => y = a ∨ .ref y = e) w w' ∧ w'.2 = w.2 ∧ w'.1.length = w.1.length := by
  obtain ⟨m, ho, h2, h3, h4⟩ := h
  unfold fAL_clear
  rw [q_getI (k := 0) ho rfl, Option.bind_some]
  obtain ⟨w1, g1, s1, F1⟩ := o_put (k := 0) ho (by simp) (.int (m + 1))
  have s1' : w1.1[a]? = some (.inr (11, [.int (m + 1), e, .int (Int32.ofNat P.length)])) := s1
  rw [g1, Option.bind_some, q_getV (k := 1) s1' rfl, Option.bind_some]
  obtain ⟨w2, g2, s2, F2⟩ := o_put (k := 2) s1' (by simp) (.int 0)
  have s2' : w2.1[a]? = some (.inr (11, [.int (m + 1), e, .int (Int32.ofNat ([] : List Nat).length)])) := s2
  rcases h4 with ⟨e1, e2⟩ | ⟨r, n, f, e1, hr, hn, hle, hf⟩
  · subst e1
    subst e2
    rw [q_splX, q_getI (k := 2) s1' rfl, Option.bind_some, g2, Option.bind_some]
    refine ⟨w2, by rw [show FUEL = 999999 + 1 from rfl, fAL_clear_27T, if_pos (by decide)], ⟨m + 1, s2', by simp, by simp, Or.inl ⟨rfl, rfl⟩⟩, (F1.fr.mono (fun _ _ h => Or.inl h)).tr F2.fr (fun _ _ h => Or.inl h), F2.2.2.trans F1.2.2, F2.1.trans F1.1⟩
  · subst e1
    have hra : r ≠ a := fun h => by rw [h, ho] at hr; cases hr
    rw [q_splR, q_getI (k := 2) s1' rfl, Option.bind_some, g2, Option.bind_some]
    obtain ⟨w3, g3, ⟨f', t3, r3⟩, F3⟩ := q_clear27 (by omega) P.length 0 FUEL w2 f (F2.at (F1.at hr hra) hra) (by show _ < 1000000; omega) (by omega)
    rw [Nat.zero_add] at g3
    refine ⟨w3, g3, ⟨m + 1, F3.at s2' hra.symm, by simp, by simp, Or.inr ⟨r, n, f', rfl, t3, hn, by simp, fun i => ?_⟩⟩, ((F1.fr.mono (fun _ _ h => Or.inl h)).tr F2.fr (fun _ _ h => Or.inl h)).tr F3.fr (fun y _ h => Or.inr (by rw [show y = r from h])), (F3.2.2.trans F2.2.2).trans F1.2.2, (F3.1.trans F2.1).trans F1.1⟩
    rw [r3]
    by_cases hi : i < P.length
    · rw [if_pos (by omega)]
      simp
    · rw [if_neg (by omega), hf, List.getElem?_eq_none (by omega)]
      simp
theorem qL.keep {w' : PW} (h : qL w a e P) (hk : ∀ y, (y = a ∨ .ref y = e ∨ y ∈ P) → w'.1[y]? = w.1[y]?) : qL w' a e P := by
  obtain ⟨m, ho, h2, h3, h4⟩ := h
  refine ⟨m, by rw [hk a (Or.inl rfl), ho], h2, fun x hx => by rw [p_elt_keep (hk x (Or.inr (Or.inr hx))), h3 x hx], ?_⟩
  rcases h4 with h4 | ⟨r, n, f, e1, hr, h5⟩
  · exact Or.inl h4
  · exact Or.inr ⟨r, n, f, e1, by rw [hk r (Or.inr (Or.inl (by rw [e1]))), hr], h5⟩
end
section
variable {w : PW} {z : Nat → Int32} {g : Nat → Nat → Int32} {tw th : Int32} {sz dp nm sy sp : Nat → Int32} {e : Value} {P : List Nat} {rd : Int32}
theorem q_let {α : Type} (a : α) (K : α → PX) : p_let a K = K a := rfl
/-- how many of the first parts are of the tile -/
def q_cnt (tl : Nat → Int32) (t : Int32) : Nat → Nat → Nat
  | 0, _ => 0
  | n + 1, i => (if tl i = t then 1 else 0) + q_cnt tl t n (i + 1)
theorem q_cnt_le (tl : Nat → Int32) (t : Int32) : ∀ n i, q_cnt tl t n i ≤ n
  | 0, _ => Nat.le_refl _
  | n + 1, i => by
    have := q_cnt_le tl t n (i + 1)
    rw [q_cnt]
    split <;> omega
theorem qW_partsOf4 (ho : qCo w rd) (hl : qL w 7 e P) {tl : Nat → Int32} (ht : ∀ (k x : Nat), P[k]? = some x → ∃ fs : List Value, w.1[x]? = some (.inr (8, .int (tl k) :: fs))) (t : Int32) : ∀ (n i F c : Nat), n < F → i + n = P.length → c ≤ i → fW_partsOf_4 F 0 t (Int32.ofNat c) (Int32.ofNat i) w = some (.inl (some (.int (Int32.ofNat (c + q_cnt tl t n i)))), w)
  | 0, i, F + 1, c, _, hi, hc => by
    obtain ⟨fs, hlo⟩ := hl.obj
    rw [fW_partsOf_4, q_getR (k := 1) ho rfl, Option.bind_some, hlo, Option.bind_some, hl.size, q_call, q_kI, if_pos (by rw [show i = P.length by omega]; exact q_lei.mpr (Int.le_refl _))]
    rfl
  | n + 1, i, F + 1, c, hF, hi, hc => by
    have h40 : P.length ≤ 40 := hl.choose_spec.2.1
    obtain ⟨fs, hlo⟩ := hl.obj
    have hx : P[i]? = some P[i] := List.getElem?_eq_getElem (by omega)
    obtain ⟨fs2, hp⟩ := ht i _ hx
    have gi : p_getI w P[i] 8 0 = some (tl i) := q_getI hp rfl
    rw [fW_partsOf_4, q_getR (k := 1) ho rfl, Option.bind_some, hlo, Option.bind_some, hl.size, q_call, q_kI, if_neg (fun hh => by have := (q_le (m := P.length) (n := i) (by omega) (by omega)).mp hh; omega), q_getR (k := 1) ho rfl, Option.bind_some, hlo, Option.bind_some, hl.get i _ hx, q_call, q_kR, q_obj hp, Option.bind_some, gi, Option.bind_some]
    have e1 : Int32.ofNat i + 1 = Int32.ofNat (i + 1) := (Int32.ofNat_add i 1).symm
    have e2 : Int32.ofNat c + 1 = Int32.ofNat (c + 1) := (Int32.ofNat_add c 1).symm
    simp only [q_let]
    rw [e1, e2, q_cnt]
    by_cases h : tl i = t
    · rw [if_neg (not_not_intro h), if_pos h, qW_partsOf4 ho hl ht t n (i + 1) F (c + 1) (by omega) (by omega) (by omega), Nat.add_assoc]
    · rw [if_pos h, if_neg h, qW_partsOf4 ho hl ht t n (i + 1) F c (by omega) (by omega) (by omega), Nat.zero_add]
theorem q_keepF {P : Nat → Prop} {w w' : PW} (h : qF P w w') {x : Nat} (hx : x < w.1.length) (hp : ¬ P x) : w'.1[x]? = w.1[x]? := h.2.1 x hx hp
/-- how a tilePart ends -/
def q_tc (nt : Int) (n : Nat) (t : Int32) : Int32 := if ¬ (0 ≤ t.toInt ∧ t.toInt < nt) then 1 else if 40 ≤ n then 2 else 0
theorem qW_tilePart (ho : qCo w rd) (hs : qS w 1 tw th sz dp nm sy sp) (k : qR tw th sz dp nm sy sp g) (hl : qL w 7 e P) (hel : ∀ y : Nat, .ref y = e → y ≠ 0) {tl : Nat → Int32} (ht : ∀ (k x : Nat), P[k]? = some x → ∃ fs : List Value, w.1[x]? = some (.inr (8, .int (tl k) :: fs))) (t : Int32) :
    (q_tc (q_nt tw th sz) P.length t = 1 → ∃ w', fW_tilePart 0 t w = some (.inr "java/lang/IndexOutOfBoundsException", w') ∧ qT w w') ∧
    (q_tc (q_nt tw th sz) P.length t = 2 → ∃ w', fW_tilePart 0 t w = some (.inr "java/lang/UnsupportedOperationException", w') ∧ qT w w') ∧
    (q_tc (q_nt tw th sz) P.length t = 0 → ∃ w' e', fW_tilePart 0 t w = some (.inl (some (.int (Int32.ofNat P.length))), w') ∧ qL w' 7 e' (P ++ [w.1.length]) ∧ w'.1[w.1.length]? = some (.inr (8, [.int t, .int (Int32.ofNat (q_cnt tl t P.length 0)), .ref (w.1.length + 1), .ref (w.1.length + 2), .int 0])) ∧ w'.1[w.1.length + 1]? = some (.inl (0, 20, .inl fun _ => 0)) ∧ qB w' (w.1.length + 2) (w.1.length + 3) 300 32 [] (fun _ => 0) ∧ qF (fun y => y = 7 ∨ .ref y = e) w w' ∧ (e' = e ∨ ∃ r, e' = .ref r ∧ w.1.length + 4 ≤ r) ∧ w'.2.2 ≤ w.2.2 + 109) := by
  have hnt := k.nt
  have h0 : p_getR w 0 0 0 = some 1 := q_getR ho rfl
  have h1 : p_getR w 0 0 1 = some 7 := q_getR ho rfl
  obtain ⟨fs, hso⟩ := hs.obj
  obtain ⟨fl, hlo⟩ := hl.obj
  have h40 : P.length ≤ 40 := hl.choose_spec.2.1
  have e0 : (0 : Int32).toInt = 0 := rfl
  unfold fW_tilePart fW_tilePart_15 q_tc
  by_cases ht0 : t < 0
  · rw [if_pos ht0, if_pos (by rw [q_lti] at ht0; omega)]
    exact ⟨fun _ => q_throw _ _, fun e => absurd e (by decide), fun e => absurd e (by decide)⟩
  · have ht0' : 0 ≤ t.toInt := by rw [q_lti] at ht0; omega
    rw [if_neg ht0, h0, Option.bind_some, hso, Option.bind_some, hs.tiles, q_call, q_kI]
    have c1 : t < q_many (sz 0) tw * q_many (sz 1) th ↔ t.toInt < q_nt tw th sz := by rw [q_lti, hnt.1]
    by_cases htn : t.toInt < q_nt tw th sz
    · rw [if_pos (c1.mpr htn), if_neg (not_not_intro ⟨ht0', htn⟩), h1, Option.bind_some, hlo, Option.bind_some, hl.size, q_call, q_kI]
      by_cases hf : 40 ≤ P.length
      · rw [if_pos hf, if_neg (fun hh => by have := (q_lt (m := P.length) (n := 40) (by omega) (by omega)).mp hh; omega)]
        exact ⟨fun e => absurd e (by decide), fun _ => q_throw _ _, fun e => absurd e (by decide)⟩
      · rw [if_neg hf, if_pos (show Int32.ofNat P.length < 40 from (q_lt (m := P.length) (n := 40) (by omega) (by omega)).mpr (by omega)), h1, Option.bind_some]
        refine ⟨fun e => absurd e (by decide), fun e => absurd e (by decide), fun _ => ?_⟩
        obtain ⟨w1, g1, s1, F1⟩ := o_newO w 8 5 [.int 0, .int 0, .null, .null, .int 0]
        have l0 : 0 < w.1.length := q_lt_len ho
        have l7 : 7 < w.1.length := q_lt_len hl.choose_spec.1
        have lP : ∀ y, y ∈ P → y < w.1.length := fun y hy => q_lt_len (p_elt_some (hl.choose_spec.2.2.1 y hy)).choose_spec.choose_spec.1
        have le : ∀ y : Nat, .ref y = e → y < w.1.length := fun y hy => by
          rcases hl.choose_spec.2.2.2 with ⟨x1, -⟩ | ⟨r, n, f, x1, hr, -⟩
          · rw [x1] at hy; cases hy
          · rw [x1] at hy
            cases hy
            exact q_lt_len hr
        have ho1 : qCo w1 rd := F1.at ho
        have hl1 : qL w1 7 e P := hl.keep (fun y hy => F1.2.1 y (by
          rcases hy with h | h | h
          · omega
          · exact le y h
          · exact lP y h))
        have ht1 : ∀ (k x : Nat), P[k]? = some x → ∃ fs : List Value, w1.1[x]? = some (.inr (8, .int (tl k) :: fs)) := fun k x hx => by
          obtain ⟨fs, hh⟩ := ht k x hx
          exact ⟨fs, F1.at hh⟩
        have po := qW_partsOf4 ho1 hl1 ht1 t P.length 0 FUEL 0 (by show _ < 1000000; omega) (by omega) (Nat.le_refl _)
        rw [Nat.zero_add] at po
        rw [g1, q_obj ho1, Option.bind_some]
        unfold fW_partsOf
        rw [show (0 : Int32) = Int32.ofNat 0 from rfl, po, q_call, q_kI]
        unfold fTilePart_init
        obtain ⟨w2, g2, s2, F2⟩ := o_newA w1 0 4 20 (by omega) (by omega)
        have L1 := F1.1
        have L2 := F2.1
        rw [show (20 : Int32) = Int32.ofNat 20 from rfl, g2]
        obtain ⟨w3, g3, s3, F3⟩ := o_put (k := 2) (F2.at s1) (by simp) (.ref w1.1.length)
        have L3 := F3.1
        rw [g3, Option.bind_some]
        obtain ⟨w4, g4, s4, F4⟩ := o_newO w3 2 3 [.int 0, .null, .int 0]
        have L4 := F4.1
        rw [show (Int32.ofNat 0) = (0 : Int32) from rfl, g4]
        unfold fBytes_init
        obtain ⟨w5, g5, s5, F5⟩ := o_newA w4 1 1 32 (by omega) (by omega)
        have L5 := F5.1
        rw [show (32 : Int32) = Int32.ofNat 32 from rfl, g5]
        obtain ⟨w6, g6, s6, F6⟩ := o_put (k := 1) (F5.at s4) (by simp) (.ref w4.1.length)
        have L6 := F6.1
        rw [g6, Option.bind_some]
        obtain ⟨w7, g7, s7, F7⟩ := o_put (k := 2) s6 (by simp) (.int 0)
        have L7 := F7.1
        rw [g7, Option.bind_some]
        obtain ⟨w8, g8, s8, F8⟩ := o_put (k := 0) s7 (by simp) (.int 300)
        have L8 := F8.1
        rw [g8, Option.bind_some, q_call, q_kV]
        have x3 := F8.at (F7.at (F6.at (F5.at (F4.at s3)) (by omega)) (by omega)) (by omega)
        obtain ⟨w9, g9, s9, F9⟩ := o_put (k := 3) x3 (by simp) (.ref w3.1.length)
        have L9 := F9.1
        rw [g9, Option.bind_some]
        obtain ⟨wA, gA, sA, FA⟩ := o_put (k := 4) s9 (by simp) (.int 0)
        have LA := FA.1
        rw [gA, Option.bind_some]
        obtain ⟨wB, gB, sB, FB⟩ := o_put (k := 0) sA (by simp) (.int t)
        have LB := FB.1
        rw [gB, Option.bind_some]
        obtain ⟨wC, gC, sC, FC⟩ := o_put (k := 1) sB (by simp) (.int (Int32.ofNat (q_cnt tl t P.length 0)))
        have LC := FC.1
        rw [gC, Option.bind_some, q_call, q_kV]
        have old : ∀ y, y < w.1.length → wC.1[y]? = w.1[y]? := fun y hy => by
          rw [FC.2.1 y (by omega), FB.2.1 y (by omega), FA.2.1 y (by omega), F9.2.1 y (by omega), F8.2.1 y (by omega), F7.2.1 y (by omega), F6.2.1 y (by omega), F5.2.1 y (by omega), F4.2.1 y (by omega), F3.2.1 y (by omega), F2.2.1 y (by omega), F1.2.1 y (by omega)]
        have hlC : qL wC 7 e P := hl.keep (fun y hy => old y (by
          rcases hy with h | h | h
          · omega
          · exact le y h
          · exact lP y h))
        have oC : wC.1[w.1.length]? = some (.inr (8, [.int t, .int (Int32.ofNat (q_cnt tl t P.length 0)), .ref (w.1.length + 1), .ref (w.1.length + 2), .int 0])) := by
          rw [sC]
          show some (Sum.inr (8, [Value.int t, Value.int _, Value.ref w1.1.length, Value.ref w3.1.length, Value.int 0])) = _
          rw [L3, L2, L1]
        have rC : wC.1[w.1.length + 1]? = some (.inl (0, 20, .inl fun _ => 0)) := by
          rw [← L1]
          exact FC.at (FB.at (FA.at (F9.at (F8.at (F7.at (F6.at (F5.at (F4.at (F3.at s2 (by omega)))) (by omega)) (by omega)) (by omega)) (by omega)) (by omega)) (by omega)) (by omega)
        have bC : qB wC (w.1.length + 2) (w.1.length + 3) 300 32 [] (fun _ => 0) := by
          have e1 : w3.1.length = w.1.length + 2 := by omega
          have e2 : w4.1.length = w.1.length + 3 := by omega
          refine ⟨?_, ?_, by simp, by simp, Or.inr (Or.inl rfl), Or.inr (Or.inl rfl), by omega, fun _ => rfl, fun i hi => absurd hi (Nat.not_lt_zero i)⟩
          · rw [← e1, ← e2]
            exact FC.at (FB.at (FA.at (F9.at s8 (by omega)) (by omega)) (by omega)) (by omega)
          · rw [← e2]
            exact FC.at (FB.at (FA.at (F9.at (F8.at (F7.at (F6.at s5 (by omega)) (by omega)) (by omega)) (by omega)) (by omega)) (by omega)) (by omega)
        obtain ⟨flC, hloC⟩ := hlC.obj
        have elC : p_elt wC w.1.length = true := by
          unfold p_elt
          rw [oC]
          rfl
        obtain ⟨wD, e', gD, hlD, FD, eD, cD⟩ := hlC.add w.1.length elC (by omega)
        rw [hloC, Option.bind_some, gD, q_call, q_kI]
        have notE : ∀ y : Nat, w.1.length ≤ y → ¬ (y = 7 ∨ .ref y = e) := fun y hy h => by
          rcases h with h | h
          · omega
          · have := le y h
            omega
        have hoD : qCo wD rd := by
          have : wD.1[0]? = wC.1[0]? := q_keepF FD (by omega) (by rintro (h | h); omega; exact hel 0 h rfl)
          unfold qCo
          rw [this, old 0 l0]
          exact ho
        obtain ⟨flD, hloD⟩ := hlD.obj
        rw [q_getR (k := 1) hoD rfl, Option.bind_some, hloD, Option.bind_some, hlD.size, q_call, q_kI]
        have hsz : Int32.ofNat (P ++ [w.1.length]).length - 1 = Int32.ofNat P.length := by
          rw [List.length_append, show Int32.ofNat (P.length + [w.1.length].length) = Int32.ofNat P.length + 1 from Int32.ofNat_add _ _]
          grind
        rw [hsz]
        refine ⟨wD, e', rfl, hlD, ?_, ?_, ?_, ?_, ?_, ?_⟩
        · rw [q_keepF FD (by omega) (notE _ (Nat.le_refl _)), oC]
        · rw [q_keepF FD (by omega) (notE _ (by omega)), rC]
        · obtain ⟨b1, b2, b3⟩ := bC
          exact ⟨by rw [q_keepF FD (by omega) (notE _ (by omega)), b1], by rw [q_keepF FD (by omega) (notE _ (by omega)), b2], b3⟩
        · refine ⟨by have := FD.1; omega, fun y hy hp => by rw [q_keepF FD (by omega) hp, old y hy], ?_⟩
          have c1 := FD.2.2
          have c2 : wC.2 = w8.2 := by rw [FC.2.2, FB.2.2, FA.2.2, F9.2.2]
          have c3 : w8.2 = w5.2 := by rw [F8.2.2, F7.2.2, F6.2.2]
          have c4 := F5.2.2
          have c5 := F4.2.2
          have c6 : w3.2 = w2.2 := F3.2.2
          have c7 := F2.2.2
          have c8 := F1.2.2
          rw [c2, c3] at c1
          rw [c6] at c5
          omega
        · rcases eD with h | ⟨r, h, hr⟩
          · exact Or.inl h
          · exact Or.inr ⟨r, h, by omega⟩
        · have c2 : wC.2 = w8.2 := by rw [FC.2.2, FB.2.2, FA.2.2, F9.2.2]
          have c3 : w8.2 = w5.2 := by rw [F8.2.2, F7.2.2, F6.2.2]
          have c4 := F5.2.2
          have c5 := F4.2.2
          have c6 : w3.2 = w2.2 := F3.2.2
          have c7 := F2.2.2
          have c8 := F1.2.2
          rw [c2, c3] at cD
          rw [c6] at c5
          omega
    · rw [if_neg (fun hh => htn (c1.mp hh)), if_pos (fun hh => htn hh.2)]
      exact ⟨fun _ => q_throw _ _, fun e => absurd e (by decide), fun e => absurd e (by decide)⟩
end
section
variable {w : PW} {z : Nat → Int32} {g : Nat → Nat → Int32} {tw th : Int32} {sz dp nm sy sp : Nat → Int32} {e : Value} {P : List Nat} {rd : Int32}
/-- an array's place told as a number -/
theorem qM.ldn (h : qM w z g) (k t i : Nat) (ht : mT k = t) (h1 : 38 ≤ k) (h2 : k < 66) (hi : i < mL k) (hl : mL k ≤ 40000) : p_ald w k t (Int32.ofNat i) = some (g k i) := by
  rw [h.ld k t (Int32.ofNat i) ht h1 h2 (q_ge0 i (by omega)) ((q_lt (by omega) (by omega)).mpr hi) (by omega), q_tno (by omega)]
theorem qM.stn (h : qM w z g) (k t i : Nat) (v : Int32) (ht : mT k = t) (h1 : 38 ≤ k) (h2 : k < 66) (hi : i < mL k) (hl : mL k ≤ 40000) : ∃ w', p_ast w k t (Int32.ofNat i) v = some w' ∧ qM w' z (ug g k i v) ∧ qI 37 66 w w' := by
  obtain ⟨w', g1, q1, F1⟩ := h.st k t (Int32.ofNat i) v ht h1 h2 (q_ge0 i (by omega)) ((q_lt (by omega) (by omega)).mpr hi) (by omega)
  rw [q_tno (by omega)] at q1
  exact ⟨w', g1, q1, F1⟩
theorem q_on (i : Int32) (h : 0 ≤ i.toInt) : i = Int32.ofNat i.toInt.toNat := by
  apply q_i32
  have := q_top i
  rw [q_ofi (by omega)]
  omega
theorem q_sub1 {n : Int32} (h : 0 ≤ n.toInt) : (Int32.toInt64 n - 1).toInt = n.toInt - 1 := by
  have e0 : (1 : Int64).toInt = 1 := rfl
  have := q_top n
  rw [q_sub64, q_64, e0]
  · rw [q_64, e0]; omega
  · rw [q_64, e0]; omega
theorem q_e0 : (0 : Int64).toInt = 0 := rfl
theorem q_e255 : (255 : Int64).toInt = 255 := rfl
theorem qM.tp36 (h : qM w z g) (n : Nat) (hz : z 8 = Int32.ofNat n) (hn : n ≤ 40) (t s0 : Int32) (hs : s0 = 1 ∨ s0 = 2) : ∃ w', fD_tilePart_36 37 t s0 37 w = some (.inl (some (.int 0)), w') ∧ qM w' (upd z 0 s0) g ∧ qI 37 66 w w' := by
  obtain ⟨w1, g1, q1, F1⟩ := h.put 0 s0 (by omega) rfl
  unfold fD_tilePart_36
  rw [g1, Option.bind_some, q1.I 0 rfl, Option.bind_some, show upd z 0 s0 0 = s0 from rfl, if_neg (by rcases hs with e | e <;> subst e <;> decide)]
  exact ⟨w1, rfl, q1, F1⟩
/-- rows after a tilePart -/
def q_tpg (g : Nat → Nat → Int32) (n : Nat) (t : Int32) : Nat → Nat → Int32 := ug (ug (ug g 43 n t) 44 n 0) 46 n 0
theorem qM.tilePart (h : qM w z g) (k : qR tw th sz dp nm sy sp g) (n : Nat) (hz : z 8 = Int32.ofNat n) (hn : n ≤ 40) (t : Int32) :
    ∃ w' b, fD_tilePart 37 t w = some (.inl (some (.int b)), w') ∧ qI 37 66 w w' ∧ (¬ q_tc (q_nt tw th sz) n t = 0 → qM w' (upd z 0 (q_tc (q_nt tw th sz) n t)) g) ∧ (q_tc (q_nt tw th sz) n t = 0 → b = Int32.ofNat n ∧ qM w' (upd (upd z 0 0) 8 (Int32.ofNat (n + 1))) (q_tpg g n t)) := by
  have hnt := k.nt
  unfold fD_tilePart
  rw [h.obj, Option.bind_some, h.tiles k, q_call, q_kI, q_in, q_call, q_kI, q_64, q_sub1 (by rw [hnt.1]; omega), hnt.1, q_e0]
  unfold q_tc
  by_cases ht : 0 ≤ t.toInt ∧ t.toInt < q_nt tw th sz
  · rw [if_pos (show 0 ≤ t.toInt ∧ t.toInt ≤ q_nt tw th sz - 1 by omega), if_pos (by decide), if_neg (not_not_intro ht), h.I 8 rfl, Option.bind_some, hz]
    by_cases hf : 40 ≤ n
    · have : n = 40 := by omega
      subst this
      rw [if_neg (show ¬ ¬ Int32.ofNat 40 = 40 from not_not_intro rfl), if_pos hf]
      obtain ⟨w1, g1, q1, F1⟩ := h.tp36 40 hz hn t 2 (Or.inr rfl)
      exact ⟨w1, 0, g1, F1, fun _ => q1, fun e => absurd e (by decide)⟩
    · have hne : ¬ Int32.ofNat n = 40 := fun e => by
        have := congrArg Int32.toNatClampNeg e
        rw [q_tno (by omega)] at this
        have e40 : (40 : Int32).toNatClampNeg = 40 := rfl
        omega
      rw [if_pos hne, if_neg hf]
      obtain ⟨w1, g1, q1, F1⟩ := h.put 0 0 (by omega) rfl
      unfold fD_tilePart_36
      rw [g1, Option.bind_some, q1.I 0 rfl, Option.bind_some, show upd z 0 0 0 = 0 from rfl, if_pos (by decide)]
      have z1 : upd z 0 0 8 = Int32.ofNat n := hz
      rw [q1.R 9 43 rfl, Option.bind_some, q1.I 8 rfl, Option.bind_some, z1]
      obtain ⟨w2, g2, q2, F2⟩ := q1.stn 43 0 n t rfl (by omega) (by omega) (by show n < 40; omega) (by decide)
      rw [g2, Option.bind_some, q2.R 10 44 rfl, Option.bind_some, q2.I 8 rfl, Option.bind_some, z1]
      obtain ⟨w3, g3, q3, F3⟩ := q2.stn 44 0 n 0 rfl (by omega) (by omega) (by show n < 40; omega) (by decide)
      rw [g3, Option.bind_some, q3.R 12 46 rfl, Option.bind_some, q3.I 8 rfl, Option.bind_some, z1]
      obtain ⟨w4, g4, q4, F4⟩ := q3.stn 46 0 n 0 rfl (by omega) (by omega) (by show n < 40; omega) (by decide)
      rw [g4, Option.bind_some, q4.I 8 rfl, Option.bind_some, z1, show Int32.ofNat n + 1 = Int32.ofNat (n + 1) from (Int32.ofNat_add n 1).symm]
      obtain ⟨w5, g5, q5, F5⟩ := q4.put 8 (Int32.ofNat (n + 1)) (by omega) rfl
      rw [g5, Option.bind_some, q5.I 8 rfl, Option.bind_some, show upd (upd z 0 0) 8 (Int32.ofNat (n + 1)) 8 = Int32.ofNat (n + 1) from rfl, show Int32.ofNat (n + 1) - 1 = Int32.ofNat n by rw [show Int32.ofNat (n + 1) = Int32.ofNat n + 1 from Int32.ofNat_add n 1]; grind]
      exact ⟨w5, _, rfl, (((F1.tr F2).tr F3).tr F4).tr F5, fun hh => absurd rfl hh, fun _ => ⟨rfl, q5⟩⟩
  · rw [if_neg (show ¬ (0 ≤ t.toInt ∧ t.toInt ≤ q_nt tw th sz - 1) by omega), if_neg (by decide), if_pos ht]
    obtain ⟨w1, g1, q1, F1⟩ := h.tp36 n hz hn t 1 (Or.inl rfl)
    exact ⟨w1, 0, g1, F1, fun _ => q1, fun e => absurd e (by decide)⟩
/-- packet -/
def q_pc (n : Nat) (pk : Nat → Int32) (p : Int32) : Int32 := if ¬ (0 ≤ p.toInt ∧ p.toInt < n) then 1 else if pk p.toInt.toNat = 20 then 2 else 0
theorem qM.isPart (h : qM w z g) (n : Nat) (hz : z 8 = Int32.ofNat n) (hn : n ≤ 40) (p : Int32) : fD_isPart 37 p w = some (.inl (some (.int (if 0 ≤ p.toInt ∧ p.toInt < n then 1 else 0))), w) := by
  unfold fD_isPart
  rw [h.I 8 rfl, Option.bind_some, hz, q_in, q_call, q_kI, q_64, q_sub1 (by rw [q_ofi (by omega)]; omega), q_ofi (by omega), q_e0]
  by_cases hp : 0 ≤ p.toInt ∧ p.toInt < n
  · rw [if_pos (show 0 ≤ p.toInt ∧ p.toInt ≤ (n : Int) - 1 by omega), if_pos hp]
    rfl
  · rw [if_neg (show ¬ (0 ≤ p.toInt ∧ p.toInt ≤ (n : Int) - 1) by omega), if_neg hp]
    rfl
theorem qM.packet1 (h : qM w z g) (n : Nat) (hz : z 8 = Int32.ofNat n) (hn : n ≤ 40) (p : Int32) (hp : ¬ (0 ≤ p.toInt ∧ p.toInt < n)) : ∃ w', fD_packet 37 p w = some (.inl (some (.int 0)), w') ∧ qM w' (upd z 0 1) g ∧ qI 37 66 w w' := by
  unfold fD_packet
  rw [h.obj, Option.bind_some, h.isPart n hz hn, q_call, q_kI, if_neg hp, if_neg (by decide)]
  unfold fD_packet_29
  obtain ⟨w1, g1, q1, F1⟩ := h.put 0 1 (by omega) rfl
  rw [g1, Option.bind_some, q1.I 0 rfl, Option.bind_some, show upd z 0 1 0 = 1 from rfl, if_neg (by decide)]
  exact ⟨w1, rfl, q1, F1⟩
theorem qM.byteOf1 (h : qM w z g) (n : Nat) (hz : z 8 = Int32.ofNat n) (hn : n ≤ 40) (p b : Int32) (hp : ¬ (0 ≤ p.toInt ∧ p.toInt < n)) : ∃ w', fD_byteOf 37 p b w = some (.inl (some (.int 0)), w') ∧ qM w' (upd z 0 1) g ∧ qI 37 66 w w' := by
  unfold fD_byteOf
  rw [h.obj, Option.bind_some, h.isPart n hz hn, q_call, q_kI, if_neg hp, if_neg (by decide)]
  unfold fD_byteOf_59
  obtain ⟨w1, g1, q1, F1⟩ := h.put 0 1 (by omega) rfl
  rw [g1, Option.bind_some, q1.I 0 rfl, Option.bind_some, show upd z 0 1 0 = 1 from rfl, if_neg (by decide)]
  exact ⟨w1, rfl, q1, F1⟩
theorem qM.boxByte1 (h : qM w z g) (n : Nat) (hz : z 14 = Int32.ofNat n) (hn : n ≤ 8) (p b : Int32) (hp : ¬ (0 ≤ p.toInt ∧ p.toInt < n)) : ∃ w', fD_boxByte 37 p b w = some (.inl (some (.int 0)), w') ∧ qM w' (upd z 0 1) g ∧ qI 37 66 w w' := by
  unfold fD_boxByte
  rw [h.I 14 rfl, Option.bind_some, hz, q_in, q_call, q_kI, q_64, q_sub1 (by rw [q_ofi (by omega)]; omega), q_ofi (by omega), q_e0, if_neg (show ¬ (0 ≤ p.toInt ∧ p.toInt ≤ (n : Int) - 1) by omega), if_neg (by decide)]
  unfold fD_boxByte_53
  obtain ⟨w1, g1, q1, F1⟩ := h.put 0 1 (by omega) rfl
  rw [g1, Option.bind_some, q1.I 0 rfl, Option.bind_some, show upd z 0 1 0 = 1 from rfl, if_neg (by decide)]
  exact ⟨w1, rfl, q1, F1⟩
/-- the class's side of the same refusals -/
theorem q_nin {n : Nat} {p : Int32} (hn : n ≤ 20000) (hp : ¬ (0 ≤ p.toInt ∧ p.toInt < n)) : p < 0 ∨ ¬ p < Int32.ofNat n := by
  by_cases h : p < 0
  · exact Or.inl h
  · right
    rw [q_lti, q_ofi (by omega)]
    have e0 : (0 : Int32).toInt = 0 := rfl
    rw [q_lti] at h
    omega
theorem qW_packet1 (ho : qCo w rd) (hl : qL w 7 e P) (p : Int32) (hp : ¬ (0 ≤ p.toInt ∧ p.toInt < P.length)) : ∃ w', fW_packet 0 p w = some (.inr "java/lang/IndexOutOfBoundsException", w') ∧ qT w w' := by
  have h40 : P.length ≤ 40 := hl.choose_spec.2.1
  obtain ⟨fl, hlo⟩ := hl.obj
  unfold fW_packet fW_packet_15
  rcases q_nin (by omega) hp with h | h
  · rw [if_pos h]; exact q_throw _ _
  · rw [q_getR (k := 1) ho rfl, Option.bind_some, hlo, Option.bind_some, hl.size, q_call, q_kI, if_neg h]
    split <;> exact q_throw _ _
theorem qW_byteOf1 (ho : qCo w rd) (hl : qL w 7 e P) (p b : Int32) (hp : ¬ (0 ≤ p.toInt ∧ p.toInt < P.length)) : ∃ w', fW_byteOf 0 p b w = some (.inr "java/lang/IndexOutOfBoundsException", w') ∧ qT w w' := by
  have h40 : P.length ≤ 40 := hl.choose_spec.2.1
  obtain ⟨fl, hlo⟩ := hl.obj
  unfold fW_byteOf fW_byteOf_15
  rcases q_nin (by omega) hp with h | h
  · rw [if_pos h]; exact q_throw _ _
  · rw [q_getR (k := 1) ho rfl, Option.bind_some, hlo, Option.bind_some, hl.size, q_call, q_kI, if_neg h]
    split <;> exact q_throw _ _
theorem qW_boxByte1 (ho : qCo w rd) (hl : qL w 8 e P) (p b : Int32) (hp : ¬ (0 ≤ p.toInt ∧ p.toInt < P.length)) : ∃ w', fW_boxByte 0 p b w = some (.inr "java/lang/IndexOutOfBoundsException", w') ∧ qT w w' := by
  have h40 : P.length ≤ 40 := hl.choose_spec.2.1
  obtain ⟨fl, hlo⟩ := hl.obj
  unfold fW_boxByte fW_boxByte_15
  rcases q_nin (by omega) hp with h | h
  · rw [if_pos h]; exact q_throw _ _
  · rw [q_getR (k := 2) ho rfl, Option.bind_some, hlo, Option.bind_some, hl.size, q_call, q_kI, if_neg h]
    split <;> exact q_throw _ _
end
section
variable {w : PW} {z : Nat → Int32} {g : Nat → Nat → Int32} {e : Value} {P : List Nat} {rd : Int32}
/-- the kinds -/
theorem q_shr (x s : Int32) (h : s = 0 ∨ s = 8 ∨ s = 16 ∨ s = 24) : p_ishr x s &&& 255 = p_ushr x s &&& 255 := by
  have key : ∀ n : Nat, n ≤ 24 → (BitVec.sshiftRight x.toBitVec n) &&& 255#32 = (x.toBitVec >>> n) &&& 255#32 := by
    intro n hn
    ext i hi
    simp only [BitVec.getElem_and]
    by_cases h8 : i < 8
    · congr 1
      rw [BitVec.getElem_sshiftRight, BitVec.getElem_ushiftRight]
      rw [dif_pos (by omega)]
      rw [BitVec.getLsbD_eq_getElem (by omega)]
    · have : (255#32)[i] = false := by
        have e : ∀ j : Nat, j < 32 → 8 ≤ j → (255#32).getLsbD j = false := by decide
        exact e i hi (by omega)
      rw [this, Bool.and_false, Bool.and_false]
  apply Int32.toBitVec_inj.mp
  rcases h with e | e | e | e <;> subst e
  · exact key 0 (by omega)
  · exact key 8 (by omega)
  · exact key 16 (by omega)
  · exact key 24 (by omega)
def q_sg (x s : Int32) : Int32 := p_ushr x s &&& 255
def q_sgOk (x s : Int32) : Bool := decide (32 ≤ (q_sg x s).toInt ∧ (q_sg x s).toInt ≤ 126)
def q_kd (x : Int32) : Bool := q_sgOk x 0 && q_sgOk x 8 && q_sgOk x 16 && q_sgOk x 24
theorem qW_kind1 (x s : Int32) (hs : ¬ 32 ≤ s) (n : Nat) (w : PW) : fW_isKind_2 (n + 1) x s w = if q_sgOk x s = true then fW_isKind_2 n x (s + 8) w else some (.inl (some (.int 0)), w) := by
  rw [fW_isKind_2, if_neg hs, q_let]
  show (if q_sg x s < 32 then _ else if q_sg x s ≤ 126 then _ else _) = _
  unfold q_sgOk
  have a1 : q_sg x s < 32 ↔ (q_sg x s).toInt < 32 := q_lti
  have a2 : q_sg x s ≤ 126 ↔ (q_sg x s).toInt ≤ 126 := q_lei
  by_cases h1 : (q_sg x s).toInt < 32
  · rw [if_pos (a1.mpr h1), if_neg (by rw [decide_eq_true_eq]; omega)]; rfl
  · rw [if_neg (fun h => h1 (a1.mp h))]
    by_cases h2 : (q_sg x s).toInt ≤ 126
    · rw [if_pos (a2.mpr h2), if_pos (by rw [decide_eq_true_eq]; omega)]; rfl
    · rw [if_neg (fun h => h2 (a2.mp h)), if_neg (by rw [decide_eq_true_eq]; omega)]; rfl
theorem qW_kind (x : Int32) (w : PW) : fW_isKind x w = some (.inl (some (.int (if q_kd x = true then 1 else 0))), w) := by
  show fW_isKind_2 (999996 + 1 + 1 + 1 + 1) x 0 w = _
  rw [qW_kind1 x 0 (by decide), show (0 : Int32) + 8 = 8 from rfl, qW_kind1 x 8 (by decide), show (8 : Int32) + 8 = 16 from rfl, qW_kind1 x 16 (by decide), show (16 : Int32) + 8 = 24 from rfl, qW_kind1 x 24 (by decide), show (24 : Int32) + 8 = 32 from rfl, show (999996 : Nat) = 999995 + 1 from rfl, fW_isKind_2, if_pos (show (32 : Int32) ≤ 32 by decide)]
  unfold q_kd
  cases q_sgOk x 0 <;> cases q_sgOk x 8 <;> cases q_sgOk x 16 <;> cases q_sgOk x 24 <;> rfl
def q_own (x : Int32) : Bool := decide (x = 1783636000 ∨ x = 1718909296 ∨ x = 1785737832 ∨ x = 1768449138 ∨ x = 1785737827)
theorem qW_own (x : Int32) (w : PW) : fW_isOwnKind x w = some (.inl (some (.int (if q_own x = true then 1 else 0))), w) := by
  unfold fW_isOwnKind q_own
  simp only [decide_eq_true_eq, q_ret0, q_ret1]
  by_cases h1 : x = 1783636000
  · rw [if_pos h1, if_pos (Or.inl h1)]
  · rw [if_neg h1]
    by_cases h2 : x = 1718909296
    · rw [if_pos h2, if_pos (Or.inr (Or.inl h2))]
    · rw [if_neg h2]
      by_cases h3 : x = 1785737832
      · rw [if_pos h3, if_pos (Or.inr (Or.inr (Or.inl h3)))]
      · rw [if_neg h3]
        by_cases h4 : x = 1768449138
        · rw [if_pos h4, if_pos (Or.inr (Or.inr (Or.inr (Or.inl h4))))]
        · rw [if_neg h4]
          by_cases h5 : x = 1785737827
          · rw [if_neg (not_not_intro h5), if_pos (Or.inr (Or.inr (Or.inr (Or.inr h5))))]
          · rw [if_pos h5, if_neg (by rintro (k | k | k | k | k); exact h1 k; exact h2 k; exact h3 k; exact h4 k; exact h5 k)]
theorem qD_kind1 (x a s : Int32) (hs : s = 0 ∨ s = 8 ∨ s = 16 ∨ s = 24) (n : Nat) (w : PW) (ha : a = 0 ∨ a = 1) : fD_isKind_4 (n + 1) x a s w = fD_isKind_4 n x (if a = 1 ∧ q_sgOk x s = true then 1 else 0) (s + 8) w := by
  have e32 : (32 : Int64).toInt = 32 := rfl
  have e126 : (126 : Int64).toInt = 126 := rfl
  rw [fD_isKind_4, if_neg (by rcases hs with e | e | e | e <;> subst e <;> decide)]
  rcases ha with e | e
  · subst e
    rw [if_pos rfl, q_let, if_neg (fun h => absurd h.1 (by decide))]
  · subst e
    rw [if_neg (by decide), q_in, q_call, q_kI, q_64, q_shr x s hs, e32, e126]
    simp only [q_let, true_and]
    unfold q_sgOk
    simp only [decide_eq_true_eq]
    by_cases h : 32 ≤ (p_ushr x s &&& 255).toInt ∧ (p_ushr x s &&& 255).toInt ≤ 126
    · rw [if_pos h, if_neg (by decide), if_pos (show 32 ≤ (q_sg x s).toInt ∧ (q_sg x s).toInt ≤ 126 from h)]
    · rw [if_neg h, if_pos rfl, if_neg (show ¬ (32 ≤ (q_sg x s).toInt ∧ (q_sg x s).toInt ≤ 126) from h)]
theorem qD_kind (x : Int32) (w : PW) : fD_isKind x w = some (.inl (some (.int (if q_kd x = true ∧ q_own x = false then 1 else 0))), w) := by
  have i01 : ∀ p : Prop, [Decidable p] → ((if p then (1 : Int32) else 0) = 0 ∨ (if p then (1 : Int32) else 0) = 1) := fun p _ => by split; exact Or.inr rfl; exact Or.inl rfl
  have i1 : ∀ p : Prop, [Decidable p] → ((if p then (1 : Int32) else 0) = 1 ↔ p) := fun p _ => by
    split
    · rename_i h; exact ⟨fun _ => h, fun _ => rfl⟩
    · rename_i h; exact ⟨fun k => absurd k (by decide), fun k => absurd k h⟩
  show fD_isKind_4 (999996 + 1 + 1 + 1 + 1) x 1 0 w = _
  rw [qD_kind1 x 1 0 (Or.inl rfl) _ _ (Or.inr rfl), show (0 : Int32) + 8 = 8 from rfl, qD_kind1 x _ 8 (Or.inr (Or.inl rfl)) _ _ (i01 _), show (8 : Int32) + 8 = 16 from rfl, qD_kind1 x _ 16 (Or.inr (Or.inr (Or.inl rfl))) _ _ (i01 _), show (16 : Int32) + 8 = 24 from rfl, qD_kind1 x _ 24 (Or.inr (Or.inr (Or.inr rfl))) _ _ (i01 _), show (24 : Int32) + 8 = 32 from rfl, show (999996 : Nat) = 999995 + 1 from rfl, fD_isKind_4, if_pos (show (32 : Int32) ≤ 32 by decide)]
  simp only [i1, true_and]
  have hk : (((q_sgOk x 0 = true ∧ q_sgOk x 8 = true) ∧ q_sgOk x 16 = true) ∧ q_sgOk x 24 = true) ↔ q_kd x = true := by
    unfold q_kd
    simp only [Bool.and_eq_true]
  simp only [hk]
  by_cases h : q_kd x = true
  · rw [if_pos h, if_neg (by decide)]
    simp only [h, true_and, q_ret0, q_ret1]
    unfold q_own
    simp only [decide_eq_false_iff_not]
    by_cases h1 : x = 1783636000
    · rw [if_pos h1, if_neg (fun k => k (Or.inl h1))]
    · rw [if_neg h1]
      by_cases h2 : x = 1718909296
      · rw [if_pos h2, if_neg (fun k => k (Or.inr (Or.inl h2)))]
      · rw [if_neg h2]
        by_cases h3 : x = 1785737832
        · rw [if_pos h3, if_neg (fun k => k (Or.inr (Or.inr (Or.inl h3))))]
        · rw [if_neg h3]
          by_cases h4 : x = 1768449138
          · rw [if_pos h4, if_neg (fun k => k (Or.inr (Or.inr (Or.inr (Or.inl h4)))))]
          · rw [if_neg h4]
            by_cases h5 : x = 1785737827
            · rw [if_pos h5, if_neg (fun k => k (Or.inr (Or.inr (Or.inr (Or.inr h5)))))]
            · rw [if_neg h5, if_pos (by rintro (k | k | k | k | k); exact h1 k; exact h2 k; exact h3 k; exact h4 k; exact h5 k)]
  · rw [if_neg h, if_pos rfl, if_neg (fun k => h k.1)]; rfl
/-- how a box ends -/
def q_bc (n : Nat) (x : Int32) : Int32 := if ¬ (q_kd x = true ∧ q_own x = false) then 1 else if 8 ≤ n then 2 else 0
theorem qW_box (ho : qCo w rd) (hl : qL w 8 e P) (h8 : P.length ≤ 8) (hel : ∀ y : Nat, .ref y = e → y ≠ 0) (i x : Int32) (hi : i = 0 ∨ i = 1) :
    (q_bc P.length x = 1 → ∃ w', fW_box 0 i x w = some (.inr "java/lang/IllegalArgumentException", w') ∧ qT w w') ∧
    (q_bc P.length x = 2 → ∃ w', fW_box 0 i x w = some (.inr "java/lang/UnsupportedOperationException", w') ∧ qT w w') ∧
    (q_bc P.length x = 0 → ∃ w' e', fW_box 0 i x w = some (.inl (some (.int (Int32.ofNat P.length))), w') ∧ qL w' 8 e' (P ++ [w.1.length]) ∧ w'.1[w.1.length]? = some (.inr (4, [.int i, .int x, .ref (w.1.length + 1)])) ∧ qB w' (w.1.length + 1) (w.1.length + 2) 40 32 [] (fun _ => 0) ∧ qF (fun y => y = 8 ∨ .ref y = e) w w' ∧ (e' = e ∨ ∃ r, e' = .ref r ∧ w.1.length + 3 ≤ r) ∧ w'.2.2 ≤ w.2.2 + 87) := by
  have h2 : p_getR w 0 0 2 = some 8 := q_getR ho rfl
  obtain ⟨fl, hlo⟩ := hl.obj
  unfold fW_box fW_box_14 q_bc
  rw [qW_kind, q_call, q_kI]
  by_cases hk : q_kd x = true
  · rw [if_pos hk, if_neg (show ¬ (1 : Int32) = 0 by decide), qW_own, q_call, q_kI]
    cases how : q_own x
    · rw [if_neg (show ¬ false = true by decide), if_pos (show (0 : Int32) = 0 from rfl), if_neg (show ¬ ¬ (q_kd x = true ∧ false = false) from not_not_intro ⟨hk, rfl⟩), h2, Option.bind_some, hlo, Option.bind_some, hl.size, q_call, q_kI]
      by_cases hf : 8 ≤ P.length
      · rw [if_pos hf, if_neg (fun hh => by have := (q_lt (m := P.length) (n := 8) (by omega) (by omega)).mp hh; omega)]
        exact ⟨fun e => absurd e (by decide), fun _ => q_throw _ _, fun e => absurd e (by decide)⟩
      · rw [if_neg hf, if_pos (show Int32.ofNat P.length < 8 from (q_lt (m := P.length) (n := 8) (by omega) (by omega)).mpr (by omega)), h2, Option.bind_some]
        refine ⟨fun e => absurd e (by decide), fun e => absurd e (by decide), fun _ => ?_⟩
        obtain ⟨w1, g1, s1, F1⟩ := o_newO w 4 3 [.int 0, .int 0, .null]
        have l0 : 0 < w.1.length := q_lt_len ho
        have l8 : 8 < w.1.length := q_lt_len hl.choose_spec.1
        have lP : ∀ y, y ∈ P → y < w.1.length := fun y hy => q_lt_len (p_elt_some (hl.choose_spec.2.2.1 y hy)).choose_spec.choose_spec.1
        have le : ∀ y : Nat, .ref y = e → y < w.1.length := fun y hy => by
          rcases hl.choose_spec.2.2.2 with ⟨x1, -⟩ | ⟨r, n, f, x1, hr, -⟩
          · rw [x1] at hy; cases hy
          · rw [x1] at hy
            cases hy
            exact q_lt_len hr
        have L1 := F1.1
        rw [g1]
        unfold fMadeBox_init
        obtain ⟨w4, g4, s4, F4⟩ := o_newO w1 2 3 [.int 0, .null, .int 0]
        have L4 := F4.1
        rw [g4]
        unfold fBytes_init
        obtain ⟨w5, g5, s5, F5⟩ := o_newA w4 1 1 32 (by omega) (by omega)
        have L5 := F5.1
        rw [show (32 : Int32) = Int32.ofNat 32 from rfl, g5]
        obtain ⟨w6, g6, s6, F6⟩ := o_put (k := 1) (F5.at s4) (by simp) (.ref w4.1.length)
        have L6 := F6.1
        rw [g6, Option.bind_some]
        obtain ⟨w7, g7, s7, F7⟩ := o_put (k := 2) s6 (by simp) (.int 0)
        have L7 := F7.1
        rw [g7, Option.bind_some]
        obtain ⟨w8, g8, s8, F8⟩ := o_put (k := 0) s7 (by simp) (.int 40)
        have L8 := F8.1
        rw [g8, Option.bind_some, q_call, q_kV]
        have x3 := F8.at (F7.at (F6.at (F5.at (F4.at s1)) (by omega)) (by omega)) (by omega)
        obtain ⟨w9, g9, s9, F9⟩ := o_put (k := 2) x3 (by simp) (.ref w1.1.length)
        have L9 := F9.1
        rw [g9, Option.bind_some, if_neg (not_not_intro hi)]
        obtain ⟨wB, gB, sB, FB⟩ := o_put (k := 0) s9 (by simp) (.int i)
        have LB := FB.1
        rw [gB, Option.bind_some]
        obtain ⟨wC, gC, sC, FC⟩ := o_put (k := 1) sB (by simp) (.int x)
        have LC := FC.1
        rw [gC, Option.bind_some, q_call, q_kV]
        have old : ∀ y, y < w.1.length → wC.1[y]? = w.1[y]? := fun y hy => by
          rw [FC.2.1 y (by omega), FB.2.1 y (by omega), F9.2.1 y (by omega), F8.2.1 y (by omega), F7.2.1 y (by omega), F6.2.1 y (by omega), F5.2.1 y (by omega), F4.2.1 y (by omega), F1.2.1 y (by omega)]
        have hlC : qL wC 8 e P := hl.keep (fun y hy => old y (by
          rcases hy with h | h | h
          · omega
          · exact le y h
          · exact lP y h))
        have oC : wC.1[w.1.length]? = some (.inr (4, [.int i, .int x, .ref (w.1.length + 1)])) := by
          rw [sC]
          show some (Sum.inr (4, [Value.int i, Value.int x, Value.ref w1.1.length])) = _
          rw [L1]
        have bC : qB wC (w.1.length + 1) (w.1.length + 2) 40 32 [] (fun _ => 0) := by
          have e1 : w1.1.length = w.1.length + 1 := by omega
          have e2 : w4.1.length = w.1.length + 2 := by omega
          refine ⟨?_, ?_, by simp, by simp, Or.inr (Or.inr rfl), Or.inr (Or.inl rfl), by omega, fun _ => rfl, fun i hi => absurd hi (Nat.not_lt_zero i)⟩
          · rw [← e1, ← e2]
            exact FC.at (FB.at (F9.at s8 (by omega)) (by omega)) (by omega)
          · rw [← e2]
            exact FC.at (FB.at (F9.at (F8.at (F7.at (F6.at s5 (by omega)) (by omega)) (by omega)) (by omega)) (by omega)) (by omega)
        obtain ⟨flC, hloC⟩ := hlC.obj
        have elC : p_elt wC w.1.length = true := by
          unfold p_elt
          rw [oC]
          rfl
        obtain ⟨wD, e', gD, hlD, FD, eD, cD⟩ := hlC.add w.1.length elC (by omega)
        rw [hloC, Option.bind_some, gD, q_call, q_kI]
        have notE : ∀ y : Nat, w.1.length ≤ y → ¬ (y = 8 ∨ .ref y = e) := fun y hy h => by
          rcases h with h | h
          · omega
          · have := le y h
            omega
        have hoD : qCo wD rd := by
          have : wD.1[0]? = wC.1[0]? := q_keepF FD (by omega) (by rintro (h | h); omega; exact hel 0 h rfl)
          unfold qCo
          rw [this, old 0 l0]
          exact ho
        obtain ⟨flD, hloD⟩ := hlD.obj
        rw [q_getR (k := 2) hoD rfl, Option.bind_some, hloD, Option.bind_some, hlD.size, q_call, q_kI]
        have hsz : Int32.ofNat (P ++ [w.1.length]).length - 1 = Int32.ofNat P.length := by
          rw [List.length_append, show Int32.ofNat (P.length + [w.1.length].length) = Int32.ofNat P.length + 1 from Int32.ofNat_add _ _]
          grind
        rw [hsz]
        have c2 : wC.2 = w8.2 := by rw [FC.2.2, FB.2.2, F9.2.2]
        have c3 : w8.2 = w5.2 := by rw [F8.2.2, F7.2.2, F6.2.2]
        have c4 := F5.2.2
        have c5 := F4.2.2
        have c8 := F1.2.2
        refine ⟨wD, e', rfl, hlD, ?_, ?_, ?_, ?_, ?_⟩
        · rw [q_keepF FD (by omega) (notE _ (Nat.le_refl _)), oC]
        · obtain ⟨b1, b2, b3⟩ := bC
          exact ⟨by rw [q_keepF FD (by omega) (notE _ (by omega)), b1], by rw [q_keepF FD (by omega) (notE _ (by omega)), b2], b3⟩
        · refine ⟨by have := FD.1; omega, fun y hy hp => by rw [q_keepF FD (by omega) hp, old y hy], ?_⟩
          have c1 := FD.2.2
          rw [c2, c3] at c1
          omega
        · rcases eD with h | ⟨r, h, hr⟩
          · exact Or.inl h
          · exact Or.inr ⟨r, h, by omega⟩
        · rw [c2, c3] at cD
          omega
    · rw [if_pos (show true = true from rfl), if_neg (show ¬ (1 : Int32) = 0 by decide), if_pos (show ¬ (q_kd x = true ∧ true = false) from fun h => absurd h.2 (by decide))]
      exact ⟨fun _ => q_throw _ _, fun e => absurd e (by decide), fun e => absurd e (by decide)⟩
  · rw [if_neg hk, if_pos (show (0 : Int32) = 0 from rfl), if_pos (show ¬ (q_kd x = true ∧ q_own x = false) from fun h => hk h.1)]
    exact ⟨fun _ => q_throw _ _, fun e => absurd e (by decide), fun e => absurd e (by decide)⟩
theorem q_nar01 {i : Int32} (h : i = 0 ∨ i = 1) : vp_nar .boolean i = i := by
  rcases h with e | e <;> subst e <;> decide
def q_bxg (g : Nat → Nat → Int32) (n : Nat) (i x : Int32) : Nat → Nat → Int32 := ug (ug (ug g 48 n i) 49 n x) 50 n 0
theorem qM.bx26 (h : qM w z g) (i x s0 : Int32) (hs : s0 = 1 ∨ s0 = 2) : ∃ w', fD_box_26 37 i x s0 37 w = some (.inl (some (.int 0)), w') ∧ qM w' (upd z 0 s0) g ∧ qI 37 66 w w' := by
  obtain ⟨w1, g1, q1, F1⟩ := h.put 0 s0 (by omega) rfl
  unfold fD_box_26
  rw [g1, Option.bind_some, q1.I 0 rfl, Option.bind_some, show upd z 0 s0 0 = s0 from rfl, if_neg (by rcases hs with e | e <;> subst e <;> decide)]
  exact ⟨w1, rfl, q1, F1⟩
theorem qM.box (h : qM w z g) (n : Nat) (hz : z 14 = Int32.ofNat n) (hn : n ≤ 8) (i x : Int32) (hi : i = 0 ∨ i = 1) :
    ∃ w' b, fD_box 37 i x w = some (.inl (some (.int b)), w') ∧ qI 37 66 w w' ∧ (¬ q_bc n x = 0 → qM w' (upd z 0 (q_bc n x)) g) ∧ (q_bc n x = 0 → b = Int32.ofNat n ∧ qM w' (upd (upd z 0 0) 14 (Int32.ofNat (n + 1))) (q_bxg g n i x)) := by
  unfold fD_box q_bc
  rw [qD_kind, q_call, q_kI]
  by_cases hk : q_kd x = true ∧ q_own x = false
  · rw [if_pos hk, if_pos (show ¬ (1 : Int32) = 0 by decide), if_neg (not_not_intro hk), h.I 14 rfl, Option.bind_some, hz]
    by_cases hf : 8 ≤ n
    · have : n = 8 := by omega
      subst this
      rw [if_neg (show ¬ ¬ Int32.ofNat 8 = 8 from not_not_intro rfl), if_pos hf]
      obtain ⟨w1, g1, q1, F1⟩ := h.bx26 i x 2 (Or.inr rfl)
      exact ⟨w1, 0, g1, F1, fun _ => q1, fun e => absurd e (by decide)⟩
    · have hne : ¬ Int32.ofNat n = 8 := fun e => by
        have := congrArg Int32.toNatClampNeg e
        rw [q_tno (by omega)] at this
        have e8 : (8 : Int32).toNatClampNeg = 8 := rfl
        omega
      rw [if_pos hne, if_neg hf]
      obtain ⟨w1, g1, q1, F1⟩ := h.put 0 0 (by omega) rfl
      unfold fD_box_26
      rw [g1, Option.bind_some, q1.I 0 rfl, Option.bind_some, show upd z 0 0 0 = 0 from rfl, if_pos (by decide)]
      have z1 : upd z 0 0 14 = Int32.ofNat n := hz
      rw [q1.R 15 48 rfl, Option.bind_some, q1.I 14 rfl, Option.bind_some, z1, q_nar01 hi]
      obtain ⟨w2, g2, q2, F2⟩ := q1.stn 48 2 n i rfl (by omega) (by omega) (by show n < 8; omega) (by decide)
      rw [g2, Option.bind_some, q2.R 16 49 rfl, Option.bind_some, q2.I 14 rfl, Option.bind_some, z1]
      obtain ⟨w3, g3, q3, F3⟩ := q2.stn 49 0 n x rfl (by omega) (by omega) (by show n < 8; omega) (by decide)
      rw [g3, Option.bind_some, q3.R 17 50 rfl, Option.bind_some, q3.I 14 rfl, Option.bind_some, z1]
      obtain ⟨w4, g4, q4, F4⟩ := q3.stn 50 0 n 0 rfl (by omega) (by omega) (by show n < 8; omega) (by decide)
      rw [g4, Option.bind_some, q4.I 14 rfl, Option.bind_some, z1, show Int32.ofNat n + 1 = Int32.ofNat (n + 1) from (Int32.ofNat_add n 1).symm]
      obtain ⟨w5, g5, q5, F5⟩ := q4.put 14 (Int32.ofNat (n + 1)) (by omega) rfl
      rw [g5, Option.bind_some, q5.I 14 rfl, Option.bind_some, show upd (upd z 0 0) 14 (Int32.ofNat (n + 1)) 14 = Int32.ofNat (n + 1) from rfl, show Int32.ofNat (n + 1) - 1 = Int32.ofNat n by rw [show Int32.ofNat (n + 1) = Int32.ofNat n + 1 from Int32.ofNat_add n 1]; grind]
      exact ⟨w5, _, rfl, (((F1.tr F2).tr F3).tr F4).tr F5, fun hh => absurd rfl hh, fun _ => ⟨rfl, q5⟩⟩
  · rw [if_neg hk, if_neg (show ¬ ¬ (0 : Int32) = 0 from not_not_intro rfl), if_pos hk]
    obtain ⟨w1, g1, q1, F1⟩ := h.bx26 i x 1 (Or.inl rfl)
    exact ⟨w1, 0, g1, F1, fun _ => q1, fun e => absurd e (by decide)⟩
end
