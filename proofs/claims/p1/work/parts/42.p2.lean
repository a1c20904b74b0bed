theorem q_top (a : Int32) : a.toInt < 2147483648 := Int32.toInt_lt a
theorem q_bot (a : Int32) : -2147483648 ≤ a.toInt := Int32.le_toInt a
theorem q_add {a b : Int32} (h1 : -2147483648 ≤ a.toInt + b.toInt) (h2 : a.toInt + b.toInt < 2147483648) : (a + b).toInt = a.toInt + b.toInt := by
  rw [Int32.toInt_add]
  exact Int.bmod_eq_of_le (by omega) (by omega)
theorem q_sub {a b : Int32} (h1 : -2147483648 ≤ a.toInt - b.toInt) (h2 : a.toInt - b.toInt < 2147483648) : (a - b).toInt = a.toInt - b.toInt := by
  rw [Int32.toInt_sub]
  exact Int.bmod_eq_of_le (by omega) (by omega)
theorem q_mul {a b : Int32} (h1 : -2147483648 ≤ a.toInt * b.toInt) (h2 : a.toInt * b.toInt < 2147483648) : (a * b).toInt = a.toInt * b.toInt := by
  rw [Int32.toInt_mul]
  exact Int.bmod_eq_of_le (by omega) (by omega)
/-- one byte put, four bytes put -/
def q_setb (L : List Int32) (i b : Int32) : List Int32 := if i < 0 then L else L.set i.toNatClampNeg (b &&& 255)
theorem q_nn {i : Int32} (h : ¬ i < 0) : 0 ≤ i.toInt := by
  have : ¬ i.toInt < (0 : Int32).toInt := fun k => h (Int32.lt_iff_toInt_lt.mpr k)
  have e0 : (0 : Int32).toInt = 0 := rfl
  omega
theorem q_ile {i : Int32} {n : Nat} (h : ¬ i < 0) (hn : n < 2147483648) : Int32.ofNat n ≤ i ↔ n ≤ i.toNatClampNeg := by
  have := q_nn h
  rw [Int32.le_iff_toInt_le, q_ofi hn, q_tn]
  omega
theorem q_ilt {i : Int32} {n : Nat} (h : ¬ i < 0) (hn : n < 2147483648) : i < Int32.ofNat n ↔ i.toNatClampNeg < n := by
  have := q_nn h
  rw [Int32.lt_iff_toInt_lt, q_ofi hn, q_tn]
  omega
theorem q_0le {i : Int32} (h : ¬ i < 0) : 0 ≤ i := by grind
theorem qB.put {w : PW} {a r mo n : Nat} {L : List Int32} {f : Nat → Int32} (h : qB w a r mo n L f) (i b : Int32) :
    ∃ w' f', fBytes_put a i b w = some (.inl none, w') ∧ qB w' a r mo n (q_setb L i b) f' ∧ qE r w w' := by
  have h0 := h
  have hne := h.ne
  obtain ⟨ho, hd, h1, h2, h3, h4, h5, h6, h7⟩ := h
  unfold fBytes_put q_setb
  by_cases hi : i < 0
  · simp only [hi, if_true]
    exact ⟨w, f, rfl, h0, rfl, fun _ _ => rfl, rfl⟩
  · have eI2 : p_getI w a 2 2 = some (Int32.ofNat L.length) := q_getI ho rfl
    have eR1 : p_getR w a 2 1 = some r := q_getR ho rfl
    simp only [hi, if_false, eI2, eR1, Option.bind_some, q_ile hi (show L.length < 2147483648 by omega)]
    by_cases hc : L.length ≤ i.toNatClampNeg
    · simp only [hc, if_true]
      rw [List.set_eq_of_length_le hc]
      exact ⟨w, f, rfl, h0, rfl, fun _ _ => rfl, rfl⟩
    · simp only [hc, if_false]
      obtain ⟨w1, g1, s1, F1⟩ := o_ast hd (q_0le hi) ((q_ilt hi (by omega)).mpr (by omega)) (by omega) (vp_nar .byte (p_i2b b))
      rw [g1, Option.bind_some]
      refine ⟨w1, _, rfl, ⟨?_, s1, by simpa using h1, by simpa using h2, h3, h4, h5, fun j => ?_, fun j hj => ?_⟩, F1⟩
      · rw [List.length_set]
        exact F1.at ho hne
      · unfold upd
        split
        · exact q_b8f b
        · exact h6 j
      · unfold upd
        rw [List.length_set] at hj
        by_cases e : j = i.toNatClampNeg
        · rw [if_pos e, q_b8]
          subst e
          rw [List.getElem_set_self]
        · rw [if_neg e, h7 j hj, List.getElem_set_ne (fun k => e k.symm)]
theorem qBS.put {a r0 n0 mo : Nat} {w0 w : PW} {L : List Int32} (h : qBS a w0 r0 n0 mo w L) (i b : Int32) : ∃ w', fBytes_put a i b w = some (.inl none, w') ∧ qBS a w0 r0 n0 mo w' (q_setb L i b) := by
  obtain ⟨r, n, f, h1, h2, h3, h4, h5⟩ := h
  obtain ⟨w', f', k1, k2, k3⟩ := h1.put i b
  refine ⟨w', k1, r, n, f', k2, ?_, h3, h4, by rw [k3.2.2]; exact h5⟩
  refine h2.tr k3.fr (fun x hx hp => ?_)
  rcases h3 with e | e
  · exact Or.inr (hp.trans e)
  · have : x = r := hp
    omega
theorem q_setb255 (L : List Int32) (i b : Int32) : q_setb L i (b &&& 255) = q_setb L i b := by
  unfold q_setb
  rw [q_and255]
def q_set4 (L : List Int32) (i v : Int32) : List Int32 := q_setb (q_setb (q_setb (q_setb L (i + 0) (p_ushr v 24)) (i + 1) (p_ushr v 16)) (i + 2) (p_ushr v 8)) (i + 3) (p_ushr v 0)
theorem qBS.put1 {a r0 n0 mo : Nat} {w0 w : PW} {L : List Int32} (h : qBS a w0 r0 n0 mo w L) (i v s : Int32) (hs : ¬ 4 ≤ s) (n : Nat) : ∃ w', fBytes_putNumber4_2 (n + 1) a i v s w = fBytes_putNumber4_2 n a i v (s + 1) w' ∧ qBS a w0 r0 n0 mo w' (q_setb L (i + s) (p_ushr v (24 - 8 * s))) := by
  obtain ⟨fs, ho⟩ := h.obj
  obtain ⟨w', k1, k3⟩ := h.put (i + s) (p_ushr v (24 - 8 * s) &&& 255)
  refine ⟨w', ?_, by rw [q_setb255] at k3; exact k3⟩
  rw [fBytes_putNumber4_2, if_neg hs, ho, Option.bind_some, k1]
  rfl
theorem qBS.put4 {a r0 n0 mo : Nat} {w0 w : PW} {L : List Int32} (h : qBS a w0 r0 n0 mo w L) (i v : Int32) : ∃ w', fBytes_putNumber4 a i v w = some (.inl none, w') ∧ qBS a w0 r0 n0 mo w' (q_set4 L i v) := by
  obtain ⟨w1, e1, h1⟩ := h.put1 i v 0 (by decide) 999999
  obtain ⟨w2, e2, h2⟩ := h1.put1 i v 1 (by decide) 999998
  obtain ⟨w3, e3, h3⟩ := h2.put1 i v 2 (by decide) 999997
  obtain ⟨w4, e4, h4⟩ := h3.put1 i v 3 (by decide) 999996
  refine ⟨w4, ?_, h4⟩
  show fBytes_putNumber4_2 (999999 + 1) a i v 0 w = _
  rw [e1, show (0 : Int32) + 1 = 1 from rfl, show (999999 : Nat) = 999998 + 1 from rfl, e2, show (1 : Int32) + 1 = 2 from rfl, show (999998 : Nat) = 999997 + 1 from rfl, e3, show (2 : Int32) + 1 = 3 from rfl, show (999997 : Nat) = 999996 + 1 from rfl, e4, show (999996 : Nat) = 999995 + 1 from rfl, fBytes_putNumber4_2, if_pos (by decide)]
theorem q_set4_len (L : List Int32) (i v : Int32) : (q_set4 L i v).length = L.length := by
  unfold q_set4 q_setb
  (repeat' split) <;> simp
/-- numbers in several bytes -/
def q_byte (L : List Int32) (i : Int32) : Int32 := if i < 0 then -1 else L[i.toNatClampNeg]?.getD (-1)
def q_num (L : List Int32) (i : Int32) : Nat → Int32 → Int64 → Int64
  | 0, _, v => v
  | n + 1, k, v => q_num L i n (k + 1) (v * 256 + Int32.toInt64 (p_max 0 (q_byte L (i + k))))
theorem qB.number {w : PW} {a r mo n : Nat} {L : List Int32} {f : Nat → Int32} (h : qB w a r mo n L f) (i m : Int32) : ∀ (j : Nat) (k : Int32) (v : Int64) (F : Nat), j < F → 0 ≤ k → k.toInt + j = m.toInt → fBytes_number_5 F a i m v k w = some (.inl (some (.long (q_num L i j k v))), w)
  | 0, k, v, F + 1, _, h0, hk => by
    rw [fBytes_number_5, if_pos]
    · rfl
    · rw [Int32.le_iff_toInt_le]; omega
  | j + 1, k, v, F + 1, hF, h0, hk => by
    have h1 : ¬ m ≤ k := by rw [Int32.le_iff_toInt_le]; omega
    have h2 : (k + 1).toInt = k.toInt + 1 := by
      have e1 : (1 : Int32).toInt = 1 := rfl
      have := q_top m
      have := q_bot k
      rw [q_add (by omega) (by omega), e1]
    rw [fBytes_number_5, if_neg h1, q_obj h.o, Option.bind_some, h.get]
    show fBytes_number_5 F a i m _ (k + 1) w = _
    rw [qB.number h i m j (k + 1) _ F (by omega) (by rw [Int32.le_iff_toInt_le] at *; omega) (by omega)]
    rfl
theorem qB.num4 {w : PW} {a r mo n : Nat} {L : List Int32} {f : Nat → Int32} (h : qB w a r mo n L f) (i : Int32) : fBytes_number a i 4 w = some (.inl (some (.long (q_num L i 4 0 0))), w) := h.number i 4 4 0 0 FUEL (by decide) (by decide) rfl
theorem qB.num2 {w : PW} {a r mo n : Nat} {L : List Int32} {f : Nat → Int32} (h : qB w a r mo n L f) (i : Int32) : fBytes_number a i 2 w = some (.inl (some (.long (q_num L i 2 0 0))), w) := h.number i 2 2 0 0 FUEL (by decide) (by decide) rfl
