/-- class settings and reference settings say the same -/
def qR (tw th : Int32) (sz dp nm sy sp : Nat → Int32) (g : Nat → Nat → Int32) : Prop :=
  (sz 0 = g 42 0 ∧ sz 1 = g 42 1 ∧ sz 2 = g 42 2 ∧ tw = g 42 3 ∧ th = g 42 4) ∧ (∀ i, i < 4 → dp i = g 41 i) ∧ (∀ s, s < 125 → sy s = g 39 s ∧ sp s = g 40 s) ∧ (∀ s k, s < 125 → 4 ≤ k → k ≤ 10 → nm (7 * s + k - 4) = g 38 (11 * s + k)) ∧
  (1 ≤ (sz 0).toInt ∧ (sz 0).toInt ≤ 2000 ∧ 1 ≤ (sz 1).toInt ∧ (sz 1).toInt ≤ 2000 ∧ 1 ≤ (sz 2).toInt ∧ (sz 2).toInt ≤ 4 ∧ 1 ≤ tw.toInt ∧ tw.toInt ≤ 2000 ∧ 1 ≤ th.toInt ∧ th.toInt ≤ 2000) ∧ q_mi (sz 0).toInt tw.toInt * q_mi (sz 1).toInt th.toInt ≤ 24
section
variable {w : PW} {z : Nat → Int32} {g : Nat → Nat → Int32} {tw th : Int32} {sz dp nm sy sp : Nat → Int32}
theorem q_prod {a b : Int} (ha : 1 ≤ a) (hb : 1 ≤ b) (h : a * b ≤ 24) : a ≤ 24 ∧ b ≤ 24 ∧ 1 ≤ a * b := by
  have h1 : a * 1 ≤ a * b := Int.mul_le_mul_of_nonneg_left hb (by omega)
  have h2 : 1 * b ≤ a * b := Int.mul_le_mul_of_nonneg_right ha (by omega)
  omega
/-- how many tiles, as a number -/
def q_nt (tw th : Int32) (sz : Nat → Int32) : Int := q_mi (sz 0).toInt tw.toInt * q_mi (sz 1).toInt th.toInt
theorem qR.nt (h : qR tw th sz dp nm sy sp g) : (q_many (sz 0) tw * q_many (sz 1) th).toInt = q_nt tw th sz ∧ 1 ≤ q_nt tw th sz ∧ q_nt tw th sz ≤ 24 := by
  obtain ⟨-, -, -, -, ⟨b0, b1, b2, b3, b4, b5, b6, b7, b8, b9⟩, ht⟩ := h
  have e1 := q_many_i b0 b1 b6 (by omega)
  have e2 := q_many_i b2 b3 b8 (by omega)
  have h1 := q_mi_b b0 b6
  have h2 := q_mi_b b2 b8
  have h3 := q_prod h1.1 h2.1 ht
  refine ⟨?_, h3.2.2, ht⟩
  rw [q_mul (by rw [e1, e2]; omega) (by rw [e1, e2]; omega), e1, e2]
  rfl
theorem q_to32 {v : Int64} (h1 : -2147483648 ≤ v.toInt) (h2 : v.toInt < 2147483648) : (Int64.toInt32 v).toInt = v.toInt := by
  rw [Int64.toInt_toInt32]
  exact Int.bmod_eq_of_le (by omega) (by omega)
theorem q_i32 {a b : Int32} (h : a.toInt = b.toInt) : a = b := Int32.toInt_inj.mp h
theorem qM.tiles (h : qM w z g) (k : qR tw th sz dp nm sy sp g) : fD_tiles 37 0 w = some (.inl (some (.int (q_many (sz 0) tw * q_many (sz 1) th))), w) := by
  have hnt := k.nt
  obtain ⟨⟨a0, a1, a2, a3, a4⟩, -, -, -, ⟨b0, b1, b2, b3, b4, b5, b6, b7, b8, b9⟩, ht⟩ := k
  unfold fD_tiles
  have ld : ∀ i : Nat, i < 10 → p_ald w 42 0 (Int32.ofNat i) = some (g 42 i) := fun i hi => by
    rw [h.ld 42 0 (Int32.ofNat i) rfl (by omega) (by omega) (q_ge0 i (by omega)) ((q_lt (m := i) (n := 10) (by omega) (by omega)).mpr hi) (by decide), q_tno (by omega)]
  have r7 : p_getR w 37 10 7 = some 42 := h.R 7 42 rfl
  have l0 : p_ald w 42 0 0 = some (sz 0) := by rw [a0]; exact ld 0 (by omega)
  have l1 : p_ald w 42 0 (0 + 1) = some (sz 1) := by rw [a1]; exact ld 1 (by omega)
  have l3 : p_ald w 42 0 (0 + 3) = some tw := by rw [a3]; exact ld 3 (by omega)
  have l4 : p_ald w 42 0 (0 + 4) = some th := by rw [a4]; exact ld 4 (by omega)
  simp only [r7, Option.bind_some, l0, l1, l3, l4]
  obtain ⟨v, g1, v1⟩ := q_tilesOf (a := Int32.toInt64 (sz 0)) (b := Int32.toInt64 (sz 1)) (c := Int32.toInt64 tw) (d := Int32.toInt64 th) (by rw [q_64]; omega) (by rw [q_64]; omega) (by rw [q_64]; omega) (by rw [q_64]; omega) (by rw [q_64]; omega) (by rw [q_64]; omega) (by rw [q_64]; omega) (by rw [q_64]; omega) w
  rw [g1, q_call, q_kJ]
  rw [q_64, q_64, q_64, q_64] at v1
  have : Int64.toInt32 v = q_many (sz 0) tw * q_many (sz 1) th := by
    apply q_i32
    rw [hnt.1, q_to32]
    · exact v1
    · rw [v1]; unfold q_nt at hnt; omega
    · rw [v1]; unfold q_nt at hnt; omega
  rw [this]
/-- where a setting may be -/
def q_isPl (nt : Int) (many what t c : Int32) : Bool := decide (0 ≤ what.toInt ∧ what.toInt ≤ 10 ∧ -1 ≤ t.toInt ∧ t.toInt < nt ∧ -1 ≤ c.toInt ∧ c.toInt < many.toInt ∧ (5 < what.toInt ∨ (c = -1 ∧ t = -1) ∨ (what = 3 ∧ t = -1) ∨ (3 < what.toInt ∧ c = -1)))
theorem qM.isPlace (h : qM w z g) (k : qR tw th sz dp nm sy sp g) (what t c : Int32) : fD_isPlace 37 0 what t c w = some (.inl (some (.int (if q_isPl (q_nt tw th sz) (sz 2) what t c then 1 else 0))), w) := by
  have hT := h.tiles k
  have hnt := k.nt
  obtain ⟨⟨a0, a1, a2, a3, a4⟩, -, -, -, ⟨b0, b1, b2, b3, b4, b5, b6, b7, b8, b9⟩, ht⟩ := k
  unfold fD_isPlace fD_isPlace_72 fD_isPlace_82
  have e1 : (Int32.toInt64 (q_many (sz 0) tw * q_many (sz 1) th) - 1).toInt = q_nt tw th sz - 1 := by
    have e0 : (1 : Int64).toInt = 1 := rfl
    rw [q_sub64, q_64, hnt.1, e0]
    · rw [q_64, hnt.1, e0]; omega
    · rw [q_64, hnt.1, e0]; omega
  have e2 : (Int32.toInt64 (sz 2) - 1).toInt = (sz 2).toInt - 1 := by
    have e0 : (1 : Int64).toInt = 1 := rfl
    rw [q_sub64, q_64, e0]
    · rw [q_64, e0]; omega
    · rw [q_64, e0]; omega
  have l2 : p_ald w 42 0 (0 + 2) = some (sz 2) := by
    rw [a2]
    exact h.ld 42 0 2 rfl (by omega) (by omega) (by decide) (by decide) (by decide)
  have i0 : (0 : Int64).toInt = 0 := rfl
  have i10 : (10 : Int64).toInt = 10 := rfl
  have im : (-1 : Int64).toInt = -1 := rfl
  simp only [q_in, q_call, q_kI, h.obj, Option.bind_some, hT, h.R 7 42 rfl, l2, q_ret0, q_ret1, q_64, e1, e2, i0, i10, im]
  have c3 : what ≤ 3 ↔ what.toInt ≤ 3 := Int32.le_iff_toInt_le
  have c5 : 5 < what ↔ 5 < what.toInt := Int32.lt_iff_toInt_lt
  unfold q_isPl
  by_cases h1 : 0 ≤ what.toInt ∧ what.toInt ≤ 10
  · by_cases h2 : -1 ≤ t.toInt ∧ t.toInt ≤ q_nt tw th sz - 1
    · by_cases h3 : -1 ≤ c.toInt ∧ c.toInt ≤ (sz 2).toInt - 1
      · simp only [h1, h2, h3, and_self, if_true, show ¬ (1 : Int32) = 0 by decide, if_false, not_false_eq_true, c5, c3, true_and, show t.toInt < q_nt tw th sz by omega, show c.toInt < (sz 2).toInt by omega, decide_eq_true_eq]
        by_cases k1 : 5 < what.toInt
        · simp only [k1, if_true, true_or]
        · by_cases k2 : c = -1
          · by_cases k3 : t = -1
            · simp only [k1, k2, k3, not_true_eq_false, if_true, if_false, and_self, false_or, true_or]
            · by_cases k4 : what = 3
              · subst k4
                simp only [k1, k2, k3, not_true_eq_false, if_true, if_false, and_false, false_or, or_self, and_true]
                rfl
              · by_cases k5 : what.toInt ≤ 3
                · simp only [k1, k2, k3, k4, k5, not_true_eq_false, not_false_eq_true, if_true, if_false, and_false, false_or, false_and, and_true, show ¬ 3 < what.toInt by omega]
                · simp only [k1, k2, k3, k4, k5, not_true_eq_false, not_false_eq_true, if_true, if_false, and_false, false_or, false_and, and_true, show 3 < what.toInt by omega]
          · by_cases k4 : what = 3
            · by_cases k3 : t = -1
              · subst k4
                simp only [k1, k2, k3, not_true_eq_false, not_false_eq_true, if_true, if_false, false_or, false_and, and_self, true_or]
              · subst k4
                simp only [k1, k2, k3, not_true_eq_false, not_false_eq_true, if_true, if_false, and_false, false_or, false_and, or_self]
                rfl
            · simp only [k1, k2, k4, not_false_eq_true, if_true, if_false, and_false, false_or, false_and, or_self]
              split <;> rfl
      · have h3' : ¬ (-1 ≤ c.toInt ∧ c.toInt < (sz 2).toInt) := by omega
        simp only [h1, h2, h3, and_self, if_true, if_false, show ¬ (1 : Int32) = 0 by decide, not_true_eq_false]
        rw [if_neg (by simp only [decide_eq_true_eq]; omega)]
    · simp only [h1, h2, and_self, if_true, if_false, show ¬ (1 : Int32) = 0 by decide]
      rw [if_neg (by simp only [decide_eq_true_eq]; omega)]
  · simp only [h1, if_true, if_false]
    rw [if_neg (by simp only [decide_eq_true_eq]; omega)]
end
