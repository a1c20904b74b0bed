theorem q_64 (x : Int32) : (Int32.toInt64 x).toInt = x.toInt := Int32.toInt_toInt64 x
theorem q_cmp_gt (a b : Int64) : 0 < lg_cmp a b ↔ b.toInt < a.toInt := by
  have hh : a > b ↔ b.toInt < a.toInt := Int64.lt_iff_toInt_lt
  unfold lg_cmp
  by_cases h : a > b
  · rw [if_pos h]
    exact ⟨fun _ => hh.mp h, fun _ => by decide⟩
  · rw [if_neg h]
    constructor
    · intro k
      split at k <;> exact absurd k (by decide)
    · intro k
      exact absurd (hh.mpr k) h
theorem q_cmp_lt (a b : Int64) : lg_cmp a b < 0 ↔ a.toInt < b.toInt := by
  have hh : a > b ↔ b.toInt < a.toInt := Int64.lt_iff_toInt_lt
  unfold lg_cmp
  by_cases h : a > b
  · rw [if_pos h]
    have := hh.mp h
    exact ⟨fun k => absurd k (by decide), fun k => by omega⟩
  · rw [if_neg h]
    have h1 : ¬ b.toInt < a.toInt := fun k => h (hh.mpr k)
    by_cases h2 : a = b
    · rw [if_pos h2]
      subst h2
      exact ⟨fun k => absurd k (by decide), fun k => by omega⟩
    · rw [if_neg h2]
      have h3 : a.toInt ≠ b.toInt := fun k => h2 (Int64.toInt_inj.mp k)
      exact ⟨fun _ => by omega, fun _ => by decide⟩
theorem q_cmp_eq (a b : Int64) : lg_cmp a b = 0 ↔ a.toInt = b.toInt := by
  have h1 := q_cmp_lt a b
  have h2 := q_cmp_gt a b
  constructor
  · intro h
    rw [h] at h1 h2
    have : ¬ a.toInt < b.toInt := fun k => absurd (h1.mpr k) (by decide)
    have : ¬ b.toInt < a.toInt := fun k => absurd (h2.mpr k) (by decide)
    omega
  · intro h
    have h3 : ¬ lg_cmp a b < 0 := fun k => by have := h1.mp k; omega
    have h4 : ¬ 0 < lg_cmp a b := fun k => by have := h2.mp k; omega
    grind
theorem q_in (a b c : Int64) (w : PW) : fD_in a b c w = some (.inl (some (.int (if b.toInt ≤ a.toInt ∧ a.toInt ≤ c.toInt then 1 else 0))), w) := by
  unfold fD_in
  by_cases h1 : a.toInt < b.toInt
  · rw [if_pos ((q_cmp_lt a b).mpr h1), if_neg (by omega)]; rfl
  · rw [if_neg (fun k => h1 ((q_cmp_lt a b).mp k))]
    by_cases h2 : c.toInt < a.toInt
    · rw [if_pos ((q_cmp_gt a c).mpr h2), if_neg (by omega)]; rfl
    · rw [if_neg (fun k => h2 ((q_cmp_gt a c).mp k)), if_pos (by omega)]; rfl
theorem q_add64 {a b : Int64} (h1 : -9223372036854775808 ≤ a.toInt + b.toInt) (h2 : a.toInt + b.toInt < 9223372036854775808) : (a + b).toInt = a.toInt + b.toInt := by
  rw [Int64.toInt_add]
  exact Int.bmod_eq_of_le (by omega) (by omega)
theorem q_sub64 {a b : Int64} (h1 : -9223372036854775808 ≤ a.toInt - b.toInt) (h2 : a.toInt - b.toInt < 9223372036854775808) : (a - b).toInt = a.toInt - b.toInt := by
  rw [Int64.toInt_sub]
  exact Int.bmod_eq_of_le (by omega) (by omega)
theorem q_mul64 {a b : Int64} (h1 : -9223372036854775808 ≤ a.toInt * b.toInt) (h2 : a.toInt * b.toInt < 9223372036854775808) : (a * b).toInt = a.toInt * b.toInt := by
  rw [Int64.toInt_mul]
  exact Int.bmod_eq_of_le (by omega) (by omega)
/-- how many sides it takes -/
def q_mi (x s : Int) : Int := (x + s - 1) / s
theorem q_mi_b {x s : Int} (hx : 1 ≤ x) (hs : 1 ≤ s) : 1 ≤ q_mi x s ∧ q_mi x s ≤ x := by
  unfold q_mi
  constructor
  · exact (Int.le_ediv_iff_mul_le (by omega)).mpr (by omega)
  · refine Int.ediv_le_of_le_mul (by omega) ?_
    have : 0 ≤ (x - 1) * (s - 1) := Int.mul_nonneg (by omega) (by omega)
    have e : (x - 1) * (s - 1) = x * s - x - s + 1 := by
      rw [Int.sub_mul, Int.mul_sub]; omega
    omega
theorem q_many_i {x s : Int32} (hx : 1 ≤ x.toInt) (hx2 : x.toInt ≤ 2000) (hs : 1 ≤ s.toInt) (hs2 : s.toInt ≤ 65536) : (q_many x s).toInt = q_mi x.toInt s.toInt := by
  unfold q_many
  have e1 : (1 : Int32).toInt = 1 := rfl
  rw [if_pos (by rw [Int32.le_iff_toInt_le]; omega)]
  have e2 : (x + s - 1).toInt = x.toInt + s.toInt - 1 := by
    have : (x + s).toInt = x.toInt + s.toInt := q_add (by omega) (by omega)
    rw [q_sub (by omega) (by omega), this, e1]
  have hb := q_mi_b hx hs
  unfold q_mi at *
  rw [Int32.toInt_div, e2, Int.tdiv_eq_ediv_of_nonneg (by omega)]
  exact Int.bmod_eq_of_le (by omega) (by omega)
theorem q_ldiv {a b : Int64} (ha : 0 ≤ a.toInt) (hb : 1 ≤ b.toInt) : ∃ c : Int64, p_ldiv a b = some c ∧ c.toInt = a.toInt / b.toInt := by
  refine ⟨a / b, ?_, ?_⟩
  · unfold p_ldiv
    rw [if_neg]
    intro h
    have e0 : (0 : Int64).toInt = 0 := rfl
    rw [h] at hb
    omega
  · have h1 := Int64.toInt_lt a
    have h2 : a.toInt / b.toInt ≤ a.toInt := Int.ediv_le_self _ ha
    have h3 : 0 ≤ a.toInt / b.toInt := Int.ediv_nonneg ha (by omega)
    rw [Int64.toInt_div, Int.tdiv_eq_ediv_of_nonneg ha]
    exact Int.bmod_eq_of_le (by omega) (by omega)
theorem q_tilesOf {a b c d : Int64} (ha : 1 ≤ a.toInt) (ha2 : a.toInt ≤ 2000) (hb : 1 ≤ b.toInt) (hb2 : b.toInt ≤ 2000) (hc : 1 ≤ c.toInt) (hc2 : c.toInt ≤ 65536) (hd : 1 ≤ d.toInt) (hd2 : d.toInt ≤ 65536) (w : PW) : ∃ v : Int64, fD_tilesOf a b c d w = some (.inl (some (.long v)), w) ∧ v.toInt = q_mi a.toInt c.toInt * q_mi b.toInt d.toInt := by
  unfold fD_tilesOf
  have e1 : (1 : Int64).toInt = 1 := rfl
  have f1 : (a + c).toInt = a.toInt + c.toInt := q_add64 (by omega) (by omega)
  have f2 : (a + c - 1).toInt = a.toInt + c.toInt - 1 := by rw [q_sub64 (by omega) (by omega), f1, e1]
  have f3 : (b + d).toInt = b.toInt + d.toInt := q_add64 (by omega) (by omega)
  have f4 : (b + d - 1).toInt = b.toInt + d.toInt - 1 := by rw [q_sub64 (by omega) (by omega), f3, e1]
  obtain ⟨u, g1, u1⟩ := q_ldiv (a := a + c - 1) (b := c) (by omega) hc
  obtain ⟨v, g2, v1⟩ := q_ldiv (a := b + d - 1) (b := d) (by omega) hd
  rw [g1, Option.bind_some, g2, Option.bind_some]
  have hu := q_mi_b ha hc
  have hv := q_mi_b hb hd
  rw [f2] at u1
  rw [f4] at v1
  have u2 : u.toInt = q_mi a.toInt c.toInt := u1
  have v2 : v.toInt = q_mi b.toInt d.toInt := v1
  refine ⟨_, rfl, ?_⟩
  have h1 : 0 ≤ u.toInt * v.toInt := Int.mul_nonneg (by omega) (by omega)
  have h2 : u.toInt * v.toInt ≤ 2000 * 2000 := Int.mul_le_mul (by omega) (by omega) (by omega) (by omega)
  rw [q_mul64 (by omega) (by omega), u2, v2]
