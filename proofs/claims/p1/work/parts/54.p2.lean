section
variable {w : PW} {z : Nat → Int32} {g : Nat → Nat → Int32} {tw th : Int32} {sz dp nm sy sp : Nat → Int32}
/-- the class's own test of the place -/
theorem q_clsPl (hs : qS w 1 tw th sz dp nm sy sp) (h0 : p_getR w 0 0 0 = some 1) (k : qR tw th sz dp nm sy sp g) (what t c : Int32) : fW_canBeSet 0 what t c w = some (.inl (some (.int (if q_isPl (q_nt tw th sz) (sz 2) what t c then 1 else 0))), w) := by
  have hnt := k.nt
  obtain ⟨fs, ho⟩ := hs.obj
  have b4 := k.2.2.2.2.1
  have e0 : (0 : Int32).toInt = 0 := rfl
  have em : (-1 : Int32).toInt = -1 := rfl
  have l0 : what < 0 ↔ what.toInt < 0 := Int32.lt_iff_toInt_lt
  have l10 : what ≤ 10 ↔ what.toInt ≤ 10 := Int32.le_iff_toInt_le
  have l4 : what < 4 ↔ what.toInt < 4 := Int32.lt_iff_toInt_lt
  have l6 : what < 6 ↔ what.toInt < 6 := Int32.lt_iff_toInt_lt
  have t0 : t < 0 ↔ t.toInt < 0 := Int32.lt_iff_toInt_lt
  have c0 : c < 0 ↔ c.toInt < 0 := Int32.lt_iff_toInt_lt
  have tn : q_many (sz 0) tw * q_many (sz 1) th ≤ t ↔ q_nt tw th sz ≤ t.toInt := by rw [Int32.le_iff_toInt_le, hnt.1]
  have cn : sz 2 ≤ c ↔ (sz 2).toInt ≤ c.toInt := Int32.le_iff_toInt_le
  have tm : t = -1 ↔ t.toInt = -1 := ⟨fun h => by rw [h]; rfl, fun h => q_i32 h⟩
  have cm : c = -1 ↔ c.toInt = -1 := ⟨fun h => by rw [h]; rfl, fun h => q_i32 h⟩
  have w3 : what = 3 ↔ what.toInt = 3 := ⟨fun h => by rw [h]; rfl, fun h => q_i32 h⟩
  have fin : ∀ a b : Int32, (a = 0 ∨ a = 1) → (b = 0 ∨ b = 1) → fW_canBeSet_84 a b w = some (.inl (some (.int (if a = 1 ∧ b = 1 then 1 else 0))), w) := by
    rintro a b (e | e) (e' | e') <;> subst e <;> subst e' <;> rfl
  have comp : ∀ a s : Int32, (a = 0 ∨ a = 1) → (s = 0 ∨ s = 1) → fW_canBeSet_56 0 c a s w = some (.inl (some (.int (if a = 1 ∧ (c.toInt = -1 ∨ (s = 1 ∧ 0 ≤ c.toInt ∧ c.toInt < (sz 2).toInt)) then 1 else 0))), w) := by
    intro a s ha hs2
    unfold fW_canBeSet_56
    simp only [h0, ho, Option.bind_some, hs.isComponent, q_call, q_kI, fin a 1 ha (Or.inr rfl), fin a 0 ha (Or.inl rfl), c0, cn, cm]
    by_cases k1 : c.toInt = -1
    · simp only [k1, if_true, true_or, and_true]
    · rcases hs2 with e | e
      · subst e
        simp only [k1, if_true, if_false, false_or, false_and, and_false, show ¬ (0 : Int32) = 1 by decide]
      · subst e
        by_cases k2 : c.toInt < 0
        · simp only [k1, k2, if_true, if_false, false_or, show ¬ (1 : Int32) = 0 by decide, show ¬ (0 : Int32) = 1 by decide, and_false, show ¬ 0 ≤ c.toInt by omega, false_and]
        · by_cases k3 : (sz 2).toInt ≤ c.toInt
          · simp only [k1, k2, k3, if_true, if_false, false_or, show ¬ (1 : Int32) = 0 by decide, show ¬ (0 : Int32) = 1 by decide, and_false, show ¬ c.toInt < (sz 2).toInt by omega]
          · simp only [k1, k2, k3, if_false, false_or, show ¬ (1 : Int32) = 0 by decide, and_true, show 0 ≤ c.toInt by omega, show c.toInt < (sz 2).toInt by omega, and_self]
  have mid : ∀ a : Int32, (a = 0 ∨ a = 1) → fW_canBeSet_38 0 what c a w = some (.inl (some (.int (if a = 1 ∧ (c.toInt = -1 ∨ ((what.toInt = 3 ∨ 6 ≤ what.toInt) ∧ 0 ≤ c.toInt ∧ c.toInt < (sz 2).toInt)) then 1 else 0))), w) := by
    intro a ha
    unfold fW_canBeSet_38
    rw [comp a 1 ha (Or.inr rfl), comp a 0 ha (Or.inl rfl)]
    simp only [w3, l6]
    by_cases k1 : what.toInt = 3
    · simp only [k1, if_true, true_or, true_and]
    · by_cases k2 : what.toInt < 6
      · simp only [k1, k2, if_true, if_false, false_or, show ¬ (0 : Int32) = 1 by decide, false_and, show ¬ 6 ≤ what.toInt by omega]
      · simp only [k1, k2, if_false, false_or, true_and, show 6 ≤ what.toInt by omega]
  unfold fW_canBeSet q_isPl
  simp only [mid 1 (Or.inr rfl), mid 0 (Or.inl rfl), h0, ho, Option.bind_some, hs.isTile, q_call, q_kI, q_ret0, l0, l10, l4, t0, tn, tm, cm, w3, decide_eq_true_eq]
  by_cases k1 : what.toInt < 0
  · rw [if_pos k1, if_neg (by omega)]
  · rw [if_neg k1]
    by_cases k2 : what.toInt ≤ 10
    · rw [if_pos k2]
      by_cases k3 : t.toInt = -1
      · rw [if_pos k3]
        simp only [true_and]
        congr 4
        split <;> split <;> first | rfl | omega
      · rw [if_neg k3]
        by_cases k4 : what.toInt < 4
        · rw [if_pos k4, if_neg (fun h => absurd h.1 (by decide)), if_neg (by omega)]
        · rw [if_neg k4]
          by_cases k5 : t.toInt < 0
          · simp only [k5, if_true]
            rw [if_neg (fun h => absurd h.1 (by decide)), if_neg (by omega)]
          · by_cases k6 : q_nt tw th sz ≤ t.toInt
            · simp only [k5, k6, if_true, if_false]
              rw [if_neg (fun h => absurd h.1 (by decide)), if_neg (by omega)]
            · simp only [k5, k6, if_false, show ¬ (1 : Int32) = 0 by decide]
              simp only [true_and]
              congr 4
              split <;> split <;> first | rfl | omega
    · rw [if_neg k2, if_neg (by omega)]
end
