section
variable {w : PW} {z : Nat → Int32} {g : Nat → Nat → Int32} {tw th : Int32} {sz dp nm sy sp : Nat → Int32}
theorem q_i7 {s k : Int32} (s0 : 0 ≤ s.toInt) (s1 : s.toInt < 125) (k0 : 4 ≤ k.toInt) (k1 : k.toInt ≤ 10) : (s * 7 + k - 4).toNatClampNeg = 7 * s.toInt.toNat + k.toInt.toNat - 4 := by
  have e7 : (7 : Int32).toInt = 7 := rfl
  have e4 : (4 : Int32).toInt = 4 := rfl
  have m : (s * 7).toInt = s.toInt * 7 := by rw [q_mul, e7] <;> rw [e7] <;> omega
  have a : (s * 7 + k).toInt = s.toInt * 7 + k.toInt := by rw [q_add, m] <;> rw [m] <;> omega
  have b : (s * 7 + k - 4).toInt = s.toInt * 7 + k.toInt - 4 := by rw [q_sub, a, e4] <;> rw [a, e4] <;> omega
  rw [q_tn, b]
  omega
theorem q_i11 {s k : Int32} (s0 : 0 ≤ s.toInt) (s1 : s.toInt < 250) (k0 : 0 ≤ k.toInt) (k1 : k.toInt ≤ 10) : (11 * s + k).toNatClampNeg = 11 * s.toInt.toNat + k.toInt.toNat := by
  have e11 : (11 : Int32).toInt = 11 := rfl
  have m : (11 * s).toInt = 11 * s.toInt := by rw [q_mul, e11] <;> rw [e11] <;> omega
  have a : (11 * s + k).toInt = 11 * s.toInt + k.toInt := by rw [q_add, m] <;> rw [m] <;> omega
  rw [q_tn, a]
  omega
theorem q_suc {k : Int32} (h : k.toInt < 2147483647) : (k + 1).toInt = k.toInt + 1 := by
  have e1 : (1 : Int32).toInt = 1 := rfl
  have := q_bot k
  rw [q_add (by omega) (by omega), e1]
theorem q_mkN_at {fr sl : Int32} (f0 : 0 ≤ fr.toInt) (f1 : fr.toInt < 125) (s0 : 0 ≤ sl.toInt) (s1 : sl.toInt < 125) (hne : fr.toInt ≠ sl.toInt) (s j : Nat) (hs : s < 125) (j0 : 4 ≤ j) (j1 : j ≤ 10) : ∀ (n : Nat) (k : Int32) (nm : Nat → Int32), 4 ≤ k.toInt → k.toInt + n ≤ 11 → q_mkN fr sl n k nm (7 * s + j - 4) = if s = sl.toInt.toNat ∧ k.toInt ≤ j ∧ (j : Int) < k.toInt + n then nm (7 * fr.toInt.toNat + j - 4) else nm (7 * s + j - 4)
  | 0, k, nm, k0, k1 => by rw [q_mkN, if_neg (by omega)]
  | n + 1, k, nm, k0, k1 => by
    have e := q_suc (k := k) (by omega)
    rw [q_mkN, q_mkN_at f0 f1 s0 s1 hne s j hs j0 j1 n (k + 1) _ (by omega) (by omega), e, q_i7 s0 s1 k0 (by omega), q_i7 f0 f1 k0 (by omega)]
    unfold upd
    by_cases h1 : s = sl.toInt.toNat
    · by_cases h2 : k.toInt + 1 ≤ j ∧ (j : Int) < k.toInt + 1 + n
      · rw [if_pos ⟨h1, h2⟩, if_neg (by omega), if_pos (by omega)]
      · rw [if_neg (by omega)]
        by_cases h3 : (j : Int) = k.toInt
        · rw [if_pos (by omega), if_pos (by omega)]
          congr 1
          omega
        · rw [if_neg (by omega), if_neg (by omega)]
    · rw [if_neg (fun h => h1 h.1), if_neg (by omega), if_neg (fun h => h1 h.1)]
theorem q_9 {what : Int32} : 9 ≤ what ↔ 9 ≤ what.toInt := Int32.le_iff_toInt_le
theorem q_mk_at {what fr sl : Int32} (f0 : 0 ≤ fr.toInt) (f1 : fr.toInt < 125) (s0 : 0 ≤ sl.toInt) (s1 : sl.toInt < 125) (s j : Nat) (hs : s < 125) (j0 : 4 ≤ j) (j1 : j ≤ 10) (nm : Nat → Int32) : q_mk what fr sl nm (7 * s + j - 4) = if s = sl.toInt.toNat ∧ (9 ≤ j ↔ 9 ≤ what.toInt) then nm (7 * fr.toInt.toNat + j - 4) else nm (7 * s + j - 4) := by
  unfold q_mk
  by_cases he : sl = fr
  · rw [if_pos he]
    subst he
    split
    · rename_i h; rw [h.1]
    · rfl
  · have hne : fr.toInt ≠ sl.toInt := fun h => he (q_i32 h).symm
    have e9 : (9 : Int32).toInt = 9 := rfl
    have e4 : (4 : Int32).toInt = 4 := rfl
    rw [if_neg he]
    simp only [q_9]
    by_cases hw : 9 ≤ what.toInt
    · rw [if_pos hw, q_mkN_at f0 f1 s0 s1 hne s j hs j0 j1 2 9 nm (by omega) (by omega), e9]
      simp only [hw, iff_true]
      congr 1
      apply propext
      omega
    · rw [if_neg hw, q_mkN_at f0 f1 s0 s1 hne s j hs j0 j1 5 4 nm (by omega) (by omega), e4]
      simp only [hw, iff_false]
      congr 1
      apply propext
      omega
/-- the reference's places are the class's slots -/
theorem q_row_i {t : Int32} (h0 : -1 ≤ t.toInt) (h1 : t.toInt < 24) : (q_row t).toInt = t.toInt + 1 := by
  unfold q_row
  have e0 : (0 : Int32).toInt = 0 := rfl
  have e24 : (24 : Int32).toInt = 24 := rfl
  split
  · rename_i h; rw [Int32.lt_iff_toInt_lt] at h; omega
  · rw [if_neg (by rw [Int32.le_iff_toInt_le]; omega), q_suc (by omega)]
theorem q_col_i {t : Int32} (h0 : -1 ≤ t.toInt) (h1 : t.toInt < 4) : (q_col t).toInt = t.toInt + 1 := by
  unfold q_col
  have e0 : (0 : Int32).toInt = 0 := rfl
  have e24 : (4 : Int32).toInt = 4 := rfl
  split
  · rename_i h; rw [Int32.lt_iff_toInt_lt] at h; omega
  · rw [if_neg (by rw [Int32.le_iff_toInt_le]; omega), q_suc (by omega)]
theorem q_slot_i {t c : Int32} (h0 : -1 ≤ t.toInt) (h1 : t.toInt < 24) (c0 : -1 ≤ c.toInt) (c1 : c.toInt < 4) : (q_slot t c).toInt = 5 * (t.toInt + 1) + c.toInt + 1 := by
  unfold q_slot
  have e5 : (5 : Int32).toInt = 5 := rfl
  have r := q_row_i h0 h1
  have k := q_col_i c0 c1
  have m : (q_row t * 5).toInt = (t.toInt + 1) * 5 := by rw [q_mul, r, e5] <;> rw [r, e5] <;> omega
  rw [q_add, m, k] <;> (try rw [m, k]) <;> omega
theorem q_pl_slot {t c : Int32} (h0 : -1 ≤ t.toInt) (h1 : t.toInt < 24) (c0 : -1 ≤ c.toInt) (c1 : c.toInt < 4) : q_pl t c = q_slot t c := by
  apply q_i32
  rw [q_slot_i h0 h1 c0 c1]
  unfold q_pl
  have e5 : (5 : Int32).toInt = 5 := rfl
  have e1 : (1 : Int32).toInt = 1 := rfl
  have a := q_suc (k := t) (by omega)
  have m : (5 * (t + 1)).toInt = 5 * (t.toInt + 1) := by rw [q_mul, a, e5] <;> rw [a, e5] <;> omega
  have b : (5 * (t + 1) + c).toInt = 5 * (t.toInt + 1) + c.toInt := by rw [q_add, m] <;> rw [m] <;> omega
  rw [q_suc (by omega), b]
theorem q_slot_bi (t c : Int32) : 0 ≤ (q_slot t c).toInt ∧ (q_slot t c).toInt < 125 := ⟨Int32.le_iff_toInt_le.mp (q_slot_b t c).1, Int32.lt_iff_toInt_lt.mp (q_slot_b t c).2⟩
theorem q_fc_bi (f : Nat → Int32) (t c : Int32) : 0 ≤ (q_fc f t c).toInt ∧ (q_fc f t c).toInt < 125 := ⟨Int32.le_iff_toInt_le.mp (q_fc_b f t c).1, Int32.lt_iff_toInt_lt.mp (q_fc_b f t c).2⟩
theorem q_isStep {what : Int32} (h : what.toInt ≤ 10) (w : PW) : fD_isStep what w = some (.inl (some (.int (if 9 ≤ what.toInt then 1 else 0))), w) := by
  unfold fD_isStep
  have e9 : what = 9 ↔ what.toInt = 9 := ⟨fun k => by rw [k]; rfl, fun k => q_i32 k⟩
  have e10 : what = 10 ↔ what.toInt = 10 := ⟨fun k => by rw [k]; rfl, fun k => q_i32 k⟩
  simp only [e9, e10]
  by_cases h9 : what.toInt = 9
  · rw [if_pos h9, if_pos (by omega)]; rfl
  · by_cases h10 : what.toInt = 10
    · rw [if_neg h9, if_neg (not_not_intro h10), if_pos (by omega)]; rfl
    · rw [if_neg h9, if_pos h10, if_neg (by omega)]; rfl
def q_sel (what : Int32) (sy sp : Nat → Int32) : Nat → Int32 := if 9 ≤ what then sp else sy
theorem qM.has (h : qM w z g) (k : qR tw th sz dp nm sy sp g) (y01 : ∀ i, sy i = 0 ∨ sy i = 1) (p01 : ∀ i, sp i = 0 ∨ sp i = 1) {what : Int32} (hw : what.toInt ≤ 10) (t c : Int32) : fD_has 37 (q_slot t c) what w = some (.inl (some (.int (q_sel what sy sp (q_slot t c).toNatClampNeg))), w) := by
  have hb := q_slot_bi t c
  unfold fD_has q_sel
  have hn : (q_slot t c).toNatClampNeg < 125 := by rw [q_tn]; omega
  have i1 : q_slot t c < Int32.ofNat 250 := by
    rw [Int32.lt_iff_toInt_lt]
    show _ < (250 : Int)
    omega
  have l39 := h.ld 39 2 (q_slot t c) rfl (by omega) (by omega) (q_slot0 t c) i1 (by decide)
  have l40 := h.ld 40 2 (q_slot t c) rfl (by omega) (by omega) (q_slot0 t c) i1 (by decide)
  have hk := k.2.2.1 _ hn
  rw [q_isStep hw, q_call, q_kI]
  simp only [q_9]
  by_cases h9 : 9 ≤ what.toInt
  · rw [if_pos h9, if_pos h9, if_neg (by decide), h.R 5 40 rfl, Option.bind_some, l40, Option.bind_some, ← hk.2]
    unfold p_retZ
    rw [if_pos (p01 _)]
  · rw [if_neg h9, if_neg h9, if_pos rfl, h.R 4 39 rfl, Option.bind_some, l39, Option.bind_some, ← hk.1]
    unfold p_retZ
    rw [if_pos (y01 _)]
theorem q_z_add (x : Int32) : (0 : Int32) + x = x := by grind
theorem qM.force (h : qM w z g) (k : qR tw th sz dp nm sy sp g) (y01 : ∀ i, sy i = 0 ∨ sy i = 1) (p01 : ∀ i, sp i = 0 ∨ sp i = 1) {what t c : Int32} (hw : what.toInt ≤ 10) (h0 : -1 ≤ t.toInt) (h1 : t.toInt < 24) (c0 : -1 ≤ c.toInt) (c1 : c.toInt < 4) : fD_force 37 0 what t c w = some (.inl (some (.int (q_fc (q_sel what sy sp) t c))), w) := by
  have em : (-1 : Int32).toInt = -1 := rfl
  have t0 : t < 0 ↔ t.toInt < 0 := Int32.lt_iff_toInt_lt
  have cc : c < 0 ↔ c.toInt < 0 := Int32.lt_iff_toInt_lt
  unfold fD_force fD_force_52 q_fc
  simp only [q_placeOf, q_call, q_kI, h.obj, Option.bind_some, q_z_add, q_pl_slot h0 h1 c0 c1, q_pl_slot h0 h1 (show -1 ≤ (-1 : Int32).toInt by decide) (show (-1 : Int32).toInt < 4 by decide), q_pl_slot (show -1 ≤ (-1 : Int32).toInt by decide) (show (-1 : Int32).toInt < 24 by decide) c0 c1, h.has k y01 p01 hw]
  by_cases k1 : q_sel what sy sp (q_slot t c).toNatClampNeg = 0
  · rw [if_pos k1, if_pos k1]
    by_cases k2 : t < 0
    · have et : t = -1 := q_i32 (by rw [t0] at k2; omega)
      subst et
      rw [if_pos k2, k1]
      have e0 : q_slot (-1) (-1) = 0 := by decide
      by_cases k3 : c < 0
      · rw [if_pos k3, e0]
        have ec : c = -1 := q_i32 (by rw [cc] at k3; omega)
        subst ec
        (repeat' split) <;> rfl
      · rw [if_neg k3, e0]
        (repeat' split) <;> first | rfl | (rename_i hh; exact absurd rfl hh) | trivial
    · rw [if_neg k2]
      by_cases k4 : q_sel what sy sp (q_slot t (-1)).toNatClampNeg = 0
      · rw [if_pos k4, if_pos k4]
        by_cases k3 : c < 0
        · rw [if_pos k3]
          have ec : c = -1 := q_i32 (by rw [cc] at k3; omega)
          subst ec
          have e0 : q_slot (-1) (-1) = 0 := by decide
          rw [e0]
          (repeat' split) <;> rfl
        · rw [if_neg k3]
          (repeat' split) <;> rfl
      · rw [if_neg k4, if_neg k4]
  · rw [if_neg k1, if_neg k1]
end
