section
variable {w : PW} {z : Nat → Int32} {g : Nat → Nat → Int32} {tw th : Int32} {sz dp nm sy sp : Nat → Int32}
/-- the class's own test of the place -/
theorem q_clsPl (hs : qS w 1 tw th sz dp nm sy sp) (h0 : p_getR w 0 0 0 = some 1) (k : qR tw th sz dp nm sy sp g) (what t c : Int32) : fW_canBeSet 0 what t c w = some (.inl (some (.int (if q_isPl (q_nt tw th sz) (sz 2) what t c then 1 else 0))), w) := by
  have hnt := k.nt
  obtain ⟨fs, ho⟩ := hs.obj
  have b4 := k.2.2.2.2.1
  have e0 : (0 : Int32).toInt = 0 := rfl
  have em : (-1 : Int32).toInt = -1 := rfl
  have l0 : what < 0 ↔ what.toInt < 0 := Int32.lt_iff_toInt_lt
  have l10 : what ≤ 10 ↔ what.toInt ≤ 10 := Int32.le_iff_toInt_le
  have l4 : what < 4 ↔ what.toInt < 4 := Int32.lt_iff_toInt_lt
  have l6 : what < 6 ↔ what.toInt < 6 := Int32.lt_iff_toInt_lt
  have t0 : t < 0 ↔ t.toInt < 0 := Int32.lt_iff_toInt_lt
  have c0 : c < 0 ↔ c.toInt < 0 := Int32.lt_iff_toInt_lt
  have tn : q_many (sz 0) tw * q_many (sz 1) th ≤ t ↔ q_nt tw th sz ≤ t.toInt := by rw [Int32.le_iff_toInt_le, hnt.1]
  have cn : sz 2 ≤ c ↔ (sz 2).toInt ≤ c.toInt := Int32.le_iff_toInt_le
  have tm : t = -1 ↔ t.toInt = -1 := ⟨fun h => by rw [h]; rfl, fun h => q_i32 h⟩
  have cm : c = -1 ↔ c.toInt = -1 := ⟨fun h => by rw [h]; rfl, fun h => q_i32 h⟩
  have w3 : what = 3 ↔ what.toInt = 3 := ⟨fun h => by rw [h]; rfl, fun h => q_i32 h⟩
  have fin : ∀ a b : Int32, (a = 0 ∨ a = 1) → (b = 0 ∨ b = 1) → fW_canBeSet_84 a b w = some (.inl (some (.int (if a = 1 ∧ b = 1 then 1 else 0))), w) := by
    rintro a b (e | e) (e' | e') <;> subst e <;> subst e' <;> rfl
  have comp : ∀ a s : Int32, (a = 0 ∨ a = 1) → (s = 0 ∨ s = 1) → fW_canBeSet_56 0 c a s w = some (.inl (some (.int (if a = 1 ∧ (c.toInt = -1 ∨ (s = 1 ∧ 0 ≤ c.toInt ∧ c.toInt < (sz 2).toInt)) then 1 else 0))), w) := by
    intro a s ha hs2
    unfold fW_canBeSet_56
    simp only [h0, ho, Option.bind_some, hs.isComponent, q_call, q_kI, fin a 1 ha (Or.inr rfl), fin a 0 ha (Or.inl rfl), c0, cn, cm]
    by_cases k1 : c.toInt = -1
    · simp only [k1, if_true, true_or, and_true]
    · rcases hs2 with e | e
      · subst e
        simp only [k1, if_true, if_false, false_or, false_and, and_false, show ¬ (0 : Int32) = 1 by decide]
      · subst e
        by_cases k2 : c.toInt < 0
        · simp only [k1, k2, if_true, if_false, false_or, show ¬ (1 : Int32) = 0 by decide, show ¬ (0 : Int32) = 1 by decide, and_false, show ¬ 0 ≤ c.toInt by omega, false_and]
        · by_cases k3 : (sz 2).toInt ≤ c.toInt
          · simp only [k1, k2, k3, if_true, if_false, false_or, show ¬ (1 : Int32) = 0 by decide, show ¬ (0 : Int32) = 1 by decide, and_false, show ¬ c.toInt < (sz 2).toInt by omega]
          · simp only [k1, k2, k3, if_false, false_or, show ¬ (1 : Int32) = 0 by decide, and_true, show 0 ≤ c.toInt by omega, show c.toInt < (sz 2).toInt by omega, and_self]
  have mid : ∀ a : Int32, (a = 0 ∨ a = 1) → fW_canBeSet_38 0 what c a w = some (.inl (some (.int (if a = 1 ∧ (c.toInt = -1 ∨ ((what.toInt = 3 ∨ 6 ≤ what.toInt) ∧ 0 ≤ c.toInt ∧ c.toInt < (sz 2).toInt)) then 1 else 0))), w) := by
    intro a ha
    unfold fW_canBeSet_38
    rw [comp a 1 ha (Or.inr rfl), comp a 0 ha (Or.inl rfl)]
    simp only [w3, l6]
    by_cases k1 : what.toInt = 3
    · simp only [k1, if_true, true_or, true_and]
    · by_cases k2 : what.toInt < 6
      · simp only [k1, k2, if_true, if_false, false_or, show ¬ (0 : Int32) = 1 by decide, false_and, show ¬ 6 ≤ what.toInt by omega]
      · simp only [k1, k2, if_false, false_or, true_and, show 6 ≤ what.toInt by omega]
  unfold fW_canBeSet q_isPl
  simp only [mid 1 (Or.inr rfl), mid 0 (Or.inl rfl), h0, ho, Option.bind_some, hs.isTile, q_call, q_kI, q_ret0, l0, l10, l4, t0, tn, tm, cm, w3, decide_eq_true_eq]
  by_cases k1 : what.toInt < 0
  · rw [if_pos k1, if_neg (by omega)]
  · rw [if_neg k1]
    by_cases k2 : what.toInt ≤ 10
    · rw [if_pos k2]
      by_cases k3 : t.toInt = -1
      · rw [if_pos k3]
        simp only [true_and]
        congr 4
        split <;> split <;> first | rfl | omega
      · rw [if_neg k3]
        by_cases k4 : what.toInt < 4
        · rw [if_pos k4, if_neg (fun h => absurd h.1 (by decide)), if_neg (by omega)]
        · rw [if_neg k4]
          by_cases k5 : t.toInt < 0
          · simp only [k5, if_true]
            rw [if_neg (fun h => absurd h.1 (by decide)), if_neg (by omega)]
          · by_cases k6 : q_nt tw th sz ≤ t.toInt
            · simp only [k5, k6, if_true, if_false]
              rw [if_neg (fun h => absurd h.1 (by decide)), if_neg (by omega)]
            · simp only [k5, k6, if_false, show ¬ (1 : Int32) = 0 by decide]
              simp only [true_and]
              congr 4
              split <;> split <;> first | rfl | omega
    · rw [if_neg k2, if_neg (by omega)]
end
section
variable {w : PW} {z : Nat → Int32} {g : Nat → Nat → Int32} {tw th : Int32} {sz dp nm sy sp : Nat → Int32}
theorem q_any01 (sy sp : Nat → Int32) : ∀ n i, q_any sy sp n i = 0 ∨ q_any sy sp n i = 1
  | 0, i => Or.inl rfl
  | n + 1, i => by
    rw [q_any]
    split
    · exact Or.inr rfl
    · split
      · exact q_any01 sy sp n (i + 1)
      · exact Or.inr rfl
theorem q_any_congr {sy sp sy' sp' : Nat → Int32} (h : ∀ s, s < 125 → sy s = sy' s ∧ sp s = sp' s) : ∀ n i, i + n ≤ 125 → q_any sy sp n i = q_any sy' sp' n i
  | 0, i, _ => rfl
  | n + 1, i, hi => by
    rw [q_any, q_any, (h i (by omega)).1, (h i (by omega)).2, q_any_congr h n (i + 1) (by omega)]
theorem qM.fix15 (h : qM w z g) : ∀ (n i F : Nat) (a : Int32), (a = 0 ∨ a = 1) → n < F → i + n = 125 → fD_isFixed_15 F 37 a (Int32.ofNat i) w = some (.inl (some (.int (if a = 1 then 1 else q_any (g 39) (g 40) n i))), w)
  | 0, i, F + 1, a, ha, _, hi => by
    have : i = 125 := by omega
    subst this
    rw [fD_isFixed_15, if_pos (by decide)]
    rcases ha with e | e <;> subst e <;> rfl
  | n + 1, i, F + 1, a, ha, hF, hi => by
    have h1 : ¬ (125 : Int32) ≤ Int32.ofNat i := fun k => by
      have := (q_le (m := 125) (n := i) (by omega) (by omega)).mp k
      omega
    have e2 : Int32.ofNat i + 1 = Int32.ofNat (i + 1) := (Int32.ofNat_add i 1).symm
    have i0 : 0 ≤ Int32.ofNat i := q_ge0 i (by omega)
    have i1 : Int32.ofNat i < Int32.ofNat 250 := (q_lt (m := i) (n := 250) (by omega) (by omega)).mpr (by omega)
    have l39 : p_ald w 39 2 (Int32.ofNat i) = some (g 39 i) := by
      rw [h.ld 39 2 (Int32.ofNat i) rfl (by omega) (by omega) i0 i1 (by decide), q_tno (by omega)]
    have l40 : p_ald w 40 2 (Int32.ofNat i) = some (g 40 i) := by
      rw [h.ld 40 2 (Int32.ofNat i) rfl (by omega) (by omega) i0 i1 (by decide), q_tno (by omega)]
    rw [fD_isFixed_15, if_neg h1]
    simp only [h.R 4 39 rfl, h.R 5 40 rfl, Option.bind_some, l39, l40, p_let, e2]
    rw [qM.fix15 h n (i + 1) F 1 (Or.inr rfl) (by omega) (by omega), qM.fix15 h n (i + 1) F 0 (Or.inl rfl) (by omega) (by omega), q_any]
    rcases ha with e | e
    · subst e
      simp only [not_true_eq_false, if_false, show ¬ (0 : Int32) = 1 by decide, if_true]
      (repeat' split) <;> rfl
    · subst e
      rfl
theorem qM.isFixed (h : qM w z g) (k : qR tw th sz dp nm sy sp g) : fD_isFixed 37 w = some (.inl (some (.int (if z 8 ≤ 0 then q_any sy sp 124 1 else 1))), w) := by
  unfold fD_isFixed
  have e1 := h.fix15 124 1 FUEL 0 (Or.inl rfl) (by decide) (by decide)
  have e2 := h.fix15 124 1 FUEL 1 (Or.inr rfl) (by decide) (by decide)
  rw [h.I 8 rfl, Option.bind_some]
  have e3 : q_any sy sp 124 1 = q_any (g 39) (g 40) 124 1 := q_any_congr k.2.2.1 124 1 (by omega)
  split
  · rw [e3]
    exact e1
  · exact e2
/-- bounds of a number -/
theorem q_isNum (what v : Int32) (h0 : 0 ≤ what.toInt) (h1 : what.toInt ≤ 10) (w : PW) : fD_isNumber what v w = some (.inl (some (.int (q_within what (Int32.toInt64 v)))), w) := by
  have hw : what = 0 ∨ what = 1 ∨ what = 2 ∨ what = 3 ∨ what = 4 ∨ what = 5 ∨ what = 6 ∨ what = 7 ∨ what = 8 ∨ what = 9 ∨ what = 10 := by
    have : what.toInt = 0 ∨ what.toInt = 1 ∨ what.toInt = 2 ∨ what.toInt = 3 ∨ what.toInt = 4 ∨ what.toInt = 5 ∨ what.toInt = 6 ∨ what.toInt = 7 ∨ what.toInt = 8 ∨ what.toInt = 9 ∨ what.toInt = 10 := by omega
    rcases this with e | e | e | e | e | e | e | e | e | e | e
    · exact Or.inl (q_i32 e)
    · exact Or.inr (Or.inl (q_i32 e))
    · exact Or.inr (Or.inr (Or.inl (q_i32 e)))
    · exact Or.inr (Or.inr (Or.inr (Or.inl (q_i32 e))))
    · exact Or.inr (Or.inr (Or.inr (Or.inr (Or.inl (q_i32 e)))))
    · exact Or.inr (Or.inr (Or.inr (Or.inr (Or.inr (Or.inl (q_i32 e))))))
    · exact Or.inr (Or.inr (Or.inr (Or.inr (Or.inr (Or.inr (Or.inl (q_i32 e)))))))
    · exact Or.inr (Or.inr (Or.inr (Or.inr (Or.inr (Or.inr (Or.inr (Or.inl (q_i32 e))))))))
    · exact Or.inr (Or.inr (Or.inr (Or.inr (Or.inr (Or.inr (Or.inr (Or.inr (Or.inl (q_i32 e)))))))))
    · exact Or.inr (Or.inr (Or.inr (Or.inr (Or.inr (Or.inr (Or.inr (Or.inr (Or.inr (Or.inl (q_i32 e))))))))))
    · exact Or.inr (Or.inr (Or.inr (Or.inr (Or.inr (Or.inr (Or.inr (Or.inr (Or.inr (Or.inr (q_i32 e))))))))))
  have key : ∀ (lo hi : Int64) (a b : Int32), Int32.toInt64 a = lo → Int32.toInt64 b = hi → (p_call (fD_in (Int32.toInt64 v) lo hi w) <| p_kI fun v62 w62 => p_retZ v62 w62) = some (.inl (some (.int (if lg_cmp (Int32.toInt64 v) (Int32.toInt64 a) < 0 then 0 else if 0 < lg_cmp (Int32.toInt64 v) (Int32.toInt64 b) then 0 else 1))), w) := by
    intro lo hi a b ha hb
    subst ha hb
    unfold fD_in
    split
    · rfl
    · split <;> rfl
  have qw : ∀ what : Int32, ¬ what < 0 → ¬ 11 ≤ what → q_within what (Int32.toInt64 v) = if lg_cmp (Int32.toInt64 v) (Int32.toInt64 (pz_tab 0 what.toNatClampNeg)) < 0 then 0 else if 0 < lg_cmp (Int32.toInt64 v) (Int32.toInt64 (pz_tab 1 what.toNatClampNeg)) then 0 else 1 := fun what h1 h2 => by
    unfold q_within
    rw [if_neg h1, if_neg h2]
  unfold fD_isNumber
  rcases hw with e | e | e | e | e | e | e | e | e | e | e <;> subst e
  · rw [if_pos rfl, key 1 2000 (pz_tab 0 0) (pz_tab 1 0) rfl rfl, qw _ (by decide) (by decide)]; rfl
  · rw [if_neg (show ¬ (1 : Int32) = 0 by decide), if_pos rfl, key 1 2000 (pz_tab 0 1) (pz_tab 1 1) rfl rfl, qw _ (by decide) (by decide)]; rfl
  · rw [if_neg (show ¬ (2 : Int32) = 0 by decide), if_neg (show ¬ (2 : Int32) = 1 by decide), if_pos rfl, key 1 4 (pz_tab 0 2) (pz_tab 1 2) rfl rfl, qw _ (by decide) (by decide)]; rfl
  · rw [if_neg (show ¬ (3 : Int32) = 0 by decide), if_neg (show ¬ (3 : Int32) = 1 by decide), if_neg (show ¬ (3 : Int32) = 2 by decide), if_pos rfl, key 1 16 (pz_tab 0 3) (pz_tab 1 3) rfl rfl, qw _ (by decide) (by decide)]; rfl
  · rw [if_neg (show ¬ (4 : Int32) = 0 by decide), if_neg (show ¬ (4 : Int32) = 1 by decide), if_neg (show ¬ (4 : Int32) = 2 by decide), if_neg (show ¬ (4 : Int32) = 3 by decide), if_pos rfl, key 0 4 (pz_tab 0 4) (pz_tab 1 4) rfl rfl, qw _ (by decide) (by decide)]; rfl
  · rw [if_neg (show ¬ (5 : Int32) = 0 by decide), if_neg (show ¬ (5 : Int32) = 1 by decide), if_neg (show ¬ (5 : Int32) = 2 by decide), if_neg (show ¬ (5 : Int32) = 3 by decide), if_neg (show ¬ (5 : Int32) = 4 by decide), if_pos rfl, key 1 1000 (pz_tab 0 5) (pz_tab 1 5) rfl rfl, qw _ (by decide) (by decide)]; rfl
  · rw [if_neg (show ¬ (6 : Int32) = 0 by decide), if_neg (show ¬ (6 : Int32) = 1 by decide), if_neg (show ¬ (6 : Int32) = 2 by decide), if_neg (show ¬ (6 : Int32) = 3 by decide), if_neg (show ¬ (6 : Int32) = 4 by decide), if_neg (show ¬ (6 : Int32) = 5 by decide), if_pos rfl, key 0 5 (pz_tab 0 6) (pz_tab 1 6) rfl rfl, qw _ (by decide) (by decide)]; rfl
  · rw [if_neg (show ¬ (7 : Int32) = 0 by decide), if_neg (show ¬ (7 : Int32) = 1 by decide), if_neg (show ¬ (7 : Int32) = 2 by decide), if_neg (show ¬ (7 : Int32) = 3 by decide), if_neg (show ¬ (7 : Int32) = 4 by decide), if_neg (show ¬ (7 : Int32) = 5 by decide), if_neg (show ¬ (7 : Int32) = 6 by decide), if_pos rfl, key 2 6 (pz_tab 0 7) (pz_tab 1 7) rfl rfl, qw _ (by decide) (by decide)]; rfl
  · rw [if_neg (show ¬ (8 : Int32) = 0 by decide), if_neg (show ¬ (8 : Int32) = 1 by decide), if_neg (show ¬ (8 : Int32) = 2 by decide), if_neg (show ¬ (8 : Int32) = 3 by decide), if_neg (show ¬ (8 : Int32) = 4 by decide), if_neg (show ¬ (8 : Int32) = 5 by decide), if_neg (show ¬ (8 : Int32) = 6 by decide), if_neg (show ¬ (8 : Int32) = 7 by decide), if_pos rfl, key 0 1 (pz_tab 0 8) (pz_tab 1 8) rfl rfl, qw _ (by decide) (by decide)]; rfl
  · rw [if_neg (show ¬ (9 : Int32) = 0 by decide), if_neg (show ¬ (9 : Int32) = 1 by decide), if_neg (show ¬ (9 : Int32) = 2 by decide), if_neg (show ¬ (9 : Int32) = 3 by decide), if_neg (show ¬ (9 : Int32) = 4 by decide), if_neg (show ¬ (9 : Int32) = 5 by decide), if_neg (show ¬ (9 : Int32) = 6 by decide), if_neg (show ¬ (9 : Int32) = 7 by decide), if_neg (show ¬ (9 : Int32) = 8 by decide), if_pos rfl, key 0 31 (pz_tab 0 9) (pz_tab 1 9) rfl rfl, qw _ (by decide) (by decide)]; rfl
  · rw [if_neg (show ¬ (10 : Int32) = 0 by decide), if_neg (show ¬ (10 : Int32) = 1 by decide), if_neg (show ¬ (10 : Int32) = 2 by decide), if_neg (show ¬ (10 : Int32) = 3 by decide), if_neg (show ¬ (10 : Int32) = 4 by decide), if_neg (show ¬ (10 : Int32) = 5 by decide), if_neg (show ¬ (10 : Int32) = 6 by decide), if_neg (show ¬ (10 : Int32) = 7 by decide), if_neg (show ¬ (10 : Int32) = 8 by decide), if_neg (show ¬ (10 : Int32) = 9 by decide), key 0 7 (pz_tab 0 10) (pz_tab 1 10) rfl rfl, qw _ (by decide) (by decide)]; rfl
theorem q_within01 (what : Int32) (v : Int64) : q_within what v = 0 ∨ q_within what v = 1 := by
  unfold q_within
  (repeat' split) <;> simp
/-- what a number within its bounds is -/
theorem q_within_b {what v : Int32} (h : q_within what (Int32.toInt64 v) = 1) : (pz_tab 0 what.toNatClampNeg).toInt ≤ v.toInt ∧ v.toInt ≤ (pz_tab 1 what.toNatClampNeg).toInt := by
  unfold q_within at h
  split at h
  · exact absurd h (by decide)
  · split at h
    · exact absurd h (by decide)
    · split at h
      · exact absurd h (by decide)
      · rename_i h1
        split at h
        · exact absurd h (by decide)
        · rename_i h2
          rw [q_cmp_lt, q_64, q_64] at h1
          rw [q_cmp_gt, q_64, q_64] at h2
          omega
theorem qM.tooMany (h : qM w z g) (k : qR tw th sz dp nm sy sp g) (what v : Int32) (hw : what = 0 ∨ what = 1) (v1 : 1 ≤ v.toInt) (v2 : v.toInt ≤ 2000) : fD_isTooMany 37 what v w = some (.inl (some (.int (if 24 < q_many (if what = 0 then v else sz 0) tw * q_many (if what = 1 then v else sz 1) th then 1 else 0))), w) := by
  obtain ⟨⟨a0, a1, a2, a3, a4⟩, -, -, -, ⟨b0, b1, b2, b3, b4, b5, b6, b7, b8, b9⟩, ht⟩ := k
  have ld : ∀ i : Nat, i < 10 → p_ald w 42 0 (Int32.ofNat i) = some (g 42 i) := fun i hi => by
    rw [h.ld 42 0 (Int32.ofNat i) rfl (by omega) (by omega) (q_ge0 i (by omega)) ((q_lt (m := i) (n := 10) (by omega) (by omega)).mpr hi) (by decide), q_tno (by omega)]
  have l0 : p_ald w 42 0 0 = some (sz 0) := by rw [a0]; exact ld 0 (by omega)
  have l1 : p_ald w 42 0 1 = some (sz 1) := by rw [a1]; exact ld 1 (by omega)
  have l3 : p_ald w 42 0 3 = some tw := by rw [a3]; exact ld 3 (by omega)
  have l4 : p_ald w 42 0 4 = some th := by rw [a4]; exact ld 4 (by omega)
  have key : ∀ a b : Int32, 1 ≤ a.toInt → a.toInt ≤ 2000 → 1 ≤ b.toInt → b.toInt ≤ 2000 → fD_isTooMany_34 37 (Int32.toInt64 a) (Int32.toInt64 b) w = some (.inl (some (.int (if 24 < q_many a tw * q_many b th then 1 else 0))), w) := by
    intro a b c1 c2 c3 c4
    unfold fD_isTooMany_34
    simp only [h.R 7 42 rfl, Option.bind_some, l3, l4]
    obtain ⟨u, g1, u1⟩ := q_tilesOf (a := Int32.toInt64 a) (b := Int32.toInt64 b) (c := Int32.toInt64 tw) (d := Int32.toInt64 th) (by rw [q_64]; omega) (by rw [q_64]; omega) (by rw [q_64]; omega) (by rw [q_64]; omega) (by rw [q_64]; omega) (by rw [q_64]; omega) (by rw [q_64]; omega) (by rw [q_64]; omega) w
    rw [q_64, q_64, q_64, q_64] at u1
    rw [g1, q_call, q_kJ]
    have e1 := q_many_i c1 c2 b6 (by omega : tw.toInt ≤ 65536)
    have e2 := q_many_i c3 c4 b8 (by omega : th.toInt ≤ 65536)
    have h1 := q_mi_b c1 b6
    have h2 := q_mi_b c3 b8
    have p1 : 0 ≤ q_mi a.toInt tw.toInt * q_mi b.toInt th.toInt := Int.mul_nonneg (by omega) (by omega)
    have p2 : q_mi a.toInt tw.toInt * q_mi b.toInt th.toInt ≤ 2000 * 2000 := Int.mul_le_mul (by omega) (by omega) (by omega) (by omega)
    have e3 : (q_many a tw * q_many b th).toInt = q_mi a.toInt tw.toInt * q_mi b.toInt th.toInt := by
      rw [q_mul (by rw [e1, e2]; omega) (by rw [e1, e2]; omega), e1, e2]
    have c24 : (24 : Int32) < q_many a tw * q_many b th ↔ 24 < u.toInt := by
      rw [Int32.lt_iff_toInt_lt, e3, ← u1]
      rfl
    have d24 : lg_cmp u 24 ≤ 0 ↔ u.toInt ≤ 24 := by
      have h9 := q_cmp_gt u 24
      have e24 : (24 : Int64).toInt = 24 := rfl
      rw [e24] at h9
      constructor
      · intro hh
        apply Int.not_lt.mp
        intro hc
        have := h9.mpr hc
        grind
      · intro hh
        have : ¬ 0 < lg_cmp u 24 := fun hc => by
          have := h9.mp hc
          omega
        grind
    by_cases hc : 24 < u.toInt
    · rw [if_neg (fun hh => by have := d24.mp hh; omega), if_pos (c24.mpr hc)]; rfl
    · rw [if_pos (d24.mpr (by omega)), if_neg (fun hh => hc (c24.mp hh))]; rfl
  unfold fD_isTooMany fD_isTooMany_16
  simp only [h.R 7 42 rfl, Option.bind_some, l0, l1]
  rcases hw with e | e
  · subst e
    simp only [not_true_eq_false, if_true, if_false, show ¬ (0 : Int32) = 1 by decide, not_false_eq_true]
    exact key v (sz 1) v1 v2 b2 b3
  · subst e
    simp only [not_true_eq_false, if_true, if_false, show ¬ (1 : Int32) = 0 by decide, not_false_eq_true]
    exact key (sz 0) v b0 b1 v1 v2
end
section
variable {w : PW} {z : Nat → Int32} {g : Nat → Nat → Int32} {tw th : Int32} {sz dp nm sy sp : Nat → Int32}
theorem q_i7 {s k : Int32} (s0 : 0 ≤ s.toInt) (s1 : s.toInt < 125) (k0 : 4 ≤ k.toInt) (k1 : k.toInt ≤ 10) : (s * 7 + k - 4).toNatClampNeg = 7 * s.toInt.toNat + k.toInt.toNat - 4 := by
  have e7 : (7 : Int32).toInt = 7 := rfl
  have e4 : (4 : Int32).toInt = 4 := rfl
  have m : (s * 7).toInt = s.toInt * 7 := by rw [q_mul, e7] <;> rw [e7] <;> omega
  have a : (s * 7 + k).toInt = s.toInt * 7 + k.toInt := by rw [q_add, m] <;> rw [m] <;> omega
  have b : (s * 7 + k - 4).toInt = s.toInt * 7 + k.toInt - 4 := by rw [q_sub, a, e4] <;> rw [a, e4] <;> omega
  rw [q_tn, b]
  omega
theorem q_i11 {s k : Int32} (s0 : 0 ≤ s.toInt) (s1 : s.toInt < 250) (k0 : 0 ≤ k.toInt) (k1 : k.toInt ≤ 10) : (11 * s + k).toNatClampNeg = 11 * s.toInt.toNat + k.toInt.toNat := by
  have e11 : (11 : Int32).toInt = 11 := rfl
  have m : (11 * s).toInt = 11 * s.toInt := by rw [q_mul, e11] <;> rw [e11] <;> omega
  have a : (11 * s + k).toInt = 11 * s.toInt + k.toInt := by rw [q_add, m] <;> rw [m] <;> omega
  rw [q_tn, a]
  omega
theorem q_suc {k : Int32} (h : k.toInt < 2147483647) : (k + 1).toInt = k.toInt + 1 := by
  have e1 : (1 : Int32).toInt = 1 := rfl
  have := q_bot k
  rw [q_add (by omega) (by omega), e1]
theorem q_mkN_at {fr sl : Int32} (f0 : 0 ≤ fr.toInt) (f1 : fr.toInt < 125) (s0 : 0 ≤ sl.toInt) (s1 : sl.toInt < 125) (hne : fr.toInt ≠ sl.toInt) (s j : Nat) (hs : s < 125) (j0 : 4 ≤ j) (j1 : j ≤ 10) : ∀ (n : Nat) (k : Int32) (nm : Nat → Int32), 4 ≤ k.toInt → k.toInt + n ≤ 11 → q_mkN fr sl n k nm (7 * s + j - 4) = if s = sl.toInt.toNat ∧ k.toInt ≤ j ∧ (j : Int) < k.toInt + n then nm (7 * fr.toInt.toNat + j - 4) else nm (7 * s + j - 4)
  | 0, k, nm, k0, k1 => by rw [q_mkN, if_neg (by omega)]
  | n + 1, k, nm, k0, k1 => by
    have e := q_suc (k := k) (by omega)
    rw [q_mkN, q_mkN_at f0 f1 s0 s1 hne s j hs j0 j1 n (k + 1) _ (by omega) (by omega), e, q_i7 s0 s1 k0 (by omega), q_i7 f0 f1 k0 (by omega)]
    unfold upd
    by_cases h1 : s = sl.toInt.toNat
    · by_cases h2 : k.toInt + 1 ≤ j ∧ (j : Int) < k.toInt + 1 + n
      · rw [if_pos ⟨h1, h2⟩, if_neg (by omega), if_pos (by omega)]
      · rw [if_neg (by omega)]
        by_cases h3 : (j : Int) = k.toInt
        · rw [if_pos (by omega), if_pos (by omega)]
          congr 1
          omega
        · rw [if_neg (by omega), if_neg (by omega)]
    · rw [if_neg (fun h => h1 h.1), if_neg (by omega), if_neg (fun h => h1 h.1)]
theorem q_9 {what : Int32} : 9 ≤ what ↔ 9 ≤ what.toInt := Int32.le_iff_toInt_le
theorem q_mk_at {what fr sl : Int32} (f0 : 0 ≤ fr.toInt) (f1 : fr.toInt < 125) (s0 : 0 ≤ sl.toInt) (s1 : sl.toInt < 125) (s j : Nat) (hs : s < 125) (j0 : 4 ≤ j) (j1 : j ≤ 10) (nm : Nat → Int32) : q_mk what fr sl nm (7 * s + j - 4) = if s = sl.toInt.toNat ∧ (9 ≤ j ↔ 9 ≤ what.toInt) then nm (7 * fr.toInt.toNat + j - 4) else nm (7 * s + j - 4) := by
  unfold q_mk
  by_cases he : sl = fr
  · rw [if_pos he]
    subst he
    split
    · rename_i h; rw [h.1]
    · rfl
  · have hne : fr.toInt ≠ sl.toInt := fun h => he (q_i32 h).symm
    have e9 : (9 : Int32).toInt = 9 := rfl
    have e4 : (4 : Int32).toInt = 4 := rfl
    rw [if_neg he]
    simp only [q_9]
    by_cases hw : 9 ≤ what.toInt
    · rw [if_pos hw, q_mkN_at f0 f1 s0 s1 hne s j hs j0 j1 2 9 nm (by omega) (by omega), e9]
      simp only [hw, iff_true]
      congr 1
      apply propext
      omega
    · rw [if_neg hw, q_mkN_at f0 f1 s0 s1 hne s j hs j0 j1 5 4 nm (by omega) (by omega), e4]
      simp only [hw, iff_false]
      congr 1
      apply propext
      omega
/-- the reference's places are the class's slots -/
theorem q_row_i {t : Int32} (h0 : -1 ≤ t.toInt) (h1 : t.toInt < 24) : (q_row t).toInt = t.toInt + 1 := by
  unfold q_row
  have e0 : (0 : Int32).toInt = 0 := rfl
  have e24 : (24 : Int32).toInt = 24 := rfl
  split
  · rename_i h; rw [Int32.lt_iff_toInt_lt] at h; omega
  · rw [if_neg (by rw [Int32.le_iff_toInt_le]; omega), q_suc (by omega)]
theorem q_col_i {t : Int32} (h0 : -1 ≤ t.toInt) (h1 : t.toInt < 4) : (q_col t).toInt = t.toInt + 1 := by
  unfold q_col
  have e0 : (0 : Int32).toInt = 0 := rfl
  have e24 : (4 : Int32).toInt = 4 := rfl
  split
  · rename_i h; rw [Int32.lt_iff_toInt_lt] at h; omega
  · rw [if_neg (by rw [Int32.le_iff_toInt_le]; omega), q_suc (by omega)]
theorem q_slot_i {t c : Int32} (h0 : -1 ≤ t.toInt) (h1 : t.toInt < 24) (c0 : -1 ≤ c.toInt) (c1 : c.toInt < 4) : (q_slot t c).toInt = 5 * (t.toInt + 1) + c.toInt + 1 := by
  unfold q_slot
  have e5 : (5 : Int32).toInt = 5 := rfl
  have r := q_row_i h0 h1
  have k := q_col_i c0 c1
  have m : (q_row t * 5).toInt = (t.toInt + 1) * 5 := by rw [q_mul, r, e5] <;> rw [r, e5] <;> omega
  rw [q_add, m, k] <;> (try rw [m, k]) <;> omega
theorem q_pl_slot {t c : Int32} (h0 : -1 ≤ t.toInt) (h1 : t.toInt < 24) (c0 : -1 ≤ c.toInt) (c1 : c.toInt < 4) : q_pl t c = q_slot t c := by
  apply q_i32
  rw [q_slot_i h0 h1 c0 c1]
  unfold q_pl
  have e5 : (5 : Int32).toInt = 5 := rfl
  have e1 : (1 : Int32).toInt = 1 := rfl
  have a := q_suc (k := t) (by omega)
  have m : (5 * (t + 1)).toInt = 5 * (t.toInt + 1) := by rw [q_mul, a, e5] <;> rw [a, e5] <;> omega
  have b : (5 * (t + 1) + c).toInt = 5 * (t.toInt + 1) + c.toInt := by rw [q_add, m] <;> rw [m] <;> omega
  rw [q_suc (by omega), b]
theorem q_slot_bi (t c : Int32) : 0 ≤ (q_slot t c).toInt ∧ (q_slot t c).toInt < 125 := ⟨Int32.le_iff_toInt_le.mp (q_slot_b t c).1, Int32.lt_iff_toInt_lt.mp (q_slot_b t c).2⟩
theorem q_fc_bi (f : Nat → Int32) (t c : Int32) : 0 ≤ (q_fc f t c).toInt ∧ (q_fc f t c).toInt < 125 := ⟨Int32.le_iff_toInt_le.mp (q_fc_b f t c).1, Int32.lt_iff_toInt_lt.mp (q_fc_b f t c).2⟩
theorem q_isStep {what : Int32} (h : what.toInt ≤ 10) (w : PW) : fD_isStep what w = some (.inl (some (.int (if 9 ≤ what.toInt then 1 else 0))), w) := by
  unfold fD_isStep
  have e9 : what = 9 ↔ what.toInt = 9 := ⟨fun k => by rw [k]; rfl, fun k => q_i32 k⟩
  have e10 : what = 10 ↔ what.toInt = 10 := ⟨fun k => by rw [k]; rfl, fun k => q_i32 k⟩
  simp only [e9, e10]
  by_cases h9 : what.toInt = 9
  · rw [if_pos h9, if_pos (by omega)]; rfl
  · by_cases h10 : what.toInt = 10
    · rw [if_neg h9, if_neg (not_not_intro h10), if_pos (by omega)]; rfl
    · rw [if_neg h9, if_pos h10, if_neg (by omega)]; rfl
def q_sel (what : Int32) (sy sp : Nat → Int32) : Nat → Int32 := if 9 ≤ what then sp else sy
theorem qM.has (h : qM w z g) (k : qR tw th sz dp nm sy sp g) (y01 : ∀ i, sy i = 0 ∨ sy i = 1) (p01 : ∀ i, sp i = 0 ∨ sp i = 1) {what : Int32} (hw : what.toInt ≤ 10) (t c : Int32) : fD_has 37 (q_slot t c) what w = some (.inl (some (.int (q_sel what sy sp (q_slot t c).toNatClampNeg))), w) := by
  have hb := q_slot_bi t c
  unfold fD_has q_sel
  have hn : (q_slot t c).toNatClampNeg < 125 := by rw [q_tn]; omega
  have i1 : q_slot t c < Int32.ofNat 250 := by
    rw [Int32.lt_iff_toInt_lt]
    show _ < (250 : Int)
    omega
  have l39 := h.ld 39 2 (q_slot t c) rfl (by omega) (by omega) (q_slot0 t c) i1 (by decide)
  have l40 := h.ld 40 2 (q_slot t c) rfl (by omega) (by omega) (q_slot0 t c) i1 (by decide)
  have hk := k.2.2.1 _ hn
  rw [q_isStep hw, q_call, q_kI]
  simp only [q_9]
  by_cases h9 : 9 ≤ what.toInt
  · rw [if_pos h9, if_pos h9, if_neg (by decide), h.R 5 40 rfl, Option.bind_some, l40, Option.bind_some, ← hk.2]
    unfold p_retZ
    rw [if_pos (p01 _)]
  · rw [if_neg h9, if_neg h9, if_pos rfl, h.R 4 39 rfl, Option.bind_some, l39, Option.bind_some, ← hk.1]
    unfold p_retZ
    rw [if_pos (y01 _)]
theorem q_z_add (x : Int32) : (0 : Int32) + x = x := by grind
theorem qM.force (h : qM w z g) (k : qR tw th sz dp nm sy sp g) (y01 : ∀ i, sy i = 0 ∨ sy i = 1) (p01 : ∀ i, sp i = 0 ∨ sp i = 1) {what t c : Int32} (hw : what.toInt ≤ 10) (h0 : -1 ≤ t.toInt) (h1 : t.toInt < 24) (c0 : -1 ≤ c.toInt) (c1 : c.toInt < 4) : fD_force 37 0 what t c w = some (.inl (some (.int (q_fc (q_sel what sy sp) t c))), w) := by
  have em : (-1 : Int32).toInt = -1 := rfl
  have t0 : t < 0 ↔ t.toInt < 0 := Int32.lt_iff_toInt_lt
  have cc : c < 0 ↔ c.toInt < 0 := Int32.lt_iff_toInt_lt
  unfold fD_force fD_force_52 q_fc
  simp only [q_placeOf, q_call, q_kI, h.obj, Option.bind_some, q_z_add, q_pl_slot h0 h1 c0 c1, q_pl_slot h0 h1 (show -1 ≤ (-1 : Int32).toInt by decide) (show (-1 : Int32).toInt < 4 by decide), q_pl_slot (show -1 ≤ (-1 : Int32).toInt by decide) (show (-1 : Int32).toInt < 24 by decide) c0 c1, h.has k y01 p01 hw]
  by_cases k1 : q_sel what sy sp (q_slot t c).toNatClampNeg = 0
  · rw [if_pos k1, if_pos k1]
    by_cases k2 : t < 0
    · have et : t = -1 := q_i32 (by rw [t0] at k2; omega)
      subst et
      rw [if_pos k2, k1]
      have e0 : q_slot (-1) (-1) = 0 := by decide
      by_cases k3 : c < 0
      · rw [if_pos k3, e0]
        have ec : c = -1 := q_i32 (by rw [cc] at k3; omega)
        subst ec
        (repeat' split) <;> rfl
      · rw [if_neg k3, e0]
        (repeat' split) <;> first | rfl | (rename_i hh; exact absurd rfl hh) | trivial
    · rw [if_neg k2]
      by_cases k4 : q_sel what sy sp (q_slot t (-1)).toNatClampNeg = 0
      · rw [if_pos k4, if_pos k4]
        by_cases k3 : c < 0
        · rw [if_pos k3]
          have ec : c = -1 := q_i32 (by rw [cc] at k3; omega)
          subst ec
          have e0 : q_slot (-1) (-1) = 0 := by decide
          rw [e0]
          (repeat' split) <;> rfl
        · rw [if_neg k3]
          (repeat' split) <;> rfl
      · rw [if_neg k4, if_neg k4]
  · rw [if_neg k1, if_neg k1]
end
/-- rows of booleans -/
def g01 (g : Nat → Nat → Int32) : Prop := ∀ i, (g 39 i = 0 ∨ g 39 i = 1) ∧ (g 40 i = 0 ∨ g 40 i = 1)
theorem g01.u (g : Nat → Nat → Int32) (k i : Nat) (v : Int32) (hv : v = 0 ∨ v = 1) (h : g01 g) : g01 (ug g k i v) := by
  have a : ∀ r, (r = 39 ∨ r = 40) → ∀ j, ug g k i v r j = 0 ∨ ug g k i v r j = 1 := by
    intro r hr j
    by_cases e : r = k
    · subst e
      rw [ug_self]
      unfold upd
      by_cases e2 : j = i
      · rw [if_pos e2]; exact hv
      · rw [if_neg e2]
        rcases hr with e3 | e3 <;> subst e3
        · exact (h j).1
        · exact (h j).2
    · rw [ug_ne g i v e]
      rcases hr with e3 | e3 <;> subst e3
      · exact (h j).1
      · exact (h j).2
  exact fun j => ⟨a 39 (Or.inl rfl) j, a 40 (Or.inr rfl) j⟩
/-- what set leaves alone in the reference's rows -/
def gW (g g' : Nat → Nat → Int32) : Prop := (∀ k, k ≠ 38 → k ≠ 39 → k ≠ 40 → k ≠ 41 → k ≠ 42 → g' k = g k) ∧ (∀ i, 5 ≤ i → g' 42 i = g 42 i) ∧ (g01 g → g01 g')
section
variable {w : PW} {z : Nat → Int32} {g : Nat → Nat → Int32} {tw th : Int32} {sz dp nm sy sp : Nat → Int32}
theorem q_lti {a b : Int32} : a < b ↔ a.toInt < b.toInt := Int32.lt_iff_toInt_lt
theorem q_lei {a b : Int32} : a ≤ b ↔ a.toInt ≤ b.toInt := Int32.le_iff_toInt_le
theorem qM.mk68 (h : qM w z g) {what pl : Int32} (hw : what.toInt ≤ 10) (p0 : 0 ≤ pl.toInt) (p1 : pl.toInt < 125) : ∃ w', fD_make_68 37 what pl w = some (.inl none, w') ∧ qM w' z (if 9 ≤ what.toInt then ug g 40 pl.toNatClampNeg 1 else ug g 39 pl.toNatClampNeg 1) ∧ qI 37 66 w w' := by
  unfold fD_make_68
  have i0 : 0 ≤ pl := q_lei.mpr p0
  have i1 : pl < Int32.ofNat 250 := by
    rw [q_lti]
    show _ < (250 : Int)
    omega
  rw [q_isStep hw, q_call, q_kI, q_nar1]
  by_cases h9 : 9 ≤ what.toInt
  · obtain ⟨w', g1, q1, F1⟩ := h.st 40 2 pl 1 rfl (by omega) (by omega) i0 i1 (by decide)
    rw [if_pos h9, if_pos h9, if_neg (by decide), h.R 5 40 rfl, Option.bind_some, g1]
    exact ⟨w', rfl, q1, F1⟩
  · obtain ⟨w', g1, q1, F1⟩ := h.st 39 2 pl 1 rfl (by omega) (by omega) i0 i1 (by decide)
    rw [if_neg h9, if_neg h9, if_pos rfl, h.R 4 39 rfl, Option.bind_some, g1]
    exact ⟨w', rfl, q1, F1⟩
/-- what make leaves of the rows -/
def q_made (g g' : Nat → Nat → Int32) (what : Int32) (fr pl lo : Nat) : Prop :=
  (∀ k, k ≠ 38 → k ≠ 39 → k ≠ 40 → g' k = g k) ∧ (g' 39 = if 9 ≤ what.toInt then g 39 else upd (g 39) pl 1) ∧ (g' 40 = if 9 ≤ what.toInt then upd (g 40) pl 1 else g 40) ∧
  ∀ s j, s < 250 → 4 ≤ j → j ≤ 10 → g' 38 (11 * s + j) = if s = pl ∧ lo ≤ j ∧ (9 ≤ j ↔ 9 ≤ what.toInt) then g 38 (11 * fr + j) else g 38 (11 * s + j)
theorem q_made_end (g : Nat → Nat → Int32) (what : Int32) (fr : Nat) (pl : Nat) (lo : Nat) (hlo : 11 ≤ lo ∨ fr = pl) : q_made g (if 9 ≤ what.toInt then ug g 40 pl 1 else ug g 39 pl 1) what fr pl lo := by
  by_cases h9 : 9 ≤ what.toInt
  · simp only [h9, if_true]
    refine ⟨fun k h1 h2 h3 => ug_ne _ _ _ h3, ?_, ?_, fun s j hs h4 h10 => ?_⟩
    · rw [if_pos h9, ug_ne _ _ _ (by decide)]
    · rw [if_pos h9, ug_self]
    · rw [ug_ne _ _ _ (by decide)]
      split
      · rename_i hh
        rcases hlo with e | e
        · omega
        · rw [hh.1, e]
      · rfl
  · simp only [h9, if_false]
    refine ⟨fun k h1 h2 h3 => ug_ne _ _ _ h2, ?_, ?_, fun s j hs h4 h10 => ?_⟩
    · rw [if_neg h9, ug_self]
    · rw [if_neg h9, ug_ne _ _ _ (by decide)]
    · rw [ug_ne _ _ _ (by decide)]
      split
      · rename_i hh
        rcases hlo with e | e
        · omega
        · rw [hh.1, e]
      · rfl
theorem qM.mk20 {what pl fr : Int32} (hw : what.toInt ≤ 10) (p0 : 0 ≤ pl.toInt) (p1 : pl.toInt < 125) (f0 : 0 ≤ fr.toInt) (f1 : fr.toInt < 125) (hne : ¬ fr = pl) : ∀ (n : Nat) (k : Int32) (F : Nat) (w : PW) (g : Nat → Nat → Int32), qM w z g → n < F → 4 ≤ k.toInt → k.toInt + n = 11 → ∃ w' g', fD_make_20 F 37 what pl fr k w = some (.inl none, w') ∧ qM w' z g' ∧ q_made g g' what fr.toInt.toNat pl.toInt.toNat k.toInt.toNat ∧ qI 37 66 w w'
  | 0, k, F + 1, w, g, h, _, h4, hk => by
    have e10 : (10 : Int32).toInt = 10 := rfl
    rw [fD_make_20, if_pos (by rw [q_lti]; omega)]
    obtain ⟨w', g1, q1, F1⟩ := h.mk68 hw p0 p1
    exact ⟨w', _, g1, q1, q_made_end g what _ _ _ (Or.inl (by omega)), F1⟩
  | n + 1, k, F + 1, w, g, h, hF, h4, hk => by
    have e10 : (10 : Int32).toInt = 10 := rfl
    have e1 := q_suc (k := k) (by omega)
    rw [fD_make_20, if_neg (by rw [q_lti]; omega), if_neg hne, q_isStep (by omega), q_call, q_kI, q_isStep hw, q_call, q_kI]
    by_cases hm : (9 ≤ k.toInt ↔ 9 ≤ what.toInt)
    · have hm2 : (if 9 ≤ k.toInt then (1 : Int32) else 0) = (if 9 ≤ what.toInt then 1 else 0) := by simp only [hm]
      rw [if_neg (not_not_intro hm2), h.obj, Option.bind_some, h.mget fr k (q_lei.mpr f0) (by rw [q_lti]; show _ < (250 : Int); omega) (by rw [q_lei]; show (0 : Int) ≤ _; omega) (by rw [q_lei]; omega), q_call, q_kI, h.obj, Option.bind_some]
      obtain ⟨w1, g1, q1, F1⟩ := h.mput pl k (g 38 (11 * fr + k).toNatClampNeg) (q_lei.mpr p0) (by rw [q_lti]; show _ < (250 : Int); omega) (by rw [q_lei]; show (0 : Int) ≤ _; omega) (by rw [q_lei]; omega)
      rw [g1, q_call, q_kV]
      obtain ⟨w2, g', g2, q2, r2, F2⟩ := qM.mk20 hw p0 p1 f0 f1 hne n (k + 1) F w1 _ q1 (by omega) (by omega) (by omega)
      refine ⟨w2, g', g2, q2, ?_, F1.tr F2⟩
      rw [q_i11 p0 (by omega) (by omega) (by omega), q_i11 f0 (by omega) (by omega) (by omega)] at r2
      obtain ⟨a1, a2, a3, a4⟩ := r2
      have hnn : fr.toInt ≠ pl.toInt := fun e => hne (q_i32 e)
      refine ⟨fun j h1 h2 h3 => by rw [a1 j h1 h2 h3, ug_ne _ _ _ h1], by rw [a2, ug_ne _ _ _ (by decide)], by rw [a3, ug_ne _ _ _ (by decide)], fun s j hs j4 j10 => ?_⟩
      rw [a4 s j hs j4 j10, ug_self]
      unfold upd
      by_cases c1 : s = pl.toInt.toNat
      · by_cases c2 : (k + 1).toInt.toNat ≤ j ∧ (9 ≤ j ↔ 9 ≤ what.toInt)
        · rw [if_pos ⟨c1, c2⟩, if_neg (by omega), if_pos (by omega)]
        · rw [if_neg (fun hh => c2 hh.2)]
          by_cases c3 : j = k.toInt.toNat
          · rw [if_pos (by omega), if_pos (by omega)]
            congr 1
            omega
          · rw [if_neg (by omega), if_neg (by omega)]
      · rw [if_neg (fun hh => c1 hh.1), if_neg (by omega), if_neg (fun hh => c1 hh.1)]
    · have hm2 : ¬ (if 9 ≤ k.toInt then (1 : Int32) else 0) = (if 9 ≤ what.toInt then 1 else 0) := by
        by_cases x1 : 9 ≤ k.toInt <;> by_cases x2 : 9 ≤ what.toInt <;> simp only [x1, x2, if_true, if_false] at hm ⊢ <;> first | decide | (exact absurd trivial hm) | (exact absurd Iff.rfl hm)
      rw [if_pos hm2]
      obtain ⟨w2, g', g2, q2, r2, F2⟩ := qM.mk20 hw p0 p1 f0 f1 hne n (k + 1) F w g h (by omega) (by omega) (by omega)
      refine ⟨w2, g', g2, q2, ?_, F2⟩
      obtain ⟨a1, a2, a3, a4⟩ := r2
      refine ⟨a1, a2, a3, fun s j hs j4 j10 => ?_⟩
      rw [a4 s j hs j4 j10]
      by_cases c1 : s = pl.toInt.toNat
      · by_cases c3 : j = k.toInt.toNat
        · rw [if_neg (by omega), if_neg (by omega)]
        · by_cases c2 : (k + 1).toInt.toNat ≤ j ∧ (9 ≤ j ↔ 9 ≤ what.toInt)
          · rw [if_pos ⟨c1, c2⟩, if_pos (by omega)]
          · rw [if_neg (fun hh => c2 hh.2), if_neg (by omega)]
      · rw [if_neg (fun hh => c1 hh.1), if_neg (fun hh => c1 hh.1)]
theorem qM.make (h : qM w z g) (k : qR tw th sz dp nm sy sp g) (y01 : ∀ i, sy i = 0 ∨ sy i = 1) (p01 : ∀ i, sp i = 0 ∨ sp i = 1) {what t c : Int32} (hw : what.toInt ≤ 10) (h0 : -1 ≤ t.toInt) (h1 : t.toInt < 24) (c0 : -1 ≤ c.toInt) (c1 : c.toInt < 4) : ∃ w' g', fD_make 37 what t c w = some (.inl none, w') ∧ qM w' z g' ∧ q_made g g' what (q_fc (q_sel what sy sp) t c).toInt.toNat (q_slot t c).toInt.toNat 4 ∧ qI 37 66 w w' := by
  unfold fD_make
  rw [q_placeOf, q_call, q_kI, h.obj, Option.bind_some, h.force k y01 p01 hw h0 h1 c0 c1, q_call, q_kI, q_pl_slot h0 h1 c0 c1]
  have hb := q_slot_bi t c
  have hf := q_fc_bi (q_sel what sy sp) t c
  by_cases he : q_fc (q_sel what sy sp) t c = q_slot t c
  · rw [show FUEL = 999999 + 1 from rfl, fD_make_20, if_neg (by decide), if_pos he]
    obtain ⟨w', g1, q1, F1⟩ := h.mk68 hw hb.1 hb.2
    exact ⟨w', _, g1, q1, q_made_end g what _ _ _ (Or.inr (by rw [he]; rfl)), F1⟩
  · exact qM.mk20 hw hb.1 hb.2 hf.1 hf.2 he 7 4 FUEL w g h (by decide) (by decide) (by decide)
end
section
variable {w : PW} {z : Nat → Int32} {g : Nat → Nat → Int32} {tw th : Int32} {sz dp nm sy sp : Nat → Int32}
/-- the settings after a set -/
def s_sz (sz : Nat → Int32) (what v : Int32) : Nat → Int32 := if what ≤ 2 then upd sz what.toNatClampNeg v else sz
def s_dp (dp : Nat → Int32) (what c v : Int32) : Nat → Int32 := if what = 3 then q_dep dp c v 4 0 else dp
def s_nm (nm sy sp : Nat → Int32) (what t c v : Int32) : Nat → Int32 := if 4 ≤ what then upd (q_mk what (q_fc (q_sel what sy sp) t c) (q_slot t c) nm) (q_slot t c * 7 + what - 4).toNatClampNeg v else nm
def s_sy (sy : Nat → Int32) (what t c : Int32) : Nat → Int32 := if 4 ≤ what ∧ ¬ 9 ≤ what then upd sy (q_slot t c).toNatClampNeg 1 else sy
def s_sp (sp : Nat → Int32) (what t c : Int32) : Nat → Int32 := if 9 ≤ what then upd sp (q_slot t c).toNatClampNeg 1 else sp
theorem qM.depth2 (c v b : Int32) : ∀ (n i F : Nat) (w : PW) (g : Nat → Nat → Int32), qM w z g → n < F → i + n = 4 → ∃ w' g', fD_set_121 F 37 c v b (Int32.ofNat i) w = some (.inl (some (.int b)), w') ∧ qM w' z g' ∧ (∀ k, k ≠ 41 → g' k = g k) ∧ (∀ j, g' 41 j = if i ≤ j ∧ j < 4 ∧ (c < 0 ∨ c = Int32.ofNat j) then v else g 41 j) ∧ qI 37 66 w w'
  | 0, i, F + 1, w, g, h, _, hi => by
    have : i = 4 := by omega
    subst this
    rw [fD_set_121, if_pos (by decide)]
    exact ⟨w, g, rfl, h, fun _ _ => rfl, fun j => by rw [if_neg (by omega)], qI.rf⟩
  | n + 1, i, F + 1, w, g, h, hF, hi => by
    have h1 : ¬ (4 : Int32) ≤ Int32.ofNat i := fun k => by
      have := (q_le (m := 4) (n := i) (by omega) (by omega)).mp k
      omega
    have e2 : Int32.ofNat i + 1 = Int32.ofNat (i + 1) := (Int32.ofNat_add i 1).symm
    have i0 : 0 ≤ Int32.ofNat i := q_ge0 i (by omega)
    have i1 : Int32.ofNat i < Int32.ofNat (mL 41) := (q_lt (m := i) (n := 8) (by omega) (by omega)).mpr (by omega)
    have key : ∀ x : Int32, x = (if c < 0 ∨ c = Int32.ofNat i then v else g 41 i) → ∃ w' g', ((p_ast w 41 0 (Int32.ofNat i) x).bind fun w155 => p_let (Int32.ofNat i + 1) fun l6_156 => fD_set_121 F 37 c v b l6_156 w155) = some (.inl (some (.int b)), w') ∧ qM w' z g' ∧ (∀ k, k ≠ 41 → g' k = g k) ∧ (∀ j, g' 41 j = if i ≤ j ∧ j < 4 ∧ (c < 0 ∨ c = Int32.ofNat j) then v else g 41 j) ∧ qI 37 66 w w' := by
      intro x hx
      obtain ⟨w1, g1, q1, F1⟩ := h.st 41 0 (Int32.ofNat i) x rfl (by omega) (by omega) i0 i1 (by decide)
      rw [q_tno (by omega)] at q1
      obtain ⟨w2, g', g2, q2, r2, t2, F2⟩ := qM.depth2 c v b n (i + 1) F w1 _ q1 (by omega) (by omega)
      refine ⟨w2, g', ?_, q2, fun k hk => by rw [r2 k hk, ug_ne _ _ _ hk], fun j => ?_, F1.tr F2⟩
      · rw [g1, Option.bind_some]
        show fD_set_121 F 37 c v b (Int32.ofNat i + 1) w1 = _
        rw [e2, g2]
      · rw [t2 j, ug_self]
        unfold upd
        by_cases hj : j = i
        · subst hj
          rw [if_neg (by omega), if_pos rfl, hx]
          by_cases hc : c < 0 ∨ c = Int32.ofNat j
          · rw [if_pos hc, if_pos ⟨Nat.le_refl _, by omega, hc⟩]
          · rw [if_neg hc, if_neg (fun hh => hc hh.2.2)]
        · rw [if_neg hj]
          by_cases hc : i + 1 ≤ j ∧ j < 4 ∧ (c < 0 ∨ c = Int32.ofNat j)
          · rw [if_pos hc, if_pos ⟨by omega, hc.2⟩]
          · rw [if_neg hc, if_neg (fun hh => hc ⟨by omega, hh.2⟩)]
    have l41 : p_ald w 41 0 (Int32.ofNat i) = some (g 41 i) := by
      rw [h.ld 41 0 (Int32.ofNat i) rfl (by omega) (by omega) i0 i1 (by decide), q_tno (by omega)]
    rw [fD_set_121, if_neg h1, h.R 6 41 rfl, Option.bind_some]
    by_cases hc1 : c < 0
    · rw [if_pos hc1]
      exact key v (by rw [if_pos (Or.inl hc1)])
    · rw [if_neg hc1]
      by_cases hc2 : Int32.ofNat i = c
      · rw [if_neg (not_not_intro hc2)]
        exact key v (by rw [if_pos (Or.inr hc2.symm)])
      · rw [if_pos hc2, Option.bind_some, l41, Option.bind_some]
        exact key (g 41 i) (by rw [if_neg (by rintro (e | e); exact hc1 e; exact hc2 e.symm)])
theorem q_dep_at (c v : Int32) (j : Nat) : ∀ (n i : Nat) (dp : Nat → Int32), i + n = 4 → q_dep dp c v n i j = if i ≤ j ∧ j < 4 ∧ (c = -1 ∨ c = Int32.ofNat j) then v else dp j
  | 0, i, dp, hi => by rw [q_dep, if_neg (by omega)]
  | n + 1, i, dp, hi => by
    rw [q_dep, q_dep_at c v j n (i + 1) _ (by omega)]
    by_cases hc : c = -1 ∨ c = Int32.ofNat i
    · rw [if_pos hc]
      unfold upd
      by_cases hj : j = i
      · subst hj
        rw [if_neg (by omega), if_pos rfl, if_pos ⟨Nat.le_refl _, by omega, hc⟩]
      · rw [if_neg hj]
        by_cases hh : i + 1 ≤ j ∧ j < 4 ∧ (c = -1 ∨ c = Int32.ofNat j)
        · rw [if_pos hh, if_pos ⟨by omega, hh.2⟩]
        · rw [if_neg hh, if_neg (fun k => hh ⟨by omega, k.2⟩)]
    · rw [if_neg hc]
      by_cases hh : i + 1 ≤ j ∧ j < 4 ∧ (c = -1 ∨ c = Int32.ofNat j)
      · rw [if_pos hh, if_pos ⟨by omega, hh.2⟩]
      · rw [if_neg hh, if_neg]
        intro k
        by_cases hj : j = i
        · subst hj
          exact hc k.2.2
        · exact hh ⟨by omega, k.2⟩
/-- the reference's set, where it goes through -/
theorem qM.set0 (h : qM w z g) (k : qR tw th sz dp nm sy sp g) (y01 : ∀ i, sy i = 0 ∨ sy i = 1) (p01 : ∀ i, sp i = 0 ∨ sp i = 1) {what t c v : Int32} (hp : q_isPl (q_nt tw th sz) (sz 2) what t c = true) (hv : q_within what (Int32.toInt64 v) = 1) (ht : ¬ 24 < q_many (if what = 0 then v else sz 0) tw * q_many (if what = 1 then v else sz 1) th) :
    ∃ w' g', fD_set_61 37 what t c v 0 37 w = some (.inl (some (.int (q_val sz dp nm sy sp what t c))), w') ∧ qM w' (upd z 0 0) g' ∧ qR tw th (s_sz sz what v) (s_dp dp what c v) (s_nm nm sy sp what t c v) (s_sy sy what t c) (s_sp sp what t c) g' ∧ gW g g' ∧ qI 37 66 w w' := by
  have hnt := k.nt
  have hpl := decide_eq_true_eq.mp hp
  obtain ⟨p1, p2, p3, p4, p5, p6, p7⟩ := hpl
  have k0 := k
  obtain ⟨⟨a0, a1, a2, a3, a4⟩, r41, r39, r38, ⟨b0, b1, b2, b3, b4, b5, b6, b7, b8, b9⟩, ht0⟩ := k
  obtain ⟨w1, g1, q1, F1⟩ := h.put 0 0 (by omega) rfl
  have hb := q_slot_bi t c
  have hf := q_fc_bi (q_sel what sy sp) t c
  have e2 : (2 : Int32).toInt = 2 := rfl
  have e3 : (3 : Int32).toInt = 3 := rfl
  have e4 : (4 : Int32).toInt = 4 := rfl
  have e9 : (9 : Int32).toInt = 9 := rfl
  unfold fD_set_61
  rw [g1, Option.bind_some, q1.I 0 rfl, Option.bind_some, show upd z 0 0 0 = 0 from rfl, if_pos (by decide)]
  by_cases w3 : 3 ≤ what
  · have w3i : 3 ≤ what.toInt := q_lei.mp w3
    have nw2 : ¬ what ≤ 2 := by rw [q_lei]; omega
    rw [if_pos w3]
    by_cases w3e : what = 3
    · subst w3e
      rw [if_neg (not_not_intro rfl), q1.R 6 41 rfl, Option.bind_some]
      have hc : c.toInt < 4 := by omega
      have hdep : ∀ s0 : Int32, s0 = p_max 0 c → ∃ w' g', fD_set_115 37 c v s0 41 w1 = some (.inl (some (.int (dp (p_max 0 c).toNatClampNeg))), w') ∧ qM w' (upd z 0 0) g' ∧ (∀ k, k ≠ 41 → g' k = g k) ∧ (∀ j, g' 41 j = if 0 ≤ j ∧ j < 4 ∧ (c < 0 ∨ c = Int32.ofNat j) then v else g 41 j) ∧ qI 37 66 w1 w' := by
        intro s0 hs0
        subst hs0
        unfold fD_set_115
        have hm : 0 ≤ (p_max 0 c).toInt ∧ (p_max 0 c).toInt < 4 := by
          unfold p_max
          have e0 : (0 : Int32).toInt = 0 := rfl
          split
          · rename_i hh; rw [q_lti] at hh; omega
          · omega
        rw [q1.ld 41 0 (p_max 0 c) rfl (by omega) (by omega) (q_lei.mpr hm.1) (by rw [q_lti]; show _ < (8 : Int); omega) (by decide), Option.bind_some, r41 _ (by rw [q_tn]; omega)]
        exact qM.depth2 c v _ 4 0 FUEL w1 g q1 (by decide) (by decide)
      have hfin : ∃ w' g', (if 0 ≤ c then fD_set_115 37 c v c 41 w1 else fD_set_115 37 c v 0 41 w1) = some (.inl (some (.int (dp (p_max 0 c).toNatClampNeg))), w') ∧ qM w' (upd z 0 0) g' ∧ (∀ k, k ≠ 41 → g' k = g k) ∧ (∀ j, g' 41 j = if 0 ≤ j ∧ j < 4 ∧ (c < 0 ∨ c = Int32.ofNat j) then v else g 41 j) ∧ qI 37 66 w1 w' := by
        by_cases hc0 : 0 ≤ c
        · rw [if_pos hc0]
          exact hdep c (by unfold p_max; grind)
        · rw [if_neg hc0]
          exact hdep 0 (by unfold p_max; grind)
      obtain ⟨w2, g', g2, q2, r2, t2, F2⟩ := hfin
      refine ⟨w2, g', ?_, q2, ?_, ⟨fun k h1 h2 h3 h4 h5 => r2 k h4, fun i _ => by rw [r2 42 (by decide)], fun y j => by rw [r2 39 (by decide), r2 40 (by decide)]; exact y j⟩, F1.tr F2⟩
      · rw [g2]
        rfl
      · unfold s_sz s_dp s_nm s_sy s_sp
        rw [if_neg (by decide), if_pos rfl, if_neg (by decide), if_neg (by decide), if_neg (by decide)]
        refine ⟨by rw [r2 42 (by decide)]; exact ⟨a0, a1, a2, a3, a4⟩, fun i hi => ?_, by rw [r2 39 (by decide), r2 40 (by decide)]; exact r39, by rw [r2 38 (by decide)]; exact r38, ⟨b0, b1, b2, b3, b4, b5, b6, b7, b8, b9⟩, ht0⟩
        rw [q_dep_at c v i 4 0 dp (by omega), t2 i, r41 i hi]
        have hcm : c = -1 ↔ c < 0 := ⟨fun e => by rw [e]; decide, fun e => q_i32 (by rw [q_lti] at e; have e0 : (0 : Int32).toInt = 0 := rfl; have em : (-1 : Int32).toInt = -1 := rfl; omega)⟩
        simp only [hcm]
    · have w4 : 4 ≤ what := by grind
      have w4i : 4 ≤ what.toInt := q_lei.mp w4
      have ht24 : t.toInt < 24 := by omega
      have hc4 : c.toInt < 4 := by omega
      rw [if_pos w3e, q1.obj, Option.bind_some, q1.force k0 y01 p01 p2 p3 ht24 p5 hc4, q_call, q_kI, q1.obj, Option.bind_some, q1.mget _ what (q_lei.mpr hf.1) (by rw [q_lti]; show _ < (250 : Int); omega) (by rw [q_lei]; show (0 : Int) ≤ _; omega) (by rw [q_lei]; show _ ≤ (10 : Int); omega), q_call, q_kI, q1.obj, Option.bind_some]
      obtain ⟨w2, g2', g2, q2, r2, F2⟩ := q1.make k0 y01 p01 p2 p3 ht24 p5 hc4
      rw [g2, q_call, q_kV, q_placeOf, q_call, q_kI, q_pl_slot p3 ht24 p5 hc4, q2.obj, Option.bind_some]
      obtain ⟨w3', g3, q3, F3⟩ := q2.mput (q_slot t c) what v (q_lei.mpr hb.1) (by rw [q_lti]; show _ < (250 : Int); omega) (by rw [q_lei]; show (0 : Int) ≤ _; omega) (by rw [q_lei]; show _ ≤ (10 : Int); omega)
      rw [g3, q_call, q_kV]
      obtain ⟨m1, m2, m3, m4⟩ := r2
      have eb : (if what = 4 ∨ what = 5 then -1 else c) = c := by
        split
        · rename_i hh
          rcases p7 with x | x | x | x
          · rcases hh with y | y <;> subst y <;> exact absurd x (by decide)
          · exact x.1.symm
          · exact absurd x.1 w3e
          · exact x.2.symm
        · rfl
      refine ⟨w3', _, ?_, q3, ?_, ⟨fun k h1 h2 h3 h4 h5 => by rw [ug_ne _ _ _ h1, m1 k h1 h2 h3], fun i _ => by rw [ug_ne _ _ _ (by decide), m1 42 (by decide) (by decide) (by decide)], fun y j => ?_⟩, (F1.tr F2).tr F3⟩
      rotate_right
      · rw [ug_ne _ _ _ (by decide), ug_ne _ _ _ (by decide), m2, m3]
        constructor
        · split
          · exact (y j).1
          · unfold upd
            split
            · exact Or.inr rfl
            · exact (y j).1
        · split
          · unfold upd
            split
            · exact Or.inr rfl
            · exact (y j).2
          · exact (y j).2
      · have : q_val sz dp nm sy sp what t c = g 38 (11 * q_fc (q_sel what sy sp) t c + what).toNatClampNeg := by
          unfold q_val
          rw [if_neg nw2, if_neg w3e, eb, q_i11 hf.1 (by omega) (by omega) (by omega)]
          show nm (q_fc (q_sel what sy sp) t c * 7 + what - 4).toNatClampNeg = _
          rw [q_i7 hf.1 hf.2 w4i p2]
          exact r38 _ _ (by omega) (by omega) (by omega)
        rw [this]
      · unfold s_sz s_dp s_nm s_sy s_sp
        rw [if_neg nw2, if_neg w3e, if_pos w4]
        refine ⟨by rw [ug_ne _ _ _ (by decide), m1 42 (by decide) (by decide) (by decide)]; exact ⟨a0, a1, a2, a3, a4⟩, by rw [ug_ne _ _ _ (by decide), m1 41 (by decide) (by decide) (by decide)]; exact r41, fun s hs => ?_, fun s j hs j4 j10 => ?_, ⟨b0, b1, b2, b3, b4, b5, b6, b7, b8, b9⟩, ht0⟩
        · rw [ug_ne _ _ _ (by decide), ug_ne _ _ _ (by decide), m2, m3]
          simp only [w4, true_and, q_9]
          have rs := r39 s hs
          by_cases h9 : 9 ≤ what.toInt
          · simp only [h9, if_true, not_true_eq_false, if_false]
            refine ⟨rs.1, ?_⟩
            unfold upd
            rw [rs.2]
            rfl
          · simp only [h9, if_false, not_false_eq_true, if_true]
            refine ⟨?_, rs.2⟩
            unfold upd
            rw [rs.1]
            rfl
        · rw [ug_self, q_i7 hb.1 hb.2 w4i p2, q_i11 hb.1 (by omega) (by omega) p2]
          unfold upd
          rw [q_mk_at hf.1 hf.2 hb.1 hb.2 s j hs j4 j10, m4 s j (by omega) j4 j10]
          by_cases hx : s = (q_slot t c).toInt.toNat ∧ j = what.toInt.toNat
          · rw [if_pos (show 7 * s + j - 4 = 7 * (q_slot t c).toInt.toNat + what.toInt.toNat - 4 by omega), if_pos (show 11 * s + j = 11 * (q_slot t c).toInt.toNat + what.toInt.toNat by omega)]
          · rw [if_neg (show ¬ 7 * s + j - 4 = 7 * (q_slot t c).toInt.toNat + what.toInt.toNat - 4 by omega), if_neg (show ¬ 11 * s + j = 11 * (q_slot t c).toInt.toNat + what.toInt.toNat by omega)]
            by_cases hy : s = (q_slot t c).toInt.toNat ∧ (9 ≤ j ↔ 9 ≤ what.toInt)
            · rw [if_pos hy, if_pos ⟨hy.1, j4, hy.2⟩]
              exact r38 _ _ (by omega) j4 j10
            · rw [if_neg hy, if_neg (fun hh => hy ⟨hh.1, hh.2.2⟩)]
              exact r38 _ _ hs j4 j10
  · have w3i : what.toInt < 3 := by rw [q_lei] at w3; omega
    have w2 : what ≤ 2 := by rw [q_lei]; omega
    have w0 : 0 ≤ what := by rw [q_lei]; exact p1
    have tn : what.toNatClampNeg = what.toInt.toNat := rfl
    rw [if_neg w3, q1.R 7 42 rfl, Option.bind_some, q1.ld 42 0 what rfl (by omega) (by omega) w0 (by rw [q_lti]; show _ < (10 : Int); omega) (by decide), Option.bind_some, Option.bind_some]
    obtain ⟨w2', g2, q2, F2⟩ := q1.st 42 0 what v rfl (by omega) (by omega) w0 (by rw [q_lti]; show _ < (10 : Int); omega) (by decide)
    rw [g2, Option.bind_some]
    have hvb := q_within_b hv
    refine ⟨w2', _, ?_, q2, ?_, ⟨fun k h1 h2 h3 h4 h5 => ug_ne _ _ _ h5, fun i hi => by rw [ug_self]; unfold upd; rw [if_neg (by omega)], fun y j => by rw [ug_ne _ _ _ (by decide), ug_ne _ _ _ (by decide)]; exact y j⟩, F1.tr F2⟩
    · have : q_val sz dp nm sy sp what t c = g 42 what.toNatClampNeg := by
        unfold q_val
        rw [if_pos w2]
        have : what.toNatClampNeg = 0 ∨ what.toNatClampNeg = 1 ∨ what.toNatClampNeg = 2 := by omega
        rcases this with e | e | e <;> rw [e] <;> assumption
      rw [this]
    · unfold s_sz s_dp s_nm s_sy s_sp
      rw [if_pos w2, if_neg (by intro e; rw [e] at w3i; omega), if_neg (by rw [q_lei]; omega), if_neg (by rw [q_lei]; omega), if_neg (by rw [q_lei]; omega)]
      have hw012 : what = 0 ∨ what = 1 ∨ what = 2 := by
        have : what.toInt = 0 ∨ what.toInt = 1 ∨ what.toInt = 2 := by omega
        rcases this with e | e | e
        · exact Or.inl (q_i32 e)
        · exact Or.inr (Or.inl (q_i32 e))
        · exact Or.inr (Or.inr (q_i32 e))
      have o38 : ∀ i x, ug g 42 i x 38 = g 38 := fun i x => ug_ne _ _ _ (by decide)
      have o39 : ∀ i x, ug g 42 i x 39 = g 39 := fun i x => ug_ne _ _ _ (by decide)
      have o40 : ∀ i x, ug g 42 i x 40 = g 40 := fun i x => ug_ne _ _ _ (by decide)
      have o41 : ∀ i x, ug g 42 i x 41 = g 41 := fun i x => ug_ne _ _ _ (by decide)
      have tprod : ∀ a b : Int32, 1 ≤ a.toInt → a.toInt ≤ 2000 → 1 ≤ b.toInt → b.toInt ≤ 2000 → ¬ 24 < q_many a tw * q_many b th → q_mi a.toInt tw.toInt * q_mi b.toInt th.toInt ≤ 24 := by
        intro a b c1 c2 c3 c4 hh
        have f1 := q_many_i c1 c2 b6 (by omega : tw.toInt ≤ 65536)
        have f2 := q_many_i c3 c4 b8 (by omega : th.toInt ≤ 65536)
        have g1 := q_mi_b c1 b6
        have g2 := q_mi_b c3 b8
        have s1 : 0 ≤ q_mi a.toInt tw.toInt * q_mi b.toInt th.toInt := Int.mul_nonneg (by omega) (by omega)
        have s2 : q_mi a.toInt tw.toInt * q_mi b.toInt th.toInt ≤ 2000 * 2000 := Int.mul_le_mul (by omega) (by omega) (by omega) (by omega)
        have f3 : (q_many a tw * q_many b th).toInt = q_mi a.toInt tw.toInt * q_mi b.toInt th.toInt := by
          rw [q_mul (by rw [f1, f2]; omega) (by rw [f1, f2]; omega), f1, f2]
        rw [q_lti, f3] at hh
        have e24 : (24 : Int32).toInt = 24 := rfl
        omega
      rcases hw012 with e | e | e
      · subst e
        have hv1 : 1 ≤ v.toInt ∧ v.toInt ≤ 2000 := hvb
        refine ⟨?_, by rw [o41]; exact r41, by rw [o39, o40]; exact r39, by rw [o38]; exact r38, ⟨hv1.1, hv1.2, b2, b3, b4, b5, b6, b7, b8, b9⟩, tprod v (sz 1) hv1.1 hv1.2 b2 b3 ht⟩
        rw [ug_self]
        exact ⟨rfl, a1, a2, a3, a4⟩
      · subst e
        have hv1 : 1 ≤ v.toInt ∧ v.toInt ≤ 2000 := hvb
        refine ⟨?_, by rw [o41]; exact r41, by rw [o39, o40]; exact r39, by rw [o38]; exact r38, ⟨b0, b1, hv1.1, hv1.2, b4, b5, b6, b7, b8, b9⟩, tprod (sz 0) v b0 b1 hv1.1 hv1.2 ht⟩
        rw [ug_self]
        exact ⟨a0, rfl, a2, a3, a4⟩
      · subst e
        have hv1 : 1 ≤ v.toInt ∧ v.toInt ≤ 4 := hvb
        refine ⟨?_, by rw [o41]; exact r41, by rw [o39, o40]; exact r39, by rw [o38]; exact r38, ⟨b0, b1, b2, b3, hv1.1, hv1.2, b6, b7, b8, b9⟩, ht0⟩
        rw [ug_self]
        exact ⟨a0, a1, rfl, a3, a4⟩
end
section
variable {w : PW} {z : Nat → Int32} {g : Nat → Nat → Int32} {tw th : Int32} {sz dp nm sy sp : Nat → Int32}
/-- how a set ends: 0 well, else the number of the exception -/
def q_sc (tw th : Int32) (sz sy sp : Nat → Int32) (some_ : Bool) (what t c v : Int32) : Int32 :=
  if q_isPl (q_nt tw th sz) (sz 2) what t c = false then 1 else if what ≤ 2 ∧ (some_ = true ∨ ¬ q_any sy sp 124 1 = 0) then 2
  else if q_within what (Int32.toInt64 v) = 0 ∨ 24 < q_many (if what = 0 then v else sz 0) tw * q_many (if what = 1 then v else sz 1) th then 3 else 0
theorem qM.set61 (h : qM w z g) (what t c v s0 : Int32) (hs : s0 = 1 ∨ s0 = 2 ∨ s0 = 3) : ∃ w', fD_set_61 37 what t c v s0 37 w = some (.inl (some (.int 0)), w') ∧ qM w' (upd z 0 s0) g ∧ qI 37 66 w w' := by
  obtain ⟨w1, g1, q1, F1⟩ := h.put 0 s0 (by omega) rfl
  unfold fD_set_61
  rw [g1, Option.bind_some, q1.I 0 rfl, Option.bind_some, show upd z 0 s0 0 = s0 from rfl, if_neg (by rcases hs with e | e | e <;> subst e <;> decide)]
  exact ⟨w1, rfl, q1, F1⟩
theorem qM.set (h : qM w z g) (k : qR tw th sz dp nm sy sp g) (y01 : ∀ i, sy i = 0 ∨ sy i = 1) (p01 : ∀ i, sp i = 0 ∨ sp i = 1) (what t c v : Int32) :
    ∃ w' g' b, fD_set 37 what t c v w = some (.inl (some (.int b)), w') ∧ qM w' (upd z 0 (q_sc tw th sz sy sp (decide (0 < z 8)) what t c v)) g' ∧ qI 37 66 w w' ∧ (¬ q_sc tw th sz sy sp (decide (0 < z 8)) what t c v = 0 → g' = g) ∧
      (q_sc tw th sz sy sp (decide (0 < z 8)) what t c v = 0 → b = q_val sz dp nm sy sp what t c ∧ qR tw th (s_sz sz what v) (s_dp dp what c v) (s_nm nm sy sp what t c v) (s_sy sy what t c) (s_sp sp what t c) g' ∧ gW g g') := by
  have hs : ∀ x : Int32, x = q_sc tw th sz sy sp (decide (0 < z 8)) what t c v → (x = 1 ∨ x = 2 ∨ x = 3) → ∃ w' g' b, fD_set_61 37 what t c v x 37 w = some (.inl (some (.int b)), w') ∧ qM w' (upd z 0 (q_sc tw th sz sy sp (decide (0 < z 8)) what t c v)) g' ∧ qI 37 66 w w' ∧ (¬ q_sc tw th sz sy sp (decide (0 < z 8)) what t c v = 0 → g' = g) ∧
      (q_sc tw th sz sy sp (decide (0 < z 8)) what t c v = 0 → b = q_val sz dp nm sy sp what t c ∧ qR tw th (s_sz sz what v) (s_dp dp what c v) (s_nm nm sy sp what t c v) (s_sy sy what t c) (s_sp sp what t c) g' ∧ gW g g') := by
    intro x hx hx2
    obtain ⟨w1, g1, q1, F1⟩ := h.set61 what t c v x hx2
    rw [← hx]
    exact ⟨w1, g, 0, g1, q1, F1, fun _ => rfl, fun e => by rw [e] at hx2; exact absurd hx2 (by decide)⟩
  unfold fD_set
  rw [h.obj, Option.bind_some, h.isPlace k, q_call, q_kI]
  by_cases hp : q_isPl (q_nt tw th sz) (sz 2) what t c = true
  · rw [if_pos hp, if_pos (by decide)]
    have hp0 : ¬ q_isPl (q_nt tw th sz) (sz 2) what t c = false := by rw [hp]; decide
    have hpl := decide_eq_true_eq.mp hp
    have h32 : ∀ hx : ¬ (what ≤ 2 ∧ (decide (0 < z 8) = true ∨ ¬ q_any sy sp 124 1 = 0)), ∃ w' g' b, fD_set_32 37 what t c v 37 w = some (.inl (some (.int b)), w') ∧ qM w' (upd z 0 (q_sc tw th sz sy sp (decide (0 < z 8)) what t c v)) g' ∧ qI 37 66 w w' ∧ (¬ q_sc tw th sz sy sp (decide (0 < z 8)) what t c v = 0 → g' = g) ∧
      (q_sc tw th sz sy sp (decide (0 < z 8)) what t c v = 0 → b = q_val sz dp nm sy sp what t c ∧ qR tw th (s_sz sz what v) (s_dp dp what c v) (s_nm nm sy sp what t c v) (s_sy sy what t c) (s_sp sp what t c) g' ∧ gW g g') := by
      intro hx
      unfold fD_set_32
      rw [q_isNum what v hpl.1 hpl.2.1, q_call, q_kI]
      have esc : q_sc tw th sz sy sp (decide (0 < z 8)) what t c v = if q_within what (Int32.toInt64 v) = 0 ∨ 24 < q_many (if what = 0 then v else sz 0) tw * q_many (if what = 1 then v else sz 1) th then 3 else 0 := by
        unfold q_sc
        rw [if_neg hp0, if_neg hx]
      rcases q_within01 what (Int32.toInt64 v) with hw0 | hw1
      · rw [if_pos hw0]
        exact hs 3 (by rw [esc, if_pos (Or.inl hw0)]) (Or.inr (Or.inr rfl))
      · have hw0 : ¬ q_within what (Int32.toInt64 v) = 0 := by rw [hw1]; decide
        rw [if_neg hw0]
        have good : ¬ 24 < q_many (if what = 0 then v else sz 0) tw * q_many (if what = 1 then v else sz 1) th → ∃ w' g' b, fD_set_61 37 what t c v 0 37 w = some (.inl (some (.int b)), w') ∧ qM w' (upd z 0 (q_sc tw th sz sy sp (decide (0 < z 8)) what t c v)) g' ∧ qI 37 66 w w' ∧ (¬ q_sc tw th sz sy sp (decide (0 < z 8)) what t c v = 0 → g' = g) ∧
      (q_sc tw th sz sy sp (decide (0 < z 8)) what t c v = 0 → b = q_val sz dp nm sy sp what t c ∧ qR tw th (s_sz sz what v) (s_dp dp what c v) (s_nm nm sy sp what t c v) (s_sy sy what t c) (s_sp sp what t c) g' ∧ gW g g') := by
          intro ht
          have e0 : q_sc tw th sz sy sp (decide (0 < z 8)) what t c v = 0 := by rw [esc, if_neg (by rintro (e | e); exact hw0 e; exact ht e)]
          rw [e0]
          obtain ⟨w1, g1, f1, q1, r1, t1, F1⟩ := h.set0 k y01 p01 hp hw1 ht
          exact ⟨w1, g1, _, f1, q1, F1, fun hh => absurd rfl hh, fun _ => ⟨rfl, r1, t1⟩⟩
        by_cases hw2 : 2 ≤ what
        · rw [if_pos hw2]
          have n0 : ¬ what = 0 := by intro e; rw [e] at hw2; exact absurd hw2 (by decide)
          have n1 : ¬ what = 1 := by intro e; rw [e] at hw2; exact absurd hw2 (by decide)
          have hT : ¬ 24 < q_many (if what = 0 then v else sz 0) tw * q_many (if what = 1 then v else sz 1) th := by
            rw [if_neg n0, if_neg n1, q_lti, k.nt.1]
            have := k.nt.2.2
            have e24 : (24 : Int32).toInt = 24 := rfl
            omega
          exact good hT
        · rw [if_neg hw2, h.obj, Option.bind_some]
          have hw01 : what = 0 ∨ what = 1 := by
            have h2 : ¬ 2 ≤ what.toInt := fun hh => hw2 (q_lei.mpr hh)
            have : what.toInt = 0 ∨ what.toInt = 1 := by omega
            rcases this with e | e
            · exact Or.inl (q_i32 e)
            · exact Or.inr (q_i32 e)
          have hvb := q_within_b hw1
          have hv12 : 1 ≤ v.toInt ∧ v.toInt ≤ 2000 := by rcases hw01 with e | e <;> subst e <;> exact hvb
          rw [h.tooMany k what v hw01 hv12.1 hv12.2, q_call, q_kI]
          by_cases ht : 24 < q_many (if what = 0 then v else sz 0) tw * q_many (if what = 1 then v else sz 1) th
          · rw [if_pos ht, if_neg (by decide)]
            exact hs 3 (by rw [esc, if_pos (Or.inr ht)]) (Or.inr (Or.inr rfl))
          · rw [if_neg ht, if_pos rfl]
            exact good ht
    by_cases hw3 : 3 ≤ what
    · rw [if_pos hw3]
      exact h32 (fun hh => by have := hh.1; grind)
    · rw [if_neg hw3, h.obj, Option.bind_some, h.isFixed k, q_call, q_kI]
      have hw2 : what ≤ 2 := by grind
      by_cases hz : z 8 ≤ 0
      · have hz2 : ¬ 0 < z 8 := by grind
        rw [if_pos hz]
        by_cases ha : q_any sy sp 124 1 = 0
        · rw [if_pos ha]
          exact h32 (by rintro ⟨-, e | e⟩; exact hz2 (decide_eq_true_eq.mp e); exact e ha)
        · rw [if_neg ha]
          exact hs 2 (by unfold q_sc; rw [if_neg hp0, if_pos ⟨hw2, Or.inr ha⟩]) (Or.inr (Or.inl rfl))
      · have hz2 : 0 < z 8 := by grind
        rw [if_neg hz, if_neg (by decide)]
        exact hs 2 (by unfold q_sc; rw [if_neg hp0, if_pos ⟨hw2, Or.inl (decide_eq_true hz2)⟩]) (Or.inr (Or.inl rfl))
  · rw [if_neg hp, if_neg (by decide)]
    have hp0 : q_isPl (q_nt tw th sz) (sz 2) what t c = false := by
      cases hh : q_isPl (q_nt tw th sz) (sz 2) what t c
      · rfl
      · exact absurd hh hp
    exact hs 1 (by unfold q_sc; rw [if_pos hp0]) (Or.inl rfl)
/-- an exception thrown, or an answer: the world stays but for the counts -/
def qT (w w' : PW) : Prop := w'.1 = w.1 ∧ w'.2.1 = w.2.1 + 1 ∧ w'.2.2 = w.2.2 + 6
theorem q_throw (E : String) (w : PW) : ∃ w', p_throw E w = some (.inr E, w') ∧ qT w w' := ⟨_, rfl, rfl, rfl, rfl⟩
def qCo (w : PW) (rd : Int32) : Prop := w.1[0]? = some (.inr (0, [.ref 1, .ref 7, .ref 8, .ref 9, .ref 12, .ref 14, .ref 16, .ref 22, .ref 27, .ref 28, .int rd]))
/-- the class's set -/
theorem q_Wset {rd m n : Int32} {e : Value} (ho : qCo w rd) (hs : qS w 1 tw th sz dp nm sy sp) (hl : w.1[7]? = some (.inr (11, [.int m, e, .int n]))) (k : qR tw th sz dp nm sy sp g) (what t c v : Int32) :
    (q_sc tw th sz sy sp (decide (¬ n = 0)) what t c v = 1 → ∃ w', fW_set 0 what t c v w = some (.inr "java/lang/IndexOutOfBoundsException", w') ∧ qT w w') ∧
    (q_sc tw th sz sy sp (decide (¬ n = 0)) what t c v = 2 → ∃ w', fW_set 0 what t c v w = some (.inr "java/lang/IllegalStateException", w') ∧ qT w w') ∧
    (q_sc tw th sz sy sp (decide (¬ n = 0)) what t c v = 3 → ∃ w', fW_set 0 what t c v w = some (.inr "java/lang/IllegalArgumentException", w') ∧ qT w w') ∧
    (q_sc tw th sz sy sp (decide (¬ n = 0)) what t c v = 0 → ∃ w', fW_set 0 what t c v w = some (.inl (some (.int (q_val sz dp nm sy sp what t c))), w') ∧ qS w' 1 tw th (s_sz sz what v) (s_dp dp what c v) (s_nm nm sy sp what t c v) (s_sy sy what t c) (s_sp sp what t c) ∧ qI 1 7 w w') := by
  have h0 : p_getR w 0 0 0 = some 1 := q_getR ho rfl
  have h1 : p_getR w 0 0 1 = some 7 := q_getR ho rfl
  obtain ⟨fs, hso⟩ := hs.obj
  unfold fW_set
  rw [q_obj ho, Option.bind_some, q_clsPl hs h0 k, q_call, q_kI]
  by_cases hp : q_isPl (q_nt tw th sz) (sz 2) what t c = true
  · rw [if_pos hp, if_pos (by decide)]
    have hp0 : ¬ q_isPl (q_nt tw th sz) (sz 2) what t c = false := by rw [hp]; decide
    have hpl := decide_eq_true_eq.mp hp
    have h55 : ∀ hx : ¬ (what ≤ 2 ∧ (decide (¬ n = 0) = true ∨ ¬ q_any sy sp 124 1 = 0)), (q_sc tw th sz sy sp (decide (¬ n = 0)) what t c v = 1 → ∃ w', fW_set_55 0 what t c v w = some (.inr "java/lang/IndexOutOfBoundsException", w') ∧ qT w w') ∧
    (q_sc tw th sz sy sp (decide (¬ n = 0)) what t c v = 2 → ∃ w', fW_set_55 0 what t c v w = some (.inr "java/lang/IllegalStateException", w') ∧ qT w w') ∧
    (q_sc tw th sz sy sp (decide (¬ n = 0)) what t c v = 3 → ∃ w', fW_set_55 0 what t c v w = some (.inr "java/lang/IllegalArgumentException", w') ∧ qT w w') ∧
    (q_sc tw th sz sy sp (decide (¬ n = 0)) what t c v = 0 → ∃ w', fW_set_55 0 what t c v w = some (.inl (some (.int (q_val sz dp nm sy sp what t c))), w') ∧ qS w' 1 tw th (s_sz sz what v) (s_dp dp what c v) (s_nm nm sy sp what t c v) (s_sy sy what t c) (s_sp sp what t c) ∧ qI 1 7 w w') := by
      intro hx
      have esc : q_sc tw th sz sy sp (decide (¬ n = 0)) what t c v = if q_within what (Int32.toInt64 v) = 0 ∨ 24 < q_many (if what = 0 then v else sz 0) tw * q_many (if what = 1 then v else sz 1) th then 3 else 0 := by
        unfold q_sc
        rw [if_neg hp0, if_neg hx]
      unfold fW_set_55
      rw [h0, Option.bind_some, hso, Option.bind_some, hs.allows, q_call, q_kI]
      by_cases hb : q_within what (Int32.toInt64 v) = 0 ∨ 24 < q_many (if what = 0 then v else sz 0) tw * q_many (if what = 1 then v else sz 1) th
      · have ez : (if q_within what (Int32.toInt64 v) = 0 then (0 : Int32) else if 24 < q_many (if what = 0 then v else sz 0) tw * q_many (if what = 1 then v else sz 1) th then 0 else 1) = 0 := by
          by_cases hw : q_within what (Int32.toInt64 v) = 0
          · rw [if_pos hw]
          · rw [if_neg hw, if_pos (hb.resolve_left hw)]
        rw [esc, if_pos hb, ez, if_neg (not_not_intro rfl)]
        exact ⟨fun e => absurd e (by decide), fun e => absurd e (by decide), fun _ => q_throw _ _, fun e => absurd e (by decide)⟩
      · have ez : (if q_within what (Int32.toInt64 v) = 0 then (0 : Int32) else if 24 < q_many (if what = 0 then v else sz 0) tw * q_many (if what = 1 then v else sz 1) th then 0 else 1) = 1 := by
          rw [if_neg (fun e => hb (Or.inl e)), if_neg (fun e => hb (Or.inr e))]
        rw [esc, if_neg hb, ez, if_pos (by decide), h0, Option.bind_some, hso, Option.bind_some]
        refine ⟨fun e => absurd e (by decide), fun e => absurd e (by decide), fun e => absurd e (by decide), fun _ => ?_⟩
        have w0 : 0 ≤ what := q_lei.mpr hpl.1
        have w10 : what ≤ 10 := q_lei.mpr hpl.2.1
        have c4 : what = 3 → c < 4 := fun _ => by
          rw [q_lti]
          show _ < (4 : Int)
          have := k.2.2.2.2.1
          omega
        rw [hs.valueOf what t c w0 w10 c4, q_call, q_kI, h0, Option.bind_some, hso, Option.bind_some]
        obtain ⟨w1, g1, q1, F1⟩ := hs.change what t c v w0 w10
        rw [g1, q_call, q_kV]
        exact ⟨w1, rfl, q1, F1⟩
    have h45 : (what ≤ 2 ∧ (decide (¬ n = 0) = true ∨ ¬ q_any sy sp 124 1 = 0)) → (q_sc tw th sz sy sp (decide (¬ n = 0)) what t c v = 1 → ∃ w', fW_set_45 w = some (.inr "java/lang/IndexOutOfBoundsException", w') ∧ qT w w') ∧
    (q_sc tw th sz sy sp (decide (¬ n = 0)) what t c v = 2 → ∃ w', fW_set_45 w = some (.inr "java/lang/IllegalStateException", w') ∧ qT w w') ∧
    (q_sc tw th sz sy sp (decide (¬ n = 0)) what t c v = 3 → ∃ w', fW_set_45 w = some (.inr "java/lang/IllegalArgumentException", w') ∧ qT w w') ∧
    (q_sc tw th sz sy sp (decide (¬ n = 0)) what t c v = 0 → ∃ w', fW_set_45 w = some (.inl (some (.int (q_val sz dp nm sy sp what t c))), w') ∧ qS w' 1 tw th (s_sz sz what v) (s_dp dp what c v) (s_nm nm sy sp what t c v) (s_sy sy what t c) (s_sp sp what t c) ∧ qI 1 7 w w') := by
      intro hx
      have esc : q_sc tw th sz sy sp (decide (¬ n = 0)) what t c v = 2 := by
        unfold q_sc
        rw [if_neg hp0, if_pos hx]
      rw [esc]
      exact ⟨fun e => absurd e (by decide), fun _ => q_throw _ _, fun e => absurd e (by decide), fun e => absurd e (by decide)⟩
    by_cases hw2 : 2 < what
    · rw [if_pos hw2]
      exact h55 (fun hh => by have := hh.1; grind)
    · rw [if_neg hw2, h1, Option.bind_some, q_obj hl, Option.bind_some]
      have hle : what ≤ 2 := by grind
      unfold fAL_isEmpty
      rw [q_getI (k := 2) hl rfl, Option.bind_some]
      by_cases hn : n = 0
      · rw [if_neg (not_not_intro hn), q_ret1, q_call, q_kI, if_neg (by decide), h0, Option.bind_some, hso, Option.bind_some, hs.any, q_call, q_kI]
        by_cases ha : q_any sy sp 124 1 = 0
        · rw [if_pos ha]
          exact h55 (by rintro ⟨-, e | e⟩; exact (decide_eq_true_eq.mp e) hn; exact e ha)
        · rw [if_neg ha]
          exact h45 ⟨hle, Or.inr ha⟩
      · rw [if_pos hn, q_ret0, q_call, q_kI, if_pos rfl]
        exact h45 ⟨hle, Or.inl (decide_eq_true hn)⟩
  · rw [if_neg hp, if_neg (by decide)]
    have hp0 : q_isPl (q_nt tw th sz) (sz 2) what t c = false := by
      cases hh : q_isPl (q_nt tw th sz) (sz 2) what t c
      · rfl
      · exact absurd hh hp
    have esc : q_sc tw th sz sy sp (decide (¬ n = 0)) what t c v = 1 := by
      unfold q_sc
      rw [if_pos hp0]
    rw [esc]
    exact ⟨fun _ => q_throw _ _, fun e => absurd e (by decide), fun e => absurd e (by decide), fun e => absurd e (by decide)⟩
theorem q_sc_v (tw th : Int32) (sz sy sp : Nat → Int32) (b : Bool) (what t c v : Int32) : q_sc tw th sz sy sp b what t c v = 0 ∨ q_sc tw th sz sy sp b what t c v = 1 ∨ q_sc tw th sz sy sp b what t c v = 2 ∨ q_sc tw th sz sy sp b what t c v = 3 := by
  unfold q_sc
  (repeat' split) <;> simp
end
