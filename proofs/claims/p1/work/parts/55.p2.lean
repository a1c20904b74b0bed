section
variable {w : PW} {z : Nat → Int32} {g : Nat → Nat → Int32} {tw th : Int32} {sz dp nm sy sp : Nat → Int32}
theorem q_any01 (sy sp : Nat → Int32) : ∀ n i, q_any sy sp n i = 0 ∨ q_any sy sp n i = 1
  | 0, i => Or.inl rfl
  | n + 1, i => by
    rw [q_any]
    split
    · exact Or.inr rfl
    · split
      · exact q_any01 sy sp n (i + 1)
      · exact Or.inr rfl
theorem q_any_congr {sy sp sy' sp' : Nat → Int32} (h : ∀ s, s < 125 → sy s = sy' s ∧ sp s = sp' s) : ∀ n i, i + n ≤ 125 → q_any sy sp n i = q_any sy' sp' n i
  | 0, i, _ => rfl
  | n + 1, i, hi => by
    rw [q_any, q_any, (h i (by omega)).1, (h i (by omega)).2, q_any_congr h n (i + 1) (by omega)]
theorem qM.fix15 (h : qM w z g) : ∀ (n i F : Nat) (a : Int32), (a = 0 ∨ a = 1) → n < F → i + n = 125 → fD_isFixed_15 F 37 a (Int32.ofNat i) w = some (.inl (some (.int (if a = 1 then 1 else q_any (g 39) (g 40) n i))), w)
  | 0, i, F + 1, a, ha, _, hi => by
    have : i = 125 := by omega
    subst this
    rw [fD_isFixed_15, if_pos (by decide)]
    rcases ha with e | e <;> subst e <;> rfl
  | n + 1, i, F + 1, a, ha, hF, hi => by
    have h1 : ¬ (125 : Int32) ≤ Int32.ofNat i := fun k => by
      have := (q_le (m := 125) (n := i) (by omega) (by omega)).mp k
      omega
    have e2 : Int32.ofNat i + 1 = Int32.ofNat (i + 1) := (Int32.ofNat_add i 1).symm
    have i0 : 0 ≤ Int32.ofNat i := q_ge0 i (by omega)
    have i1 : Int32.ofNat i < Int32.ofNat 250 := (q_lt (m := i) (n := 250) (by omega) (by omega)).mpr (by omega)
    have l39 : p_ald w 39 2 (Int32.ofNat i) = some (g 39 i) := by
      rw [h.ld 39 2 (Int32.ofNat i) rfl (by omega) (by omega) i0 i1 (by decide), q_tno (by omega)]
    have l40 : p_ald w 40 2 (Int32.ofNat i) = some (g 40 i) := by
      rw [h.ld 40 2 (Int32.ofNat i) rfl (by omega) (by omega) i0 i1 (by decide), q_tno (by omega)]
    rw [fD_isFixed_15, if_neg h1]
    simp only [h.R 4 39 rfl, h.R 5 40 rfl, Option.bind_some, l39, l40, p_let, e2]
    rw [qM.fix15 h n (i + 1) F 1 (Or.inr rfl) (by omega) (by omega), qM.fix15 h n (i + 1) F 0 (Or.inl rfl) (by omega) (by omega), q_any]
    rcases ha with e | e
    · subst e
      simp only [not_true_eq_false, if_false, show ¬ (0 : Int32) = 1 by decide, if_true]
      (repeat' split) <;> rfl
    · subst e
      rfl
theorem qM.isFixed (h : qM w z g) (k : qR tw th sz dp nm sy sp g) : fD_isFixed 37 w = some (.inl (some (.int (if z 8 ≤ 0 then q_any sy sp 124 1 else 1))), w) := by
  unfold fD_isFixed
  have e1 := h.fix15 124 1 FUEL 0 (Or.inl rfl) (by decide) (by decide)
  have e2 := h.fix15 124 1 FUEL 1 (Or.inr rfl) (by decide) (by decide)
  rw [h.I 8 rfl, Option.bind_some]
  have e3 : q_any sy sp 124 1 = q_any (g 39) (g 40) 124 1 := q_any_congr k.2.2.1 124 1 (by omega)
  split
  · rw [e3]
    exact e1
  · exact e2
/-- bounds of a number -/
theorem q_isNum (what v : Int32) (h0 : 0 ≤ what.toInt) (h1 : what.toInt ≤ 10) (w : PW) : fD_isNumber what v w = some (.inl (some (.int (q_within what (Int32.toInt64 v)))), w) := by
  have hw : what = 0 ∨ what = 1 ∨ what = 2 ∨ what = 3 ∨ what = 4 ∨ what = 5 ∨ what = 6 ∨ what = 7 ∨ what = 8 ∨ what = 9 ∨ what = 10 := by
    have : what.toInt = 0 ∨ what.toInt = 1 ∨ what.toInt = 2 ∨ what.toInt = 3 ∨ what.toInt = 4 ∨ what.toInt = 5 ∨ what.toInt = 6 ∨ what.toInt = 7 ∨ what.toInt = 8 ∨ what.toInt = 9 ∨ what.toInt = 10 := by omega
    rcases this with e | e | e | e | e | e | e | e | e | e | e
    · exact Or.inl (q_i32 e)
    · exact Or.inr (Or.inl (q_i32 e))
    · exact Or.inr (Or.inr (Or.inl (q_i32 e)))
    · exact Or.inr (Or.inr (Or.inr (Or.inl (q_i32 e))))
    · exact Or.inr (Or.inr (Or.inr (Or.inr (Or.inl (q_i32 e)))))
    · exact Or.inr (Or.inr (Or.inr (Or.inr (Or.inr (Or.inl (q_i32 e))))))
    · exact Or.inr (Or.inr (Or.inr (Or.inr (Or.inr (Or.inr (Or.inl (q_i32 e)))))))
    · exact Or.inr (Or.inr (Or.inr (Or.inr (Or.inr (Or.inr (Or.inr (Or.inl (q_i32 e))))))))
    · exact Or.inr (Or.inr (Or.inr (Or.inr (Or.inr (Or.inr (Or.inr (Or.inr (Or.inl (q_i32 e)))))))))
    · exact Or.inr (Or.inr (Or.inr (Or.inr (Or.inr (Or.inr (Or.inr (Or.inr (Or.inr (Or.inl (q_i32 e))))))))))
    · exact Or.inr (Or.inr (Or.inr (Or.inr (Or.inr (Or.inr (Or.inr (Or.inr (Or.inr (Or.inr (q_i32 e))))))))))
  have key : ∀ (lo hi : Int64) (a b : Int32), Int32.toInt64 a = lo → Int32.toInt64 b = hi → (p_call (fD_in (Int32.toInt64 v) lo hi w) <| p_kI fun v62 w62 => p_retZ v62 w62) = some (.inl (some (.int (if lg_cmp (Int32.toInt64 v) (Int32.toInt64 a) < 0 then 0 else if 0 < lg_cmp (Int32.toInt64 v) (Int32.toInt64 b) then 0 else 1))), w) := by
    intro lo hi a b ha hb
    subst ha hb
    unfold fD_in
    split
    · rfl
    · split <;> rfl
  have qw : ∀ what : Int32, ¬ what < 0 → ¬ 11 ≤ what → q_within what (Int32.toInt64 v) = if lg_cmp (Int32.toInt64 v) (Int32.toInt64 (pz_tab 0 what.toNatClampNeg)) < 0 then 0 else if 0 < lg_cmp (Int32.toInt64 v) (Int32.toInt64 (pz_tab 1 what.toNatClampNeg)) then 0 else 1 := fun what h1 h2 => by
    unfold q_within
    rw [if_neg h1, if_neg h2]
  unfold fD_isNumber
  rcases hw with e | e | e | e | e | e | e | e | e | e | e <;> subst e
  · rw [if_pos rfl, key 1 2000 (pz_tab 0 0) (pz_tab 1 0) rfl rfl, qw _ (by decide) (by decide)]; rfl
  · rw [if_neg (show ¬ (1 : Int32) = 0 by decide), if_pos rfl, key 1 2000 (pz_tab 0 1) (pz_tab 1 1) rfl rfl, qw _ (by decide) (by decide)]; rfl
  · rw [if_neg (show ¬ (2 : Int32) = 0 by decide), if_neg (show ¬ (2 : Int32) = 1 by decide), if_pos rfl, key 1 4 (pz_tab 0 2) (pz_tab 1 2) rfl rfl, qw _ (by decide) (by decide)]; rfl
  · rw [if_neg (show ¬ (3 : Int32) = 0 by decide), if_neg (show ¬ (3 : Int32) = 1 by decide), if_neg (show ¬ (3 : Int32) = 2 by decide), if_pos rfl, key 1 16 (pz_tab 0 3) (pz_tab 1 3) rfl rfl, qw _ (by decide) (by decide)]; rfl
  · rw [if_neg (show ¬ (4 : Int32) = 0 by decide), if_neg (show ¬ (4 : Int32) = 1 by decide), if_neg (show ¬ (4 : Int32) = 2 by decide), if_neg (show ¬ (4 : Int32) = 3 by decide), if_pos rfl, key 0 4 (pz_tab 0 4) (pz_tab 1 4) rfl rfl, qw _ (by decide) (by decide)]; rfl
  · rw [if_neg (show ¬ (5 : Int32) = 0 by decide), if_neg (show ¬ (5 : Int32) = 1 by decide), if_neg (show ¬ (5 : Int32) = 2 by decide), if_neg (show ¬ (5 : Int32) = 3 by decide), if_neg (show ¬ (5 : Int32) = 4 by decide), if_pos rfl, key 1 1000 (pz_tab 0 5) (pz_tab 1 5) rfl rfl, qw _ (by decide) (by decide)]; rfl
  · rw [if_neg (show ¬ (6 : Int32) = 0 by decide), if_neg (show ¬ (6 : Int32) = 1 by decide), if_neg (show ¬ (6 : Int32) = 2 by decide), if_neg (show ¬ (6 : Int32) = 3 by decide), if_neg (show ¬ (6 : Int32) = 4 by decide), if_neg (show ¬ (6 : Int32) = 5 by decide), if_pos rfl, key 0 5 (pz_tab 0 6) (pz_tab 1 6) rfl rfl, qw _ (by decide) (by decide)]; rfl
  · rw [if_neg (show ¬ (7 : Int32) = 0 by decide), if_neg (show ¬ (7 : Int32) = 1 by decide), if_neg (show ¬ (7 : Int32) = 2 by decide), if_neg (show ¬ (7 : Int32) = 3 by decide), if_neg (show ¬ (7 : Int32) = 4 by decide), if_neg (show ¬ (7 : Int32) = 5 by decide), if_neg (show ¬ (7 : Int32) = 6 by decide), if_pos rfl, key 2 6 (pz_tab 0 7) (pz_tab 1 7) rfl rfl, qw _ (by decide) (by decide)]; rfl
  · rw [if_neg (show ¬ (8 : Int32) = 0 by decide), if_neg (show ¬ (8 : Int32) = 1 by decide), if_neg (show ¬ (8 : Int32) = 2 by decide), if_neg (show ¬ (8 : Int32) = 3 by decide), if_neg (show ¬ (8 : Int32) = 4 by decide), if_neg (show ¬ (8 : Int32) = 5 by decide), if_neg (show ¬ (8 : Int32) = 6 by decide), if_neg (show ¬ (8 : Int32) = 7 by decide), if_pos rfl, key 0 1 (pz_tab 0 8) (pz_tab 1 8) rfl rfl, qw _ (by decide) (by decide)]; rfl
  · rw [if_neg (show ¬ (9 : Int32) = 0 by decide), if_neg (show ¬ (9 : Int32) = 1 by decide), if_neg (show ¬ (9 : Int32) = 2 by decide), if_neg (show ¬ (9 : Int32) = 3 by decide), if_neg (show ¬ (9 : Int32) = 4 by decide), if_neg (show ¬ (9 : Int32) = 5 by decide), if_neg (show ¬ (9 : Int32) = 6 by decide), if_neg (show ¬ (9 : Int32) = 7 by decide), if_neg (show ¬ (9 : Int32) = 8 by decide), if_pos rfl, key 0 31 (pz_tab 0 9) (pz_tab 1 9) rfl rfl, qw _ (by decide) (by decide)]; rfl
  · rw [if_neg (show ¬ (10 : Int32) = 0 by decide), if_neg (show ¬ (10 : Int32) = 1 by decide), if_neg (show ¬ (10 : Int32) = 2 by decide), if_neg (show ¬ (10 : Int32) = 3 by decide), if_neg (show ¬ (10 : Int32) = 4 by decide), if_neg (show ¬ (10 : Int32) = 5 by decide), if_neg (show ¬ (10 : Int32) = 6 by decide), if_neg (show ¬ (10 : Int32) = 7 by decide), if_neg (show ¬ (10 : Int32) = 8 by decide), if_neg (show ¬ (10 : Int32) = 9 by decide), key 0 7 (pz_tab 0 10) (pz_tab 1 10) rfl rfl, qw _ (by decide) (by decide)]; rfl
theorem q_within01 (what : Int32) (v : Int64) : q_within what v = 0 ∨ q_within what v = 1 := by
  unfold q_within
  (repeat' split) <;> simp
/-- what a number within its bounds is -/
theorem q_within_b {what v : Int32} (h : q_within what (Int32.toInt64 v) = 1) : (pz_tab 0 what.toNatClampNeg).toInt ≤ v.toInt ∧ v.toInt ≤ (pz_tab 1 what.toNatClampNeg).toInt := by
  unfold q_within at h
  split at h
  · exact absurd h (by decide)
  · split at h
    · exact absurd h (by decide)
    · split at h
      · exact absurd h (by decide)
      · rename_i h1
        split at h
        · exact absurd h (by decide)
        · rename_i h2
          rw [q_cmp_lt, q_64, q_64] at h1
          rw [q_cmp_gt, q_64, q_64] at h2
          omega
theorem qM.tooMany (h : qM w z g) (k : qR tw th sz dp nm sy sp g) (what v : Int32) (hw : what = 0 ∨ what = 1) (v1 : 1 ≤ v.toInt) (v2 : v.toInt ≤ 2000) : fD_isTooMany 37 what v w = some (.inl (some (.int (if 24 < q_many (if what = 0 then v else sz 0) tw * q_many (if what = 1 then v else sz 1) th then 1 else 0))), w) := by
  obtain ⟨⟨a0, a1, a2, a3, a4⟩, -, -, -, ⟨b0, b1, b2, b3, b4, b5, b6, b7, b8, b9⟩, ht⟩ := k
  have ld : ∀ i : Nat, i < 10 → p_ald w 42 0 (Int32.ofNat i) = some (g 42 i) := fun i hi => by
    rw [h.ld 42 0 (Int32.ofNat i) rfl (by omega) (by omega) (q_ge0 i (by omega)) ((q_lt (m := i) (n := 10) (by omega) (by omega)).mpr hi) (by decide), q_tno (by omega)]
  have l0 : p_ald w 42 0 0 = some (sz 0) := by rw [a0]; exact ld 0 (by omega)
  have l1 : p_ald w 42 0 1 = some (sz 1) := by rw [a1]; exact ld 1 (by omega)
  have l3 : p_ald w 42 0 3 = some tw := by rw [a3]; exact ld 3 (by omega)
  have l4 : p_ald w 42 0 4 = some th := by rw [a4]; exact ld 4 (by omega)
  have key : ∀ a b : Int32, 1 ≤ a.toInt → a.toInt ≤ 2000 → 1 ≤ b.toInt → b.toInt ≤ 2000 → fD_isTooMany_34 37 (Int32.toInt64 a) (Int32.toInt64 b) w = some (.inl (some (.int (if 24 < q_many a tw * q_many b th then 1 else 0))), w) := by
    intro a b c1 c2 c3 c4
    unfold fD_isTooMany_34
    simp only [h.R 7 42 rfl, Option.bind_some, l3, l4]
    obtain ⟨u, g1, u1⟩ := q_tilesOf (a := Int32.toInt64 a) (b := Int32.toInt64 b) (c := Int32.toInt64 tw) (d := Int32.toInt64 th) (by rw [q_64]; omega) (by rw [q_64]; omega) (by rw [q_64]; omega) (by rw [q_64]; omega) (by rw [q_64]; omega) (by rw [q_64]; omega) (by rw [q_64]; omega) (by rw [q_64]; omega) w
    rw [q_64, q_64, q_64, q_64] at u1
    rw [g1, q_call, q_kJ]
    have e1 := q_many_i c1 c2 b6 (by omega : tw.toInt ≤ 65536)
    have e2 := q_many_i c3 c4 b8 (by omega : th.toInt ≤ 65536)
    have h1 := q_mi_b c1 b6
    have h2 := q_mi_b c3 b8
    have p1 : 0 ≤ q_mi a.toInt tw.toInt * q_mi b.toInt th.toInt := Int.mul_nonneg (by omega) (by omega)
    have p2 : q_mi a.toInt tw.toInt * q_mi b.toInt th.toInt ≤ 2000 * 2000 := Int.mul_le_mul (by omega) (by omega) (by omega) (by omega)
    have e3 : (q_many a tw * q_many b th).toInt = q_mi a.toInt tw.toInt * q_mi b.toInt th.toInt := by
      rw [q_mul (by rw [e1, e2]; omega) (by rw [e1, e2]; omega), e1, e2]
    have c24 : (24 : Int32) < q_many a tw * q_many b th ↔ 24 < u.toInt := by
      rw [Int32.lt_iff_toInt_lt, e3, ← u1]
      rfl
    have d24 : lg_cmp u 24 ≤ 0 ↔ u.toInt ≤ 24 := by
      have h9 := q_cmp_gt u 24
      have e24 : (24 : Int64).toInt = 24 := rfl
      rw [e24] at h9
      constructor
      · intro hh
        apply Int.not_lt.mp
        intro hc
        have := h9.mpr hc
        grind
      · intro hh
        have : ¬ 0 < lg_cmp u 24 := fun hc => by
          have := h9.mp hc
          omega
        grind
    by_cases hc : 24 < u.toInt
    · rw [if_neg (fun hh => by have := d24.mp hh; omega), if_pos (c24.mpr hc)]; rfl
    · rw [if_pos (d24.mpr (by omega)), if_neg (fun hh => hc (c24.mp hh))]; rfl
  unfold fD_isTooMany fD_isTooMany_16
  simp only [h.R 7 42 rfl, Option.bind_some, l0, l1]
  rcases hw with e | e
  · subst e
    simp only [not_true_eq_false, if_true, if_false, show ¬ (0 : Int32) = 1 by decide, not_false_eq_true]
    exact key v (sz 1) v1 v2 b2 b3
  · subst e
    simp only [not_true_eq_false, if_true, if_false, show ¬ (1 : Int32) = 0 by decide, not_false_eq_true]
    exact key (sz 0) v b0 b1 v1 v2
end
