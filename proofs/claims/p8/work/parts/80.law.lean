section
variable {c i L : Nat} {xs : Nat → Int32} {k : Nat → Nat → Nat → Int32 → PW → PX} {w : PW}
theorem lk_i5 (i : Nat) : Int32.ofNat i + 5 = Int32.ofNat (i + 5) := (Int32.ofNat_add i 5).symm
theorem lk_set (h : J c w) (hi : i + 4 < L) (hL : L ≤ 2562) : ∃ w2, fL_law_148 (L, xs) k 0 37 66 (Int32.ofNat i) w = k 0 37 66 (Int32.ofNat (i + 5)) w2 ∧ J (c + 1) w2 := by
  have s1 : p_sld (L, xs) (Int32.ofNat i + 1) = some (xs (i + 1)) := sl 1 (by omega) hL
  have s2 : p_sld (L, xs) (Int32.ofNat i + 2) = some (xs (i + 2)) := sl 2 (by omega) hL
  have s3 : p_sld (L, xs) (Int32.ofNat i + 3) = some (xs (i + 3)) := sl 3 (by omega) hL
  have s4 : p_sld (L, xs) (Int32.ofNat i + 4) = some (xs (i + 4)) := sl 4 (by omega) hL
  unfold fL_law_148
  simp only [s1, s2, s3, s4, Option.bind_some]
  obtain ⟨w2, e, h2⟩ := lw_U (K := fun w => p_let (Int32.ofNat i + 5) fun (l : Int32) => k 0 37 66 l w) (st_set h (xs (i + 1)) (xs (i + 2)) (xs (i + 3)) (xs (i + 4))).u
  refine ⟨w2, e.trans ?_, h2⟩
  show k 0 37 66 (Int32.ofNat i + 5) w2 = _
  rw [lk_i5]
theorem lk_tilePart (h : J c w) (hi : i + 4 < L) (hL : L ≤ 2562) : ∃ w2, fL_law_212 (L, xs) k 0 37 66 (Int32.ofNat i) w = k 0 37 66 (Int32.ofNat (i + 5)) w2 ∧ J (c + 1) w2 := by
  have s1 : p_sld (L, xs) (Int32.ofNat i + 1) = some (xs (i + 1)) := sl 1 (by omega) hL
  unfold fL_law_212
  simp only [s1, Option.bind_some]
  obtain ⟨w2, e, h2⟩ := lw_U (K := fun w => p_let (Int32.ofNat i + 5) fun (l : Int32) => k 0 37 66 l w) (st_tilePart h (xs (i + 1))).u
  refine ⟨w2, e.trans ?_, h2⟩
  show k 0 37 66 (Int32.ofNat i + 5) w2 = _
  rw [lk_i5]
theorem lk_packet (h : J c w) (hi : i + 4 < L) (hL : L ≤ 2562) : ∃ w2, fL_law_240 (L, xs) k 0 37 66 (Int32.ofNat i) w = k 0 37 66 (Int32.ofNat (i + 5)) w2 ∧ J (c + 1) w2 := by
  have s1 : p_sld (L, xs) (Int32.ofNat i + 1) = some (xs (i + 1)) := sl 1 (by omega) hL
  unfold fL_law_240
  simp only [s1, Option.bind_some]
  obtain ⟨w2, e, h2⟩ := lw_U (K := fun w => p_let (Int32.ofNat i + 5) fun (l : Int32) => k 0 37 66 l w) (st_packet h (xs (i + 1))).u
  refine ⟨w2, e.trans ?_, h2⟩
  show k 0 37 66 (Int32.ofNat i + 5) w2 = _
  rw [lk_i5]
theorem lk_byteOf (h : J c w) (hi : i + 4 < L) (hL : L ≤ 2562) : ∃ w2, fL_law_268 (L, xs) k 0 37 66 (Int32.ofNat i) w = k 0 37 66 (Int32.ofNat (i + 5)) w2 ∧ J (c + 1) w2 := by
  have s1 : p_sld (L, xs) (Int32.ofNat i + 1) = some (xs (i + 1)) := sl 1 (by omega) hL
  have s2 : p_sld (L, xs) (Int32.ofNat i + 2) = some (xs (i + 2)) := sl 2 (by omega) hL
  unfold fL_law_268
  simp only [s1, s2, Option.bind_some]
  obtain ⟨w2, e, h2⟩ := lw_U (K := fun w => p_let (Int32.ofNat i + 5) fun (l : Int32) => k 0 37 66 l w) (st_byteOf h (xs (i + 1)) (xs (i + 2))).u
  refine ⟨w2, e.trans ?_, h2⟩
  show k 0 37 66 (Int32.ofNat i + 5) w2 = _
  rw [lk_i5]
theorem lk_box (h : J c w) (hi : i + 4 < L) (hL : L ≤ 2562) : ∃ w2, fL_law_308 (L, xs) k 0 37 66 (Int32.ofNat i) w = k 0 37 66 (Int32.ofNat (i + 5)) w2 ∧ J (c + 1) w2 := by
  have s1 : p_sld (L, xs) (Int32.ofNat i + 1) = some (xs (i + 1)) := sl 1 (by omega) hL
  have s2 : p_sld (L, xs) (Int32.ofNat i + 2) = some (xs (i + 2)) := sl 2 (by omega) hL
  unfold fL_law_308
  rw [s1, Option.bind_some]
  by_cases hx : xs (i + 1) = 0
  · rw [if_pos hx]
    unfold fL_law_323 fL_law_350
    simp only [s1, s2, Option.bind_some, hx, if_true]
    obtain ⟨w2, e, h2⟩ := lw_U (K := fun w => p_let (Int32.ofNat i + 5) fun (l : Int32) => k 0 37 66 l w) (st_box h 0 (xs (i + 2)) (Or.inl rfl)).u
    refine ⟨w2, e.trans ?_, h2⟩
    show k 0 37 66 (Int32.ofNat i + 5) w2 = _
    rw [lk_i5]
  · rw [if_neg hx]
    unfold fL_law_323 fL_law_350
    simp only [s1, s2, Option.bind_some, hx, if_false]
    obtain ⟨w2, e, h2⟩ := lw_U (K := fun w => p_let (Int32.ofNat i + 5) fun (l : Int32) => k 0 37 66 l w) (st_box h 1 (xs (i + 2)) (Or.inr rfl)).u
    refine ⟨w2, e.trans ?_, h2⟩
    show k 0 37 66 (Int32.ofNat i + 5) w2 = _
    rw [lk_i5]
theorem lk_boxByte (h : J c w) (hi : i + 4 < L) (hL : L ≤ 2562) : ∃ w2, fL_law_364 (L, xs) k 0 37 66 (Int32.ofNat i) w = k 0 37 66 (Int32.ofNat (i + 5)) w2 ∧ J (c + 1) w2 := by
  have s1 : p_sld (L, xs) (Int32.ofNat i + 1) = some (xs (i + 1)) := sl 1 (by omega) hL
  have s2 : p_sld (L, xs) (Int32.ofNat i + 2) = some (xs (i + 2)) := sl 2 (by omega) hL
  unfold fL_law_364
  simp only [s1, s2, Option.bind_some]
  obtain ⟨w2, e, h2⟩ := lw_U (K := fun w => p_let (Int32.ofNat i + 5) fun (l : Int32) => k 0 37 66 l w) (st_boxByte h (xs (i + 1)) (xs (i + 2))).u
  refine ⟨w2, e.trans ?_, h2⟩
  show k 0 37 66 (Int32.ofNat i + 5) w2 = _
  rw [lk_i5]
theorem lk_write (h : J c w) (hi : i + 4 < L) (hL : L ≤ 2562) : ∃ w2, fL_law_404 (L, xs) k 0 37 66 (Int32.ofNat i) w = k 0 37 66 (Int32.ofNat (i + 5)) w2 ∧ J (c + 1) w2 := by
  obtain ⟨⟨fs, ho⟩, hs⟩ := st_write h
  unfold fL_law_404
  rw [ho, Option.bind_some]
  obtain ⟨w2, e, h2⟩ := lw_V (K := fun w => p_let (Int32.ofNat i + 5) fun (l : Int32) => k 0 37 66 l w) hs
  refine ⟨w2, e.trans ?_, h2⟩
  show k 0 37 66 (Int32.ofNat i + 5) w2 = _
  rw [lk_i5]
theorem lk_byteAt (h : J c w) (hi : i + 4 < L) (hL : L ≤ 2562) : ∃ w2, fL_law_417 (L, xs) k 0 37 66 (Int32.ofNat i) w = k 0 37 66 (Int32.ofNat (i + 5)) w2 ∧ J (c + 1) w2 := by
  have s1 : p_sld (L, xs) (Int32.ofNat i + 1) = some (xs (i + 1)) := sl 1 (by omega) hL
  unfold fL_law_417
  simp only [s1, Option.bind_some]
  obtain ⟨w2, e, h2⟩ := lw_U (K := fun w => p_let (Int32.ofNat i + 5) fun (l : Int32) => k 0 37 66 l w) (st_byteAt h (xs (i + 1))).u
  refine ⟨w2, e.trans ?_, h2⟩
  show k 0 37 66 (Int32.ofNat i + 5) w2 = _
  rw [lk_i5]
theorem lk_feed (h : J c w) (hi : i + 4 < L) (hL : L ≤ 2562) : ∃ w2, fL_law_445 (L, xs) k 0 37 66 (Int32.ofNat i) w = k 0 37 66 (Int32.ofNat (i + 5)) w2 ∧ J (c + 1) w2 := by
  have s1 : p_sld (L, xs) (Int32.ofNat i + 1) = some (xs (i + 1)) := sl 1 (by omega) hL
  unfold fL_law_445
  simp only [s1, Option.bind_some]
  obtain ⟨w2, e, h2⟩ := lw_U (K := fun w => p_let (Int32.ofNat i + 5) fun (l : Int32) => k 0 37 66 l w) (st_feed h (xs (i + 1))).u
  refine ⟨w2, e.trans ?_, h2⟩
  show k 0 37 66 (Int32.ofNat i + 5) w2 = _
  rw [lk_i5]
theorem lk_pass (h : J c w) (hi : i + 4 < L) (hL : L ≤ 2562) : ∃ w2, fL_law_473 (L, xs) k 0 37 66 (Int32.ofNat i) w = k 0 37 66 (Int32.ofNat (i + 5)) w2 ∧ J (c + 1) w2 := by
  have s1 : p_sld (L, xs) (Int32.ofNat i + 1) = some (xs (i + 1)) := sl 1 (by omega) hL
  have s2 : p_sld (L, xs) (Int32.ofNat i + 2) = some (xs (i + 2)) := sl 2 (by omega) hL
  unfold fL_law_473
  simp only [s1, s2, Option.bind_some]
  obtain ⟨w2, e, h2⟩ := lw_U (K := fun w => p_let (Int32.ofNat i + 5) fun (l : Int32) => k 0 37 66 l w) (st_pass h (xs (i + 1)) (xs (i + 2))).u
  refine ⟨w2, e.trans ?_, h2⟩
  show k 0 37 66 (Int32.ofNat i + 5) w2 = _
  rw [lk_i5]
theorem lk_alter (h : J c w) (hi : i + 4 < L) (hL : L ≤ 2562) : ∃ w2, fL_law_513 (L, xs) k 0 37 66 (Int32.ofNat i) w = k 0 37 66 (Int32.ofNat (i + 5)) w2 ∧ J (c + 1) w2 := by
  have s1 : p_sld (L, xs) (Int32.ofNat i + 1) = some (xs (i + 1)) := sl 1 (by omega) hL
  have s2 : p_sld (L, xs) (Int32.ofNat i + 2) = some (xs (i + 2)) := sl 2 (by omega) hL
  unfold fL_law_513
  simp only [s1, s2, Option.bind_some]
  obtain ⟨w2, e, h2⟩ := lw_U (K := fun w => p_let (Int32.ofNat i + 5) fun (l : Int32) => k 0 37 66 l w) (st_alter h (xs (i + 1)) (xs (i + 2))).u
  refine ⟨w2, e.trans ?_, h2⟩
  show k 0 37 66 (Int32.ofNat i + 5) w2 = _
  rw [lk_i5]
theorem lk_cut (h : J c w) (hi : i + 4 < L) (hL : L ≤ 2562) : ∃ w2, fL_law_553 (L, xs) k 0 37 66 (Int32.ofNat i) w = k 0 37 66 (Int32.ofNat (i + 5)) w2 ∧ J (c + 1) w2 := by
  have s1 : p_sld (L, xs) (Int32.ofNat i + 1) = some (xs (i + 1)) := sl 1 (by omega) hL
  unfold fL_law_553
  simp only [s1, Option.bind_some]
  obtain ⟨w2, e, h2⟩ := lw_U (K := fun w => p_let (Int32.ofNat i + 5) fun (l : Int32) => k 0 37 66 l w) (st_cut h (xs (i + 1))).u
  refine ⟨w2, e.trans ?_, h2⟩
  show k 0 37 66 (Int32.ofNat i + 5) w2 = _
  rw [lk_i5]
theorem lk_read (h : J c w) (hi : i + 4 < L) (hL : L ≤ 2562) : ∃ w2, fL_law_581 (L, xs) k 0 37 66 (Int32.ofNat i) w = k 0 37 66 (Int32.ofNat (i + 5)) w2 ∧ J (c + 1) w2 := by
  obtain ⟨⟨fs, ho⟩, hs⟩ := st_read h
  unfold fL_law_581
  rw [ho, Option.bind_some]
  obtain ⟨w2, e, h2⟩ := lw_U (K := fun w => p_let (Int32.ofNat i + 5) fun (l : Int32) => k 0 37 66 l w) hs.u
  refine ⟨w2, e.trans ?_, h2⟩
  show k 0 37 66 (Int32.ofNat i + 5) w2 = _
  rw [lk_i5]
theorem lk_at (h : J c w) (hi : i + 4 < L) (hL : L ≤ 2562) : ∃ w2, fL_law_594 (L, xs) k 0 37 66 (Int32.ofNat i) w = k 0 37 66 (Int32.ofNat (i + 5)) w2 ∧ J (c + 1) w2 := by
  have s1 : p_sld (L, xs) (Int32.ofNat i + 1) = some (xs (i + 1)) := sl 1 (by omega) hL
  have s2 : p_sld (L, xs) (Int32.ofNat i + 2) = some (xs (i + 2)) := sl 2 (by omega) hL
  have s3 : p_sld (L, xs) (Int32.ofNat i + 3) = some (xs (i + 3)) := sl 3 (by omega) hL
  unfold fL_law_594
  simp only [s1, s2, s3, Option.bind_some]
  obtain ⟨w2, e, h2⟩ := lw_U (K := fun w => p_let (Int32.ofNat i + 5) fun (l : Int32) => k 0 37 66 l w) (st_at h (xs (i + 1)) (xs (i + 2)) (xs (i + 3)))
  refine ⟨w2, e.trans ?_, h2⟩
  show k 0 37 66 (Int32.ofNat i + 5) w2 = _
  rw [lk_i5]
theorem lk_part (h : J c w) (hi : i + 4 < L) (hL : L ≤ 2562) : ∃ w2, fL_law_646 (L, xs) k 0 37 66 (Int32.ofNat i) w = k 0 37 66 (Int32.ofNat (i + 5)) w2 ∧ J (c + 1) w2 := by
  have s1 : p_sld (L, xs) (Int32.ofNat i + 1) = some (xs (i + 1)) := sl 1 (by omega) hL
  have s2 : p_sld (L, xs) (Int32.ofNat i + 2) = some (xs (i + 2)) := sl 2 (by omega) hL
  unfold fL_law_646
  simp only [s1, s2, Option.bind_some]
  obtain ⟨w2, e, h2⟩ := lw_U (K := fun w => p_let (Int32.ofNat i + 5) fun (l : Int32) => k 0 37 66 l w) (st_part h (xs (i + 1)) (xs (i + 2)))
  refine ⟨w2, e.trans ?_, h2⟩
  show k 0 37 66 (Int32.ofNat i + 5) w2 = _
  rw [lk_i5]
theorem lk_partByte (h : J c w) (hi : i + 4 < L) (hL : L ≤ 2562) : ∃ w2, fL_law_686 (L, xs) k 0 37 66 (Int32.ofNat i) w = k 0 37 66 (Int32.ofNat (i + 5)) w2 ∧ J (c + 1) w2 := by
  have s1 : p_sld (L, xs) (Int32.ofNat i + 1) = some (xs (i + 1)) := sl 1 (by omega) hL
  have s2 : p_sld (L, xs) (Int32.ofNat i + 2) = some (xs (i + 2)) := sl 2 (by omega) hL
  unfold fL_law_686
  simp only [s1, s2, Option.bind_some]
  obtain ⟨w2, e, h2⟩ := lw_U (K := fun w => p_let (Int32.ofNat i + 5) fun (l : Int32) => k 0 37 66 l w) (st_partByte h (xs (i + 1)) (xs (i + 2)))
  refine ⟨w2, e.trans ?_, h2⟩
  show k 0 37 66 (Int32.ofNat i + 5) w2 = _
  rw [lk_i5]
theorem lk_unknown (h : J c w) (hi : i + 4 < L) (hL : L ≤ 2562) : ∃ w2, fL_law_726 (L, xs) k 0 37 66 (Int32.ofNat i) w = k 0 37 66 (Int32.ofNat (i + 5)) w2 ∧ J (c + 1) w2 := by
  have s1 : p_sld (L, xs) (Int32.ofNat i + 1) = some (xs (i + 1)) := sl 1 (by omega) hL
  have s2 : p_sld (L, xs) (Int32.ofNat i + 2) = some (xs (i + 2)) := sl 2 (by omega) hL
  unfold fL_law_726
  simp only [s1, s2, Option.bind_some]
  obtain ⟨w2, e, h2⟩ := lw_U (K := fun w => p_let (Int32.ofNat i + 5) fun (l : Int32) => k 0 37 66 l w) (st_unknown h (xs (i + 1)) (xs (i + 2))).u
  refine ⟨w2, e.trans ?_, h2⟩
  show k 0 37 66 (Int32.ofNat i + 5) w2 = _
  rw [lk_i5]
theorem lk_told (h : J c w) (hi : i + 4 < L) (hL : L ≤ 2562) : ∃ w2, fL_law_766 (L, xs) k 0 37 66 (Int32.ofNat i) w = k 0 37 66 (Int32.ofNat (i + 5)) w2 ∧ J (c + 1) w2 := by
  have s1 : p_sld (L, xs) (Int32.ofNat i + 1) = some (xs (i + 1)) := sl 1 (by omega) hL
  obtain ⟨⟨fs, ho⟩, hs⟩ := st_told h (xs (i + 1))
  unfold fL_law_766
  simp only [s1, Option.bind_some]
  rw [ho, Option.bind_some]
  obtain ⟨w2, e, h2⟩ := lw_U (K := fun w => p_let (Int32.ofNat i + 5) fun (l : Int32) => k 0 37 66 l w) hs
  refine ⟨w2, e.trans ?_, h2⟩
  show k 0 37 66 (Int32.ofNat i + 5) w2 = _
  rw [lk_i5]
theorem lk_clear (h : J c w) (hi : i + 4 < L) (hL : L ≤ 2562) : ∃ w2, fL_law_791 (L, xs) k 0 37 66 (Int32.ofNat i) w = k 0 37 66 (Int32.ofNat (i + 5)) w2 ∧ J (c + 1) w2 := by
  obtain ⟨⟨fs, ho⟩, w1, w2, e1, ⟨f1, o1⟩, e2, h2⟩ := st_clear h
  unfold fL_law_791
  rw [ho, Option.bind_some, e1, q_call, q_kV, o1, Option.bind_some, e2, q_call, q_kV, q_let, lk_i5]
  exact ⟨w2, rfl, h2⟩
end
theorem lk_loop (L : Nat) (xs : Nat → Int32) (hL : L ≤ 2562) : ∀ (n c F : Nat) (w : PW), J c w → c + n = 512 → n < F → ∃ w2 c2, fL_law_43 (L, xs) F 0 37 66 (Int32.ofNat (2 + 5 * c)) w = some (.inl (some (.int 1)), w2) ∧ c2 ≤ 512 ∧ J c2 w2 := by
  have e5 : (Int32.ofNat L - 5).toInt = (L : Int) - 5 := by
    have e5' : (5 : Int32).toInt = 5 := rfl
    rw [q_sub, q_ofi (by omega), e5'] <;> rw [q_ofi (by omega), e5'] <;> omega
  intro n
  induction n with
  | zero =>
    intro c F w h hc hF
    obtain ⟨F, rfl⟩ : ∃ F', F = F' + 1 := ⟨F - 1, by omega⟩
    rw [fL_law_43, q_let, if_pos (by rw [q_lti]; show (Int32.ofNat L - 5).toInt < _; rw [e5, q_ofi (by omega)]; omega)]
    exact ⟨w, c, rfl, by omega, h⟩
  | succ n ih =>
    intro c F w h hc hF
    obtain ⟨F, rfl⟩ : ∃ F', F = F' + 1 := ⟨F - 1, by omega⟩
    rw [fL_law_43, q_let]
    by_cases hb : (L : Int) - 5 < (2 + 5 * c : Nat)
    · rw [if_pos (by rw [q_lti]; show (Int32.ofNat L - 5).toInt < _; rw [e5, q_ofi (by omega)]; exact hb)]
      exact ⟨w, c, rfl, by omega, h⟩
    · have hi : 2 + 5 * c + 4 < L := by omega
      have s0 : p_sld (L, xs) (Int32.ofNat (2 + 5 * c)) = some (xs (2 + 5 * c)) := by
        have := sl (xs := xs) (i := 2 + 5 * c) 0 (by omega) hL
        rw [show Int32.ofNat (2 + 5 * c) + Int32.ofNat 0 = Int32.ofNat (2 + 5 * c) from (Int32.ofNat_add _ 0).symm] at this
        exact this
      rw [if_neg (by rw [q_lti]; show ¬ (Int32.ofNat L - 5).toInt < _; rw [e5, q_ofi (by omega)]; exact hb), s0, Option.bind_some]
      have fin : ∀ X : PX, (∃ w2, X = fL_law_43 (L, xs) F 0 37 66 (Int32.ofNat (2 + 5 * c + 5)) w2 ∧ J (c + 1) w2) → ∃ w2 c2, X = some (.inl (some (.int 1)), w2) ∧ c2 ≤ 512 ∧ J c2 w2 := by
        rintro X ⟨w2, e, h2⟩
        rw [e, show 2 + 5 * c + 5 = 2 + 5 * (c + 1) by omega]
        exact ih (c + 1) F w2 h2 (by omega) (by omega)
      apply fin
      by_cases a0 : xs (2 + 5 * c) &&& 31 = 0
      · rw [if_pos a0]; exact lk_set h hi hL
      rw [if_neg a0]
      by_cases a1 : xs (2 + 5 * c) &&& 31 = 1
      · rw [if_pos a1]; exact lk_tilePart h hi hL
      rw [if_neg a1]
      by_cases a2 : xs (2 + 5 * c) &&& 31 = 2
      · rw [if_pos a2]; exact lk_packet h hi hL
      rw [if_neg a2]
      by_cases a3 : xs (2 + 5 * c) &&& 31 = 3
      · rw [if_pos a3]; exact lk_byteOf h hi hL
      rw [if_neg a3]
      by_cases a4 : xs (2 + 5 * c) &&& 31 = 4
      · rw [if_pos a4]; exact lk_box h hi hL
      rw [if_neg a4]
      by_cases a5 : xs (2 + 5 * c) &&& 31 = 5
      · rw [if_pos a5]; exact lk_boxByte h hi hL
      rw [if_neg a5]
      by_cases a6 : xs (2 + 5 * c) &&& 31 = 6
      · rw [if_pos a6]; exact lk_write h hi hL
      rw [if_neg a6]
      by_cases a7 : xs (2 + 5 * c) &&& 31 = 7
      · rw [if_pos a7]; exact lk_byteAt h hi hL
      rw [if_neg a7]
      by_cases a8 : xs (2 + 5 * c) &&& 31 = 8
      · rw [if_pos a8]; exact lk_feed h hi hL
      rw [if_neg a8]
      by_cases a9 : xs (2 + 5 * c) &&& 31 = 9
      · rw [if_pos a9]; exact lk_pass h hi hL
      rw [if_neg a9]
      by_cases a10 : xs (2 + 5 * c) &&& 31 = 10
      · rw [if_pos a10]; exact lk_alter h hi hL
      rw [if_neg a10]
      by_cases a11 : xs (2 + 5 * c) &&& 31 = 11
      · rw [if_pos a11]; exact lk_cut h hi hL
      rw [if_neg a11]
      by_cases a12 : xs (2 + 5 * c) &&& 31 = 12
      · rw [if_pos a12]; exact lk_read h hi hL
      rw [if_neg a12]
      by_cases a13 : xs (2 + 5 * c) &&& 31 = 13
      · rw [if_pos a13]; exact lk_at h hi hL
      rw [if_neg a13]
      by_cases a14 : xs (2 + 5 * c) &&& 31 = 14
      · rw [if_pos a14]; exact lk_part h hi hL
      rw [if_neg a14]
      by_cases a15 : xs (2 + 5 * c) &&& 31 = 15
      · rw [if_pos a15]; exact lk_partByte h hi hL
      rw [if_neg a15]
      by_cases a16 : xs (2 + 5 * c) &&& 31 = 16
      · rw [if_pos a16]; exact lk_unknown h hi hL
      rw [if_neg a16]
      by_cases a17 : xs (2 + 5 * c) &&& 31 = 17
      · rw [if_pos a17]; exact lk_told h hi hL
      rw [if_neg a17]
      by_cases a18 : xs (2 + 5 * c) &&& 31 = 18
      · rw [if_pos a18]; exact lk_clear h hi hL
      rw [if_neg a18]
      rw [q_let, lk_i5]
      exact ⟨w, rfl, h.next⟩
theorem lk_law (L : Nat) (xs : Nat → Int32) (hL : L ≤ 2562) : ∃ w' : PW, fL_law (L, xs) ([], 0, 0) = some (.inl (some (.int 1)), w') ∧ w'.2.1 ≤ 601024 ∧ w'.2.2 ≤ 7293000 := by
  obtain ⟨w, e, h⟩ := q_start (L, xs) hL
  rw [e]
  have hx := q_near_b (if L ≤ 0 then 0 else xs 0)
  have hy := q_near_b (if L ≤ 1 then 0 else xs 1)
  obtain ⟨w2, c2, e2, hc, h2⟩ := lk_loop L xs hL 512 0 FUEL w (J0_of hx hy h) (by omega) (by decide)
  exact ⟨w2, e2, h2.room hc⟩
