section
variable {k : Nat → Nat → Nat → Int32 → PW → PX} {w : PW} {x y : Int32} {sy sp : Nat → Int32} {z : Nat → Int32} {g : Nat → Nat → Int32} {xs : Nat → Int32}
theorem one_write (h : q_one w x y sy sp z g) : ∃ w', fL_law_572 (7, xs) k 0 37 66 2 w = k 0 37 66 (2 + 5) w' ∧ qRm w' := by
  obtain ⟨z8, z14, z20, z22, z25, z27, z30⟩ := h.z8
  obtain ⟨⟨hO, hS, h7, h8, h9, hb, hf, ht, hr, hR, -⟩, hM, hQ, -, h66, hl, c1, c2⟩ := h
  have hn := hQ.2.2.2.2.1
  unfold fL_law_572
  obtain ⟨w1, e1, w0, F0, V1⟩ := qW_write0 (bi := fun _ => 0) (bk := fun _ => 0) (ba := fun _ => 0) (br := fun _ => 0) (bn := fun _ => 0) (bL := fun _ => []) (bf := fun _ _ => 0) hO h9 hb hS (Or.inl rfl) (by omega) (by omega) h7 (fun y hy => absurd hy (q_ret3 y)) h8 (fun y hy => absurd hy (q_ret3 y)) (fun k x hx => absurd hx (by simp))
  rw [q_obj hO, Option.bind_some, e1, q_call, q_kI]
  have hM1 : qM w1 z g := hM.keep (fun u u1 u2 => by rw [V1.keep (by omega) (by omega) (by rw [F0.1]; omega), F0.2.1 u (by omega)])
  obtain ⟨w2, z', g', e2, q2, F2, -⟩ := hM1.write0 hQ z8 z14 (fun i hi => by rw [q_all8_at, if_pos hi]; decide)
  rw [hM1.obj, Option.bind_some, e2, q_call, q_kI]
  refine ⟨w2, ?_, ?_⟩
  · rw [show (([] : List Nat).length) = 0 from rfl, if_pos rfl, q_let]
  · obtain ⟨⟨r, n, f, hb1, hF1, -, -, hc⟩, -⟩ := V1
    have hn2 := hb1.2.2.2.2.2.2.1
    have h3 := hF1.2.2
    have h4 : w0.2 = w.2 := F0.2.2
    unfold qRm
    rw [F2.2.1]
    rw [h4] at h3 hc
    omega
theorem one_read (h : q_one w x y sy sp z g) : ∃ w', fL_law_889 (7, xs) k 0 37 66 2 w = k 0 37 66 (2 + 5) w' ∧ qRm w' := by
  obtain ⟨z8, z14, z20, z22, z25, z27, z30⟩ := h.z8
  obtain ⟨⟨hO, hS, h7, h8, h9, hb, hf, ht, hr, hR, -⟩, hM, hQ, -, h66, hl, c1, c2⟩ := h
  unfold fL_law_889
  obtain ⟨w1, e1, K1, l1, a1, a2⟩ := qW_read0 hO hR hr hf ht (Or.inl rfl) (Or.inl rfl) (by decide) (by decide) (by decide)
  rw [q_obj hO, Option.bind_some, e1, q_call, q_kI]
  have hM1 : qM w1 z g := hM.keep (fun u u1 u2 => K1 u (by omega) (by omega) (by omega) (by omega))
  obtain ⟨w2, e2, F2⟩ := hM1.read0 z22
  rw [hM1.obj, Option.bind_some, e2, q_call, q_kI]
  refine ⟨w2, ?_, ?_⟩
  · rw [if_pos rfl, q_let]
  · unfold qRm
    rw [F2.2.1]
    omega
theorem one_told (h : q_one w x y sy sp z g) : ∃ w', fL_law_1186 (7, xs) k 0 37 66 2 w = k 0 37 66 (2 + 5) w' ∧ qRm w' := by
  obtain ⟨z8, z14, z20, z22, z25, z27, z30⟩ := h.z8
  obtain ⟨⟨hO, hS, h7, h8, h9, hb, hf, ht, hr, hR, -⟩, hM, hQ, -, h66, hl, c1, c2⟩ := h
  unfold fL_law_1186
  simp only [sl1, Option.bind_some]
  have e1 := qW_told0 hO hS h7 h8 h9 hb hf hR (xs 3)
  rw [q_obj hO, Option.bind_some, e1, q_call, q_kI]
  obtain ⟨w2, e2, q2, F2⟩ := hM.told0 hQ (n1 := 0) (n2 := 0) (n3 := 0) (n4 := 0) (n6 := 0) z8 z14 z20 z22 z27 z25 (xs 3)
  rw [hM.obj, Option.bind_some, e2, q_call, q_kI]
  refine ⟨w2, ?_, ?_⟩
  · rw [show (([] : List Nat).length) = 0 from rfl, show (([] : List Int32).length) = 0 from rfl, if_pos rfl, q_let]
  · unfold qRm
    rw [F2.2.1]
    omega
theorem one_clear (h : q_one w x y sy sp z g) : ∃ w', fL_law_1211 (7, xs) k 0 37 66 2 w = k 0 37 66 (2 + 5) w' ∧ qRm w' := by
  obtain ⟨hA, hM, hQ, -, h66, hl, c1, c2⟩ := h
  unfold fL_law_1211
  obtain ⟨w1, sy', sp', syr', spr', pa', e1, -, -, K1, cc, ll⟩ := qW_clear hA
  rw [q_obj hA.1, Option.bind_some, e1, q_call, q_kV]
  have hM1 : qM w1 z g := hM.keep (fun u u1 u2 => K1 u u1 (fun y hy => by rcases hy with h | h <;> exact absurd h (q_ret3 y)))
  obtain ⟨w2, z', g', e2, q2, -, -, F2⟩ := hM1.clear
  rw [hM1.obj, Option.bind_some, e2, q_call, q_kV]
  refine ⟨w2, by rw [q_let], ?_⟩
  unfold qRm
  rw [F2.2.1, cc]
  omega
end
/-- the law at seven ints or fewer: what p1 asks of the pure function -/
theorem one_law (L : Nat) (xs : Nat → Int32) (hL : L ≤ 7) : ∃ w' : PW, fL_law (L, xs) ([], 0, 0) = some (.inl (some (.int 1)), w') ∧ w'.2.1 ≤ 500000 ∧ w'.2.2 ≤ 500000 := by
  obtain ⟨w, e, h⟩ := q_start (L, xs) (by show L ≤ 2562; omega)
  rw [e]
  have hx := q_near_b (if L ≤ 0 then 0 else xs 0)
  have hy := q_near_b (if L ≤ 1 then 0 else xs 1)
  obtain ⟨sy, sp, z, g, h1⟩ := q_one_of hx hy h
  have c1 : w.2.1 = 67 := h1.2.2.2.2.2.2.1
  have c2 : w.2.2 = 108568 := h1.2.2.2.2.2.2.2
  have fu : fL_law_43 (L, xs) FUEL = fL_law_43 (L, xs) (999998 + 1 + 1) := rfl
  rw [fu, fL_law_43, q_let]
  have e5 : (Int32.ofNat L - 5).toInt = (L : Int) - 5 := by
    have e5' : (5 : Int32).toInt = 5 := rfl
    rw [q_sub, q_ofi (by omega), e5'] <;> rw [q_ofi (by omega), e5'] <;> omega
  have e2 : (2 : Int32).toInt = 2 := rfl
  by_cases h7 : L = 7
  · subst h7
    rw [if_neg (by rw [q_lti]; show ¬ (Int32.ofNat 7 - 5).toInt < _; rw [e5, e2]; omega)]
    have s2 : p_sld (7, xs) 2 = some (xs 2) := rfl
    rw [s2, Option.bind_some]
    have fin : ∀ X : PX, (∃ w', X = fL_law_43 (7, xs) (999998 + 1) 0 37 66 (2 + 5) w' ∧ qRm w') → ∃ w' : PW, X = some (.inl (some (.int 1)), w') ∧ w'.2.1 ≤ 500000 ∧ w'.2.2 ≤ 500000 := by
      rintro X ⟨w', e', r1, r2⟩
      refine ⟨w', ?_, r1, r2⟩
      rw [e', fL_law_43, q_let, if_pos (by show Int32.ofNat 7 - 5 < 2 + 5; decide)]
      rfl
    apply fin
    by_cases a0 : xs 2 &&& 31 = 0
    · rw [if_pos a0]; exact one_set h1
    rw [if_neg a0]
    by_cases a1 : xs 2 &&& 31 = 1
    · rw [if_pos a1]; exact one_tilePart h1
    rw [if_neg a1]
    by_cases a2 : xs 2 &&& 31 = 2
    · rw [if_pos a2]; exact one_packet h1
    rw [if_neg a2]
    by_cases a3 : xs 2 &&& 31 = 3
    · rw [if_pos a3]; exact one_byteOf h1
    rw [if_neg a3]
    by_cases a4 : xs 2 &&& 31 = 4
    · rw [if_pos a4]; exact one_box h1
    rw [if_neg a4]
    by_cases a5 : xs 2 &&& 31 = 5
    · rw [if_pos a5]; exact one_boxByte h1
    rw [if_neg a5]
    by_cases a6 : xs 2 &&& 31 = 6
    · rw [if_pos a6]; exact one_write h1
    rw [if_neg a6]
    by_cases a7 : xs 2 &&& 31 = 7
    · rw [if_pos a7]; exact one_byteAt h1
    rw [if_neg a7]
    by_cases a8 : xs 2 &&& 31 = 8
    · rw [if_pos a8]; exact one_feed h1
    rw [if_neg a8]
    by_cases a9 : xs 2 &&& 31 = 9
    · rw [if_pos a9]; exact one_pass h1
    rw [if_neg a9]
    by_cases a10 : xs 2 &&& 31 = 10
    · rw [if_pos a10]; exact one_alter h1
    rw [if_neg a10]
    by_cases a11 : xs 2 &&& 31 = 11
    · rw [if_pos a11]; exact one_cut h1
    rw [if_neg a11]
    by_cases a12 : xs 2 &&& 31 = 12
    · rw [if_pos a12]; exact one_read h1
    rw [if_neg a12]
    by_cases a13 : xs 2 &&& 31 = 13
    · rw [if_pos a13]; exact one_at h1
    rw [if_neg a13]
    by_cases a14 : xs 2 &&& 31 = 14
    · rw [if_pos a14]; exact one_part h1
    rw [if_neg a14]
    by_cases a15 : xs 2 &&& 31 = 15
    · rw [if_pos a15]; exact one_partByte h1
    rw [if_neg a15]
    by_cases a16 : xs 2 &&& 31 = 16
    · rw [if_pos a16]; exact one_unknown h1
    rw [if_neg a16]
    by_cases a17 : xs 2 &&& 31 = 17
    · rw [if_pos a17]; exact one_told h1
    rw [if_neg a17]
    by_cases a18 : xs 2 &&& 31 = 18
    · rw [if_pos a18]; exact one_clear h1
    rw [if_neg a18, q_let]
    exact ⟨w, rfl, by unfold qRm; omega⟩
  · rw [if_pos (by rw [q_lti]; show (Int32.ofNat L - 5).toInt < _; rw [e5, e2]; omega)]
    exact ⟨w, rfl, by omega, by omega⟩
