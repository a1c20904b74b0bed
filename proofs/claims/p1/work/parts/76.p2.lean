section
variable {k : Nat → Nat → Nat → Int32 → PW → PX} {w : PW} {x y : Int32} {sy sp : Nat → Int32} {z : Nat → Int32} {g : Nat → Nat → Int32} {xs : Nat → Int32}
/-- the rest of a compared call, as the law has it -/
def lw_rest (k : Nat → Nat → Nat → Int32 → PW → PX) (D : PW → PX) (c : Int32) (w1 : PW) : PX := (p_obj w1 37 10).bind fun _ => p_call (D w1) <| p_kI fun b wb => (p_obj wb 37 10).bind fun _ => p_call (fD_thrown 37 wb) <| p_kI fun t wt => if t = c then (if ¬ c = 0 then (p_let ((2 : Int32) + (5 : Int32)) fun (l : Int32) => k 0 37 66 l wt) else ((p_aldJ wt 66 (0 : Int32)).bind fun v => if (lg_cmp v (Int32.toInt64 b)) = 0 then (p_let ((2 : Int32) + (5 : Int32)) fun (l : Int32) => k 0 37 66 l wt) else (p_retZ (0 : Int32) wt))) else (p_retZ (0 : Int32) wt)
theorem lw_no {D : PW → PX} {c : Int32} {w1 : PW} (hc : ¬ c = 0) (hT : qT w w1) (hM : qM w z g) (c1 : w.2.1 = 67) (c2 : w.2.2 = 108568) (hD : ∀ w1, qM w1 z g → ∃ w2 b z' g', D w1 = some (.inl (some (.int b)), w2) ∧ qM w2 z' g' ∧ z' 0 = c ∧ qI 37 66 w1 w2) : ∃ w', lw_rest k D c w1 = k 0 37 66 (2 + 5) w' ∧ qRm w' := by
  have hM1 := hT.M hM
  obtain ⟨w2, b, z', g', e2, q2, h0, F2⟩ := hD w1 hM1
  unfold lw_rest
  rw [hM1.obj, Option.bind_some, e2, q_call, q_kI, q2.obj, Option.bind_some, q2.thr, q_call, q_kI]
  refine ⟨w2, t_tail h0 (fun e => absurd e hc), ?_⟩
  have := hT.rm (by omega) (by omega)
  rw [← F2.2.1] at this
  exact ⟨by omega, by omega⟩
theorem lw_yes {D : PW → PX} {v : Int32} {w1 w2 : PW} (hJ : qJ v w1 w2) (hk : ∀ u, 37 ≤ u → u < 66 → w1.1[u]? = w.1[u]?) (hM : qM w z g) (hr : w1.2.1 ≤ 500000 ∧ w1.2.2 ≤ 500000) (hD : ∀ w1, qM w1 z g → ∃ w2 z' g', D w1 = some (.inl (some (.int v)), w2) ∧ qM w2 z' g' ∧ z' 0 = 0 ∧ qI 37 66 w1 w2) : ∃ w', lw_rest k D 0 w2 = k 0 37 66 (2 + 5) w' ∧ qRm w' := by
  have hM2 : qM w2 z g := hM.keep (fun u u1 u2 => by rw [hJ.1.2.1 u (by omega), hk u u1 u2])
  obtain ⟨w3, z', g', e3, q3, h0, F3⟩ := hD w2 hM2
  unfold lw_rest
  rw [hM2.obj, Option.bind_some, e3, q_call, q_kI, q3.obj, Option.bind_some, q3.thr, q_call, q_kI]
  refine ⟨w3, t_tail h0 (fun _ => hJ.ald (F3.2.2 66 (by omega))), ?_⟩
  unfold qRm
  rw [F3.2.1, hJ.1.2.2]
  exact hr
theorem lw_x1 {E : String} {w1 : PW} {K : Option Value → PW → PX} {K1 : PW → PX} {t : List (String × (PW → PX))} : p_callX (some (.inr E, w1)) K ((E, K1) :: t) = K1 w1 := by
  show (if E = E then K1 w1 else p_kX t E w1) = _
  rw [if_pos rfl]
theorem lw_x2 {E E1 : String} {w1 : PW} {K : Option Value → PW → PX} {K1 : PW → PX} {t : List (String × (PW → PX))} (h : ¬ E = E1) : p_callX (some (.inr E, w1)) K ((E1, K1) :: t) = p_callX (some (.inr E, w1)) K t := by
  show (if E = E1 then K1 w1 else p_kX t E w1) = p_kX t E w1
  rw [if_neg h]
theorem lw_x0 {v : Int32} {w1 : PW} {K : Int32 → PW → PX} {t : List (String × (PW → PX))} : p_callX (some (.inl (some (.int v)), w1)) (p_kI K) t = K v w1 := rfl
theorem q_nil (p : Int32) : ¬ (0 ≤ p.toInt ∧ p.toInt < (([] : List Nat).length : Int)) := by
  intro h
  have := h.2
  simp at this
  omega
theorem q_nil' (p : Int32) : ¬ (0 ≤ p.toInt ∧ p.toInt < (0 : Nat)) := by omega
theorem q_nilI (p : Int32) : ¬ (0 ≤ p.toInt ∧ p.toInt < (([] : List Int32).length : Int)) := by
  intro h
  have := h.2
  simp at this
  omega
theorem one_packet (h : q_one w x y sy sp z g) : ∃ w', fL_law_296 (7, xs) k 0 37 66 2 w = k 0 37 66 (2 + 5) w' ∧ qRm w' := by
  obtain ⟨z8, z14, z20, z22, z25, z27, z30⟩ := h.z8
  obtain ⟨⟨hO, hS, h7, h8, h9, hb, hf, ht, hr, hR, -⟩, hM, hQ, -, h66, hl, c1, c2⟩ := h
  unfold fL_law_296 fL_packet
  simp only [sl1, sl2, sl3, sl4, Option.bind_some]
  obtain ⟨w1, e1, T1⟩ := qW_packet1 hO h7 (xs 3) (q_nil _)
  rw [q_obj hO, Option.bind_some, e1, lw_x1, q_call, q_kI]
  refine lw_no (D := fun w => fD_packet 37 (xs 3) w) (by decide) T1 hM c1 c2 (fun w1 hM1 => ?_)
  obtain ⟨w2, e2, q2, F2⟩ := hM1.packet1 0 z8 (by omega) (xs 3) (q_nil' _)
  exact ⟨w2, 0, _, _, e2, q2, rfl, F2⟩
theorem one_byteOf (h : q_one w x y sy sp z g) : ∃ w', fL_law_352 (7, xs) k 0 37 66 2 w = k 0 37 66 (2 + 5) w' ∧ qRm w' := by
  obtain ⟨z8, z14, z20, z22, z25, z27, z30⟩ := h.z8
  obtain ⟨⟨hO, hS, h7, h8, h9, hb, hf, ht, hr, hR, -⟩, hM, hQ, -, h66, hl, c1, c2⟩ := h
  unfold fL_law_352 fL_byteOf
  simp only [sl1, sl2, sl3, sl4, Option.bind_some]
  obtain ⟨w1, e1, T1⟩ := qW_byteOf1 hO h7 (xs 3) (xs 4) (q_nil _)
  rw [q_obj hO, Option.bind_some, e1, lw_x1, q_call, q_kI]
  refine lw_no (D := fun w => fD_byteOf 37 (xs 3) (xs 4) w) (by decide) T1 hM c1 c2 (fun w1 hM1 => ?_)
  obtain ⟨w2, e2, q2, F2⟩ := hM1.byteOf1 0 z8 (by omega) (xs 3) (xs 4) (q_nil' _)
  exact ⟨w2, 0, _, _, e2, q2, rfl, F2⟩
theorem one_boxByte (h : q_one w x y sy sp z g) : ∃ w', fL_law_504 (7, xs) k 0 37 66 2 w = k 0 37 66 (2 + 5) w' ∧ qRm w' := by
  obtain ⟨z8, z14, z20, z22, z25, z27, z30⟩ := h.z8
  obtain ⟨⟨hO, hS, h7, h8, h9, hb, hf, ht, hr, hR, -⟩, hM, hQ, -, h66, hl, c1, c2⟩ := h
  unfold fL_law_504 fL_boxByte
  simp only [sl1, sl2, sl3, sl4, Option.bind_some]
  obtain ⟨w1, e1, T1⟩ := qW_boxByte1 hO h8 (xs 3) (xs 4) (q_nil _)
  rw [q_obj hO, Option.bind_some, e1, lw_x1, q_call, q_kI]
  refine lw_no (D := fun w => fD_boxByte 37 (xs 3) (xs 4) w) (by decide) T1 hM c1 c2 (fun w1 hM1 => ?_)
  obtain ⟨w2, e2, q2, F2⟩ := hM1.boxByte1 0 z14 (by omega) (xs 3) (xs 4) (q_nil' _)
  exact ⟨w2, 0, _, _, e2, q2, rfl, F2⟩
theorem one_byteAt (h : q_one w x y sy sp z g) : ∃ w', fL_law_585 (7, xs) k 0 37 66 2 w = k 0 37 66 (2 + 5) w' ∧ qRm w' := by
  obtain ⟨z8, z14, z20, z22, z25, z27, z30⟩ := h.z8
  obtain ⟨⟨hO, hS, h7, h8, h9, hb, hf, ht, hr, hR, -⟩, hM, hQ, -, h66, hl, c1, c2⟩ := h
  unfold fL_law_585 fL_byteAt
  simp only [sl1, sl2, sl3, sl4, Option.bind_some]
  obtain ⟨w1, e1, T1⟩ := qW_byteAt1 hO h9 hb (xs 3) (q_nilI _)
  rw [q_obj hO, Option.bind_some, e1, lw_x1, q_call, q_kI]
  refine lw_no (D := fun w => fD_byteAt 37 (xs 3) w) (by decide) T1 hM c1 c2 (fun w1 hM1 => ?_)
  obtain ⟨w2, e2, q2, F2⟩ := hM1.byteAt1 0 z20 (by omega) (xs 3) (q_nil' _)
  exact ⟨w2, 0, _, _, e2, q2, rfl, F2⟩
theorem one_pass (h : q_one w x y sy sp z g) : ∃ w', fL_law_697 (7, xs) k 0 37 66 2 w = k 0 37 66 (2 + 5) w' ∧ qRm w' := by
  obtain ⟨z8, z14, z20, z22, z25, z27, z30⟩ := h.z8
  obtain ⟨⟨hO, hS, h7, h8, h9, hb, hf, ht, hr, hR, -⟩, hM, hQ, -, h66, hl, c1, c2⟩ := h
  unfold fL_law_697 fL_pass
  simp only [sl1, sl2, sl3, sl4, Option.bind_some]
  obtain ⟨w1, e1, T1⟩ := qW_pass1 hO h9 hb (xs 3) (xs 4) (q_nilI _)
  rw [q_obj hO, Option.bind_some, e1, lw_x1, q_call, q_kI]
  refine lw_no (D := fun w => fD_pass 37 (xs 3) (xs 4) w) (by decide) T1 hM c1 c2 (fun w1 hM1 => ?_)
  obtain ⟨w2, e2, q2, F2⟩ := hM1.pass1 0 z20 (by omega) (xs 3) (xs 4) (q_nil' _)
  exact ⟨w2, 0, _, _, e2, q2, rfl, F2⟩
theorem one_alter (h : q_one w x y sy sp z g) : ∃ w', fL_law_765 (7, xs) k 0 37 66 2 w = k 0 37 66 (2 + 5) w' ∧ qRm w' := by
  obtain ⟨z8, z14, z20, z22, z25, z27, z30⟩ := h.z8
  obtain ⟨⟨hO, hS, h7, h8, h9, hb, hf, ht, hr, hR, -⟩, hM, hQ, -, h66, hl, c1, c2⟩ := h
  unfold fL_law_765 fL_alter
  simp only [sl1, sl2, sl3, sl4, Option.bind_some]
  obtain ⟨w1, e1, T1⟩ := qW_alter1 hO hf (xs 3) (xs 4) (q_nilI _)
  rw [q_obj hO, Option.bind_some, e1, lw_x1, q_call, q_kI]
  refine lw_no (D := fun w => fD_alter 37 (xs 3) (xs 4) w) (by decide) T1 hM c1 c2 (fun w1 hM1 => ?_)
  obtain ⟨w2, e2, q2, F2⟩ := hM1.alter1 0 z22 (by omega) (xs 3) (xs 4) (q_nil' _)
  exact ⟨w2, 0, _, _, e2, q2, rfl, F2⟩
theorem one_at (h : q_one w x y sy sp z g) : ∃ w', fL_law_902 (7, xs) k 0 37 66 2 w = k 0 37 66 (2 + 5) w' ∧ qRm w' := by
  obtain ⟨z8, z14, z20, z22, z25, z27, z30⟩ := h.z8
  obtain ⟨⟨hO, hS, h7, h8, h9, hb, hf, ht, hr, hR, -⟩, hM, hQ, -, h66, hl, c1, c2⟩ := h
  unfold fL_law_902 fL_at
  simp only [sl1, sl2, sl3, sl4, Option.bind_some]
  obtain ⟨w1, e1, T1⟩ := qW_at1 hO (xs 3) (xs 4) (xs 5)
  rw [q_obj hO, Option.bind_some, e1, lw_x1, q_call, q_kI]
  refine lw_no (D := fun w => fD_at 37 (xs 3) (xs 4) (xs 5) w) (by decide) T1 hM c1 c2 (fun w1 hM1 => ?_)
  obtain ⟨w2, e2, q2, F2⟩ := hM1.at1 z25 (xs 3) (xs 4) (xs 5)
  exact ⟨w2, 0, _, _, e2, q2, rfl, F2⟩
theorem one_part (h : q_one w x y sy sp z g) : ∃ w', fL_law_982 (7, xs) k 0 37 66 2 w = k 0 37 66 (2 + 5) w' ∧ qRm w' := by
  obtain ⟨z8, z14, z20, z22, z25, z27, z30⟩ := h.z8
  obtain ⟨⟨hO, hS, h7, h8, h9, hb, hf, ht, hr, hR, -⟩, hM, hQ, -, h66, hl, c1, c2⟩ := h
  unfold fL_law_982 fL_part
  simp only [sl1, sl2, sl3, sl4, Option.bind_some]
  obtain ⟨w1, e1, T1⟩ := qW_part1 hO (xs 3) (xs 4)
  rw [q_obj hO, Option.bind_some, e1, lw_x1, q_call, q_kI]
  refine lw_no (D := fun w => fD_part 37 (xs 3) (xs 4) w) (by decide) T1 hM c1 c2 (fun w1 hM1 => ?_)
  obtain ⟨w2, e2, q2, F2⟩ := hM1.part1 z25 (xs 3) (xs 4)
  exact ⟨w2, 0, _, _, e2, q2, rfl, F2⟩
theorem one_partByte (h : q_one w x y sy sp z g) : ∃ w', fL_law_1050 (7, xs) k 0 37 66 2 w = k 0 37 66 (2 + 5) w' ∧ qRm w' := by
  obtain ⟨z8, z14, z20, z22, z25, z27, z30⟩ := h.z8
  obtain ⟨⟨hO, hS, h7, h8, h9, hb, hf, ht, hr, hR, -⟩, hM, hQ, -, h66, hl, c1, c2⟩ := h
  unfold fL_law_1050 fL_partByte
  simp only [sl1, sl2, sl3, sl4, Option.bind_some]
  obtain ⟨w1, e1, T1⟩ := qW_partByte1 hO (xs 3) (xs 4)
  rw [q_obj hO, Option.bind_some, e1, lw_x1, q_call, q_kI]
  refine lw_no (D := fun w => fD_partByte 37 (xs 3) (xs 4) w) (by decide) T1 hM c1 c2 (fun w1 hM1 => ?_)
  obtain ⟨w2, e2, q2, F2⟩ := hM1.partByte1 z25 (xs 3) (xs 4)
  exact ⟨w2, 0, _, _, e2, q2, rfl, F2⟩
theorem one_unknown (h : q_one w x y sy sp z g) : ∃ w', fL_law_1118 (7, xs) k 0 37 66 2 w = k 0 37 66 (2 + 5) w' ∧ qRm w' := by
  obtain ⟨z8, z14, z20, z22, z25, z27, z30⟩ := h.z8
  obtain ⟨⟨hO, hS, h7, h8, h9, hb, hf, ht, hr, hR, -⟩, hM, hQ, -, h66, hl, c1, c2⟩ := h
  unfold fL_law_1118 fL_unknown
  simp only [sl1, sl2, sl3, sl4, Option.bind_some]
  obtain ⟨w1, e1, T1⟩ := qW_unknown1 hO hR.1 hR.2.1 (xs 3) (xs 4) (q_nilI _)
  rw [q_obj hO, Option.bind_some, e1, lw_x1, q_call, q_kI]
  refine lw_no (D := fun w => fD_unknown 37 (xs 3) (xs 4) w) (by decide) T1 hM c1 c2 (fun w1 hM1 => ?_)
  obtain ⟨w2, e2, q2, F2⟩ := hM1.unknown1 0 z27 (by omega) (xs 3) (xs 4) (q_nil' _)
  exact ⟨w2, 0, _, _, e2, q2, rfl, F2⟩
theorem q_ret3 (y : Nat) : ¬ Value.ref y = .retAddr 3 := fun hy => by cases hy
theorem q_tc_v (nt : Int) (n : Nat) (t : Int32) : q_tc nt n t = 0 ∨ q_tc nt n t = 1 ∨ q_tc nt n t = 2 := by
  unfold q_tc
  (repeat' split) <;> simp
theorem one_tilePart (h : q_one w x y sy sp z g) : ∃ w', fL_law_240 (7, xs) k 0 37 66 2 w = k 0 37 66 (2 + 5) w' ∧ qRm w' := by
  obtain ⟨z8, z14, z20, z22, z25, z27, z30⟩ := h.z8
  obtain ⟨⟨hO, hS, h7, h8, h9, hb, hf, ht, hr, hR, -⟩, hM, hQ, -, h66, hl, c1, c2⟩ := h
  unfold fL_law_240 fL_tilePart
  simp only [sl1, sl2, sl3, sl4, Option.bind_some]
  have hW := qW_tilePart hO hS hQ h7 (fun y hy => absurd hy (q_ret3 y)) (tl := fun _ => 0) (fun k x hx => absurd hx (by simp)) (xs 3)
  have hD : ∀ c, q_tc (q_nt x y (upd (upd (upd (fun _ => 0) 0 x) 1 y) 2 1)) 0 (xs 3) = c → ∀ w1, qM w1 z g → ∃ w2 b z' g', fD_tilePart 37 (xs 3) w1 = some (.inl (some (.int b)), w2) ∧ qM w2 z' g' ∧ z' 0 = c ∧ qI 37 66 w1 w2 := fun c hc w1 hM1 => by
    obtain ⟨w2, b, e2, F2, n2, y2⟩ := hM1.tilePart hQ 0 z8 (by omega) (xs 3)
    by_cases h0 : q_tc (q_nt x y (upd (upd (upd (fun _ => 0) 0 x) 1 y) 2 1)) 0 (xs 3) = 0
    · exact ⟨w2, b, _, _, e2, (y2 h0).2, by rw [← hc, h0]; rfl, F2⟩
    · exact ⟨w2, b, _, _, e2, n2 h0, by rw [← hc]; rfl, F2⟩
  rw [q_obj hO, Option.bind_some]
  rcases q_tc_v (q_nt x y (upd (upd (upd (fun _ => 0) 0 x) 1 y) 2 1)) 0 (xs 3) with hc | hc | hc
  · obtain ⟨w1, e', e1, -, -, -, -, F1, -, cc⟩ := hW.2.2 hc
    have h661 : w1.1[66]? = some (.inl (3, 1, .inr (.inl fun _ => 0))) := by rw [q_keepF F1 (by omega) (by rintro (h | h); omega; exact q_ret3 _ h), h66]
    obtain ⟨w2, g2, J2⟩ := o_J h661 (Int32.ofNat ([] : List Nat).length)
    rw [e1, lw_x0, g2, Option.bind_some, q_call, q_kI]
    have := F1.2.2
    refine lw_yes (D := fun w => fD_tilePart 37 (xs 3) w) J2 (fun u u1 u2 => q_keepF F1 (by omega) (by rintro (h | h); omega; exact q_ret3 _ h)) hM ⟨by omega, by omega⟩ (fun w1 hM1 => ?_)
    obtain ⟨w2, b, e2, F2, -, y2⟩ := hM1.tilePart hQ 0 z8 (by omega) (xs 3)
    obtain ⟨hb, q2⟩ := y2 hc
    rw [hb] at e2
    exact ⟨w2, _, _, e2, q2, rfl, F2⟩
  · obtain ⟨w1, e1, T1⟩ := hW.1 hc
    rw [e1, lw_x1, q_call, q_kI]
    exact lw_no (D := fun w => fD_tilePart 37 (xs 3) w) (by decide) T1 hM c1 c2 (hD 1 hc)
  · obtain ⟨w1, e1, T1⟩ := hW.2.1 hc
    rw [e1, lw_x2 (by decide), lw_x1, q_call, q_kI]
    exact lw_no (D := fun w => fD_tilePart 37 (xs 3) w) (by decide) T1 hM c1 c2 (hD 2 hc)
theorem q_bc_v (n : Nat) (t : Int32) : q_bc n t = 0 ∨ q_bc n t = 1 ∨ q_bc n t = 2 := by
  unfold q_bc
  (repeat' split) <;> simp
theorem one_box1 (h : q_one w x y sy sp z g) (i : Int32) (hi : i = 0 ∨ i = 1) : ∃ w', (p_call (fL_box 0 i (xs 4) 66 w) <| p_kI fun c wc => lw_rest k (fun w => fD_box 37 i (xs 4) w) c wc) = k 0 37 66 (2 + 5) w' ∧ qRm w' := by
  obtain ⟨z8, z14, z20, z22, z25, z27, z30⟩ := h.z8
  obtain ⟨⟨hO, hS, h7, h8, h9, hb, hf, ht, hr, hR, -⟩, hM, hQ, -, h66, hl, c1, c2⟩ := h
  unfold fL_box
  have hW := qW_box hO h8 (by simp) (fun y hy => absurd hy (q_ret3 y)) i (xs 4) hi
  have hD : ∀ c, q_bc 0 (xs 4) = c → ∀ w1, qM w1 z g → ∃ w2 b z' g', fD_box 37 i (xs 4) w1 = some (.inl (some (.int b)), w2) ∧ qM w2 z' g' ∧ z' 0 = c ∧ qI 37 66 w1 w2 := fun c hc w1 hM1 => by
    obtain ⟨w2, b, e2, F2, n2, y2⟩ := hM1.box 0 z14 (by omega) i (xs 4) hi
    by_cases h0 : q_bc 0 (xs 4) = 0
    · exact ⟨w2, b, _, _, e2, (y2 h0).2, by rw [← hc, h0]; rfl, F2⟩
    · exact ⟨w2, b, _, _, e2, n2 h0, by rw [← hc]; rfl, F2⟩
  rw [q_obj hO, Option.bind_some]
  rcases q_bc_v 0 (xs 4) with hc | hc | hc
  · obtain ⟨w1, e', e1, -, -, -, F1, -, cc⟩ := hW.2.2 hc
    have h661 : w1.1[66]? = some (.inl (3, 1, .inr (.inl fun _ => 0))) := by rw [q_keepF F1 (by omega) (by rintro (h | h); omega; exact q_ret3 _ h), h66]
    obtain ⟨w2, g2, J2⟩ := o_J h661 (Int32.ofNat ([] : List Nat).length)
    rw [e1, lw_x0, g2, Option.bind_some, q_call, q_kI]
    have := F1.2.2
    refine lw_yes J2 (fun u u1 u2 => q_keepF F1 (by omega) (by rintro (h | h); omega; exact q_ret3 _ h)) hM ⟨by omega, by omega⟩ (fun w1 hM1 => ?_)
    obtain ⟨w2, b, e2, F2, -, y2⟩ := hM1.box 0 z14 (by omega) i (xs 4) hi
    obtain ⟨hb, q2⟩ := y2 hc
    rw [hb] at e2
    exact ⟨w2, _, _, e2, q2, rfl, F2⟩
  · obtain ⟨w1, e1, T1⟩ := hW.1 hc
    rw [e1, lw_x1, q_call, q_kI]
    exact lw_no (by decide) T1 hM c1 c2 (hD 1 hc)
  · obtain ⟨w1, e1, T1⟩ := hW.2.1 hc
    rw [e1, lw_x2 (by decide), lw_x1, q_call, q_kI]
    exact lw_no (by decide) T1 hM c1 c2 (hD 2 hc)
theorem one_box (h : q_one w x y sy sp z g) : ∃ w', fL_law_420 (7, xs) k 0 37 66 2 w = k 0 37 66 (2 + 5) w' ∧ qRm w' := by
  unfold fL_law_420 fL_law_435 fL_law_462
  simp only [sl1, sl2, sl3, sl4, Option.bind_some]
  by_cases h3 : xs 3 = 0
  · rw [if_pos h3]
    obtain ⟨w', e, r⟩ := one_box1 (k := k) (xs := xs) h 0 (Or.inl rfl)
    refine ⟨w', ?_, r⟩
    rw [← e]
    simp only [h3, if_true]
    rfl
  · rw [if_neg h3]
    obtain ⟨w', e, r⟩ := one_box1 (k := k) (xs := xs) h 1 (Or.inr rfl)
    refine ⟨w', ?_, r⟩
    rw [← e]
    simp only [h3, if_false]
    rfl
theorem q_fdc_v (n : Nat) (t : Int32) : q_fdc n t = 0 ∨ q_fdc n t = 1 ∨ q_fdc n t = 2 := by
  unfold q_fdc
  (repeat' split) <;> simp
theorem one_feed (h : q_one w x y sy sp z g) : ∃ w', fL_law_641 (7, xs) k 0 37 66 2 w = k 0 37 66 (2 + 5) w' ∧ qRm w' := by
  obtain ⟨z8, z14, z20, z22, z25, z27, z30⟩ := h.z8
  obtain ⟨⟨hO, hS, h7, h8, h9, hb, hf, ht, hr, hR, -⟩, hM, hQ, -, h66, hl, c1, c2⟩ := h
  unfold fL_law_641 fL_feed
  simp only [sl1, sl2, sl3, sl4, Option.bind_some]
  have hW := qW_feed hO hf (by decide) (xs 3)
  have hD : ∀ c, q_fdc 0 (xs 3) = c → ∀ w1, qM w1 z g → ∃ w2 b z' g', fD_feed 37 (xs 3) w1 = some (.inl (some (.int b)), w2) ∧ qM w2 z' g' ∧ z' 0 = c ∧ qI 37 66 w1 w2 := fun c hc w1 hM1 => by
    obtain ⟨w2, b, e2, F2, n2, y2⟩ := hM1.feed 0 z22 (by omega) (xs 3)
    by_cases h0 : q_fdc 0 (xs 3) = 0
    · exact ⟨w2, b, _, _, e2, (y2 h0).2, by rw [← hc, h0]; rfl, F2⟩
    · exact ⟨w2, b, _, _, e2, n2 h0, by rw [← hc]; rfl, F2⟩
  rw [q_obj hO, Option.bind_some]
  rcases q_fdc_v 0 (xs 3) with hc | hc | hc
  · obtain ⟨w1, r', n', f', e1, b1, F1, -, -, cc⟩ := hW.2.2 hc
    have hn := b1.2.2.2.2.2.2.1
    have h661 : w1.1[66]? = some (.inl (3, 1, .inr (.inl fun _ => 0))) := by rw [q_keepF F1 (by omega) (by omega), h66]
    obtain ⟨w2, g2, J2⟩ := o_J h661 (Int32.ofNat (([] : List Int32).length + 1))
    rw [e1, lw_x0, g2, Option.bind_some, q_call, q_kI]
    have := F1.2.2
    refine lw_yes (D := fun w => fD_feed 37 (xs 3) w) J2 (fun u u1 u2 => q_keepF F1 (by omega) (by omega)) hM ⟨by omega, by omega⟩ (fun w1 hM1 => ?_)
    obtain ⟨w2, b, e2, F2, -, y2⟩ := hM1.feed 0 z22 (by omega) (xs 3)
    obtain ⟨hb, q2⟩ := y2 hc
    rw [hb] at e2
    exact ⟨w2, _, _, e2, q2, rfl, F2⟩
  · obtain ⟨w1, e1, T1⟩ := hW.1 hc
    rw [e1, lw_x1, q_call, q_kI]
    exact lw_no (D := fun w => fD_feed 37 (xs 3) w) (by decide) T1 hM c1 c2 (hD 1 hc)
  · obtain ⟨w1, e1, T1⟩ := hW.2.1 hc
    rw [e1, lw_x2 (by decide), lw_x1, q_call, q_kI]
    exact lw_no (D := fun w => fD_feed 37 (xs 3) w) (by decide) T1 hM c1 c2 (hD 2 hc)
theorem one_cut (h : q_one w x y sy sp z g) : ∃ w', fL_law_833 (7, xs) k 0 37 66 2 w = k 0 37 66 (2 + 5) w' ∧ qRm w' := by
  obtain ⟨z8, z14, z20, z22, z25, z27, z30⟩ := h.z8
  obtain ⟨⟨hO, hS, h7, h8, h9, hb, hf, ht, hr, hR, -⟩, hM, hQ, -, h66, hl, c1, c2⟩ := h
  unfold fL_law_833 fL_cut
  simp only [sl1, sl2, sl3, sl4, Option.bind_some]
  have hW := qW_cut hO hf (by decide) (xs 3)
  rw [q_obj hO, Option.bind_some]
  by_cases hk : xs 3 < 0
  · obtain ⟨w1, e1, T1⟩ := hW.1 hk
    rw [e1, lw_x1, q_call, q_kI]
    refine lw_no (D := fun w => fD_cut 37 (xs 3) w) (by decide) T1 hM c1 c2 (fun w1 hM1 => ?_)
    obtain ⟨w2, b, e2, F2, n2, -⟩ := hM1.cut 0 z22 (by omega) (xs 3)
    exact ⟨w2, b, _, _, e2, n2 hk, rfl, F2⟩
  · obtain ⟨w1, e1, b1, F1⟩ := hW.2 hk
    have h661 : w1.1[66]? = some (.inl (3, 1, .inr (.inl fun _ => 0))) := F1.at h66 (by decide)
    obtain ⟨w2, g2, J2⟩ := o_J h661 (Int32.ofNat (min (xs 3).toInt.toNat ([] : List Int32).length))
    rw [e1, lw_x0, g2, Option.bind_some, q_call, q_kI]
    refine lw_yes (D := fun w => fD_cut 37 (xs 3) w) J2 (fun u u1 u2 => F1.2.1 u (by omega)) hM (by rw [F1.2.2]; omega) (fun w1 hM1 => ?_)
    obtain ⟨w2, b, e2, F2, -, y2⟩ := hM1.cut 0 z22 (by omega) (xs 3)
    obtain ⟨hb, q2⟩ := y2 hk
    rw [hb] at e2
    exact ⟨w2, _, _, e2, q2, rfl, F2⟩
end
