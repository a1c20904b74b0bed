section
variable {w0 w : PW} {r0 n0 : Nat} {tw th : Int32} {sz dp nm sy sp : Nat → Int32} {L : List Int32} {e : Value} {P : List Nat}
def m_head (sz dp : Nat → Int32) (B : List Int32) : List Int32 := m_box 1783636000 (b4 218793738) ++ (m_box 1718909296 (b4 1785737760 ++ (b4 0 ++ b4 1785737760)) ++ m_box 1785737832 (m_box 1768449138 (m_ihdr sz dp) ++ B))
theorem m_head_len (sz dp : Nat → Int32) (B : List Int32) : (m_head sz dp B).length = 62 + B.length := by
  unfold m_head
  simp [m_box_len, b4_len, m_ihdr_len]
  omega
theorem qV.headBoxes {bi bk : Nat → Int32} {ba br bn : Nat → Nat} {bL : Nat → List Int32} {bf : Nat → Nat → Int32} (h : qV w0 r0 n0 tw th sz dp nm sy sp w []) (hn1 : 1 ≤ (sz 2).toInt) (hn4 : (sz 2).toInt ≤ 4) (hl : qL w0 8 e P) (hr8 : 8 ≠ r0) (he : ∀ y : Nat, .ref y = e → y ≠ 10 ∧ y ≠ r0) (hB : qBx w0 r0 P bi bk ba br bn bL bf) : ∃ w', fWriter_headBoxes 9 1 8 w = some (.inl none, w') ∧ qV w0 r0 n0 tw th sz dp nm sy sp w' (m_head sz dp (m_mb bi bk bL 1 P.length 0)) := by
  have h40 : P.length ≤ 40 := hl.choose_spec.2.1
  unfold fWriter_headBoxes
  rw [h.O, Option.bind_some]
  obtain ⟨w1, g1, h1⟩ := h.openBox 1783636000 (by simp)
  obtain ⟨f1, o1⟩ := h1.B
  rw [g1, q_call, q_kI, h1.R, Option.bind_some, o1, Option.bind_some]
  obtain ⟨w2, g2, h2⟩ := h1.ap4 218793738 (by simp [b4_len])
  rw [g2, q_call, q_kV, h2.O, Option.bind_some]
  simp only [List.append_assoc] at h2
  obtain ⟨w3, g3, h3⟩ := h2.close
  rw [g3, q_call, q_kV, h3.O, Option.bind_some]
  rw [List.nil_append] at h3
  obtain ⟨w4, g4, h4⟩ := h3.openBox 1718909296 (by simp [m_box_len, b4_len])
  obtain ⟨f4, o4⟩ := h4.B
  rw [g4, q_call, q_kI, h4.R, Option.bind_some, o4, Option.bind_some]
  obtain ⟨w5, g5, h5⟩ := h4.ap4 1785737760 (by simp [m_box_len, b4_len])
  obtain ⟨f5, o5⟩ := h5.B
  rw [g5, q_call, q_kV, h5.R, Option.bind_some, o5, Option.bind_some]
  obtain ⟨w6, g6, h6⟩ := h5.ap4 0 (by simp [m_box_len, b4_len])
  obtain ⟨f6, o6⟩ := h6.B
  rw [g6, q_call, q_kV, h6.R, Option.bind_some, o6, Option.bind_some]
  obtain ⟨w7, g7, h7⟩ := h6.ap4 1785737760 (by simp [m_box_len, b4_len])
  rw [g7, q_call, q_kV, h7.O, Option.bind_some]
  rw [show m_box 1783636000 (b4 218793738) ++ (b4 0 ++ b4 1718909296) ++ b4 1785737760 ++ b4 0 ++ b4 1785737760 = m_box 1783636000 (b4 218793738) ++ (b4 0 ++ (b4 1718909296 ++ (b4 1785737760 ++ (b4 0 ++ b4 1785737760)))) by simp only [List.append_assoc]] at h7
  obtain ⟨w8, g8, h8⟩ := h7.close
  rw [g8, q_call, q_kV, h8.O, Option.bind_some]
  obtain ⟨w9, g9, h9⟩ := h8.openBox 1785737832 (by simp [m_box_len, b4_len])
  rw [g9, q_call, q_kI, h9.O, Option.bind_some]
  obtain ⟨wA, gA, hA⟩ := h9.picture hn1 hn4 (by simp [m_box_len, b4_len])
  rw [gA, q_call, q_kV, hA.O, Option.bind_some]
  obtain ⟨wB, gB, hB2⟩ := qV.mb2 hl hr8 he hB 1 P.length 0 FUEL wA _ hA (by show _ < 1000000; omega) (by omega) (by simp [m_box_len, b4_len, m_ihdr_len]; omega)
  unfold fWriter_madeBoxes
  rw [show fWriter_madeBoxes_2 FUEL 9 8 1 0 wA = _ from gB, q_call, q_kV, hB2.O, Option.bind_some]
  rw [show ∀ A X Y k : List Int32, A ++ (b4 0 ++ k) ++ X ++ Y = A ++ (b4 0 ++ (k ++ (X ++ Y))) from fun A X Y k => by simp only [List.append_assoc]] at hB2
  obtain ⟨wC, gC, hC⟩ := hB2.close
  rw [gC, q_call, q_kV]
  refine ⟨wC, rfl, ?_⟩
  unfold m_head
  rw [← List.append_assoc]
  exact hC
/-- the sizes -/
def m_deps (dp : Nat → Int32) : Nat → Nat → List Int32
  | 0, _ => []
  | n + 1, i => [(dp i - 1) &&& 255] ++ ([1] ++ ([1] ++ m_deps dp n (i + 1)))
theorem m_deps_len (dp : Nat → Int32) : ∀ n i, (m_deps dp n i).length = 3 * n
  | 0, _ => rfl
  | n + 1, i => by
    rw [m_deps]
    simp [m_deps_len dp n (i + 1)]
    omega
theorem qV.siz135 (hn1 : 1 ≤ (sz 2).toInt) (hn4 : (sz 2).toInt ≤ 4) : ∀ (k i F : Nat) (w : PW) (L : List Int32), qV w0 r0 n0 tw th sz dp nm sy sp w L → k < F → (i + k : Int) = (sz 2).toInt → L.length + 3 * k ≤ 20000 → ∃ w', fWriter_sizes_135 F 9 1 (sz 2) (Int32.ofNat i) w = some (.inl none, w') ∧ qV w0 r0 n0 tw th sz dp nm sy sp w' (L ++ m_deps dp k i)
  | 0, i, F + 1, w, L, h, _, hi, hL => by
    rw [fWriter_sizes_135, if_pos (by rw [q_lei, q_ofi (by omega)]; omega), m_deps, List.append_nil]
    exact ⟨w, rfl, h⟩
  | k + 1, i, F + 1, w, L, h, hF, hi, hL => by
    obtain ⟨fs, hso⟩ := h.S.obj
    obtain ⟨f0, o0⟩ := h.B
    rw [fWriter_sizes_135, if_neg (by rw [q_lei, q_ofi (by omega)]; omega), h.R, Option.bind_some, hso, Option.bind_some, h.S.valueOf 3 (-1) (Int32.ofNat i) (by decide) (by decide) (fun _ => (q_lt (m := i) (n := 4) (by omega) (by omega)).mpr (by omega)), q_call, q_kI, q_valD, q_max0 (by omega), q_tno (by omega), o0, Option.bind_some]
    obtain ⟨w1, g1, h1⟩ := h.app (dp i - 1) (by omega)
    obtain ⟨f1, o1⟩ := h1.B
    rw [g1, q_call, q_kI, h1.R, Option.bind_some, o1, Option.bind_some]
    obtain ⟨w2, g2, h2⟩ := h1.app 1 (by simp; omega)
    obtain ⟨f2, o2⟩ := h2.B
    rw [g2, q_call, q_kI, h2.R, Option.bind_some, o2, Option.bind_some]
    obtain ⟨w3, g3, h3⟩ := h2.app 1 (by simp; omega)
    rw [g3, q_call, q_kI, q_let, show Int32.ofNat i + 1 = Int32.ofNat (i + 1) from (Int32.ofNat_add i 1).symm]
    obtain ⟨w4, g4, h4⟩ := qV.siz135 hn1 hn4 k (i + 1) F w3 _ h3 (by omega) (by omega) (by simp; omega)
    refine ⟨w4, g4, ?_⟩
    rw [m_deps]
    simp only [List.append_assoc] at h4
    exact h4
def m_sizes (tw th : Int32) (sz dp : Nat → Int32) : List Int32 := [255, 81] ++ (b2 (38 + 3 * sz 2) ++ (b2 0 ++ (b4 (sz 0) ++ (b4 (sz 1) ++ (b4 0 ++ (b4 0 ++ (b4 tw ++ (b4 th ++ (b4 0 ++ (b4 0 ++ (b2 (sz 2) ++ m_deps dp (sz 2).toInt.toNat 0)))))))))))
theorem m_sizes_len (tw th : Int32) (sz dp : Nat → Int32) : (m_sizes tw th sz dp).length = 40 + 3 * (sz 2).toInt.toNat := by
  unfold m_sizes
  simp [b2_len, b4_len, m_deps_len]
  omega
theorem qV.sizes (h : qV w0 r0 n0 tw th sz dp nm sy sp w L) (hn1 : 1 ≤ (sz 2).toInt) (hn4 : (sz 2).toInt ≤ 4) (hL : L.length + 52 ≤ 20000) : ∃ w', fWriter_sizes 9 1 w = some (.inl none, w') ∧ qV w0 r0 n0 tw th sz dp nm sy sp w' (L ++ m_sizes tw th sz dp) := by
  unfold fWriter_sizes
  rw [q_getR (k := 0) h.S.1 rfl, Option.bind_some, h.S.size 2 (by decide) (by decide), Option.bind_some, show sz (2 : Int32).toNatClampNeg = sz 2 from rfl, h.O, Option.bind_some]
  obtain ⟨w1, g1, h1⟩ := h.code 81 (by omega)
  obtain ⟨f1, o1⟩ := h1.B
  rw [g1, q_call, q_kV, h1.R, Option.bind_some, o1, Option.bind_some]
  obtain ⟨w2, g2, h2⟩ := h1.ap2 (38 + 3 * sz 2) (by simp; omega)
  obtain ⟨f2, o2⟩ := h2.B
  rw [g2, q_call, q_kV, h2.R, Option.bind_some, o2, Option.bind_some]
  obtain ⟨w3, g3, h3⟩ := h2.ap2 0 (by simp [b2_len]; omega)
  obtain ⟨f3, o3⟩ := h3.B
  rw [g3, q_call, q_kV, h3.R, Option.bind_some, q_getR (k := 0) h3.S.1 rfl, Option.bind_some, h3.S.size 0 (by decide) (by decide), Option.bind_some, show sz (0 : Int32).toNatClampNeg = sz 0 from rfl, o3, Option.bind_some]
  obtain ⟨w4, g4, h4⟩ := h3.ap4 (sz 0) (by simp [b2_len]; omega)
  obtain ⟨f4, o4⟩ := h4.B
  rw [g4, q_call, q_kV, h4.R, Option.bind_some, q_getR (k := 0) h4.S.1 rfl, Option.bind_some, h4.S.size 1 (by decide) (by decide), Option.bind_some, show sz (1 : Int32).toNatClampNeg = sz 1 from rfl, o4, Option.bind_some]
  obtain ⟨w5, g5, h5⟩ := h4.ap4 (sz 1) (by simp [b2_len, b4_len]; omega)
  obtain ⟨f5, o5⟩ := h5.B
  rw [g5, q_call, q_kV, h5.R, Option.bind_some, o5, Option.bind_some]
  obtain ⟨w6, g6, h6⟩ := h5.ap4 0 (by simp [b2_len, b4_len]; omega)
  obtain ⟨f6, o6⟩ := h6.B
  rw [g6, q_call, q_kV, h6.R, Option.bind_some, o6, Option.bind_some]
  obtain ⟨w7, g7, h7⟩ := h6.ap4 0 (by simp [b2_len, b4_len]; omega)
  obtain ⟨f7, o7⟩ := h7.B
  rw [g7, q_call, q_kV, h7.R, Option.bind_some, q_getI (k := 5) h7.S.1 rfl, Option.bind_some, o7, Option.bind_some]
  obtain ⟨w8, g8, h8⟩ := h7.ap4 tw (by simp [b2_len, b4_len]; omega)
  obtain ⟨f8, o8⟩ := h8.B
  rw [g8, q_call, q_kV, h8.R, Option.bind_some, q_getI (k := 6) h8.S.1 rfl, Option.bind_some, o8, Option.bind_some]
  obtain ⟨w9, g9, h9⟩ := h8.ap4 th (by simp [b2_len, b4_len]; omega)
  obtain ⟨f9, o9⟩ := h9.B
  rw [g9, q_call, q_kV, h9.R, Option.bind_some, o9, Option.bind_some]
  obtain ⟨wA, gA, hA⟩ := h9.ap4 0 (by simp [b2_len, b4_len]; omega)
  obtain ⟨fA, oA⟩ := hA.B
  rw [gA, q_call, q_kV, hA.R, Option.bind_some, oA, Option.bind_some]
  obtain ⟨wB, gB, hB⟩ := hA.ap4 0 (by simp [b2_len, b4_len]; omega)
  obtain ⟨fB, oB⟩ := hB.B
  rw [gB, q_call, q_kV, hB.R, Option.bind_some, oB, Option.bind_some]
  obtain ⟨wC, gC, hC⟩ := hB.ap2 (sz 2) (by simp [b2_len, b4_len]; omega)
  rw [gC, q_call, q_kV]
  obtain ⟨wD, gD, hD⟩ := qV.siz135 hn1 hn4 (sz 2).toInt.toNat 0 FUEL wC _ hC (by show _ < 1000000; omega) (by omega) (by simp only [List.length_append, b2_len, b4_len, List.length_cons, List.length_nil]; omega)
  refine ⟨wD, gD, ?_⟩
  unfold m_sizes
  simp only [List.append_assoc] at hD
  exact hD
/-- segments -/
def m_v (nm sy sp : Nat → Int32) (what t c : Int32) : Int32 := nm (q_fc (if 9 ≤ what then sp else sy) t (if what = 4 ∨ what = 5 then -1 else c) * 7 + what - 4).toNatClampNeg
theorem m_v_val (what t c : Int32) (h : 4 ≤ what) : q_val sz dp nm sy sp what t c = m_v nm sy sp what t c := by
  unfold q_val m_v
  rw [if_neg (by grind), if_neg (by grind)]
def m_sty88 (nm sy sp : Nat → Int32) (t c : Int32) : List Int32 := [0] ++ ([m_v nm sy sp 6 t c &&& 255] ++ ([(m_v nm sy sp 7 t c - 2) &&& 255] ++ ([(m_v nm sy sp 7 t c - 2) &&& 255] ++ ([0] ++ [m_v nm sy sp 8 t c &&& 255]))))
theorem qV.sty88 (h : qV w0 r0 n0 tw th sz dp nm sy sp w L) (t c : Int32) (hL : L.length + 6 ≤ 20000) : ∃ w', fWriter_style_88 9 1 t c w = some (.inl none, w') ∧ qV w0 r0 n0 tw th sz dp nm sy sp w' (L ++ m_sty88 nm sy sp t c) := by
  unfold fWriter_style_88
  have vo : ∀ (w' : PW) (L' : List Int32) (h' : qV w0 r0 n0 tw th sz dp nm sy sp w' L') (what : Int32), 4 ≤ what → what ≤ 10 → fSettings_valueOf 1 what t c w' = some (.inl (some (.int (m_v nm sy sp what t c))), w') := fun w' L' h' what k1 k2 => by
    rw [h'.S.valueOf what t c (by grind) k2 (fun e => by rw [e] at k1; exact absurd k1 (by decide)), m_v_val what t c k1]
  obtain ⟨fs, so⟩ := h.S.obj
  obtain ⟨f0, o0⟩ := h.B
  rw [so, Option.bind_some, vo w L h 7 (by decide) (by decide), q_call, q_kI, q_let, h.R, Option.bind_some, o0, Option.bind_some]
  obtain ⟨w1, g1, h1⟩ := h.app 0 (by omega)
  obtain ⟨s1, so1⟩ := h1.S.obj
  obtain ⟨f1, o1⟩ := h1.B
  rw [g1, q_call, q_kI, h1.R, Option.bind_some, so1, Option.bind_some, vo w1 _ h1 6 (by decide) (by decide), q_call, q_kI, o1, Option.bind_some]
  obtain ⟨w2, g2, h2⟩ := h1.app (m_v nm sy sp 6 t c) (by simp; omega)
  obtain ⟨f2, o2⟩ := h2.B
  rw [g2, q_call, q_kI, h2.R, Option.bind_some, o2, Option.bind_some]
  obtain ⟨w3, g3, h3⟩ := h2.app (m_v nm sy sp 7 t c - 2) (by simp; omega)
  obtain ⟨f3, o3⟩ := h3.B
  rw [g3, q_call, q_kI, h3.R, Option.bind_some, o3, Option.bind_some]
  obtain ⟨w4, g4, h4⟩ := h3.app (m_v nm sy sp 7 t c - 2) (by simp; omega)
  obtain ⟨f4, o4⟩ := h4.B
  rw [g4, q_call, q_kI, h4.R, Option.bind_some, o4, Option.bind_some]
  obtain ⟨w5, g5, h5⟩ := h4.app 0 (by simp; omega)
  obtain ⟨s5, so5⟩ := h5.S.obj
  obtain ⟨f5, o5⟩ := h5.B
  rw [g5, q_call, q_kI, h5.R, Option.bind_some, so5, Option.bind_some, vo w5 _ h5 8 (by decide) (by decide), q_call, q_kI, o5, Option.bind_some]
  obtain ⟨w6, g6, h6⟩ := h5.app (m_v nm sy sp 8 t c) (by simp; omega)
  rw [g6, q_call, q_kI]
  refine ⟨w6, rfl, ?_⟩
  unfold m_sty88
  simp only [List.append_assoc] at h6
  exact h6
def m_style (nm sy sp : Nat → Int32) (t c : Int32) : List Int32 := if c = -1 then [255, 82] ++ (b2 12 ++ ([0] ++ ([m_v nm sy sp 4 t (-1) &&& 255] ++ (b2 (m_v nm sy sp 5 t (-1)) ++ m_sty88 nm sy sp t c)))) else [255, 83] ++ (b2 9 ++ ([c &&& 255] ++ m_sty88 nm sy sp t c))
theorem m_style_len (t c : Int32) : (m_style nm sy sp t c).length ≤ 14 := by
  unfold m_style
  split <;> simp [b2_len, m_sty88]
theorem qV.style (h : qV w0 r0 n0 tw th sz dp nm sy sp w L) (t c : Int32) (hL : L.length + 14 ≤ 20000) : ∃ w', fWriter_style 9 1 t c w = some (.inl none, w') ∧ qV w0 r0 n0 tw th sz dp nm sy sp w' (L ++ m_style nm sy sp t c) := by
  unfold fWriter_style m_style
  have vo : ∀ (w' : PW) (L' : List Int32) (h' : qV w0 r0 n0 tw th sz dp nm sy sp w' L') (what c' : Int32), 4 ≤ what → what ≤ 10 → fSettings_valueOf 1 what t c' w' = some (.inl (some (.int (m_v nm sy sp what t c'))), w') := fun w' L' h' what c' k1 k2 => by
    rw [h'.S.valueOf what t c' (by grind) k2 (fun e => by rw [e] at k1; exact absurd k1 (by decide)), m_v_val what t c' k1]
  by_cases hc : c = -1
  · rw [if_neg (not_not_intro hc), if_pos hc, h.O, Option.bind_some]
    obtain ⟨w1, g1, h1⟩ := h.code 82 (by omega)
    obtain ⟨f1, o1⟩ := h1.B
    rw [g1, q_call, q_kV, h1.R, Option.bind_some, o1, Option.bind_some]
    obtain ⟨w2, g2, h2⟩ := h1.ap2 12 (by simp; omega)
    obtain ⟨f2, o2⟩ := h2.B
    rw [g2, q_call, q_kV, h2.R, Option.bind_some, o2, Option.bind_some]
    obtain ⟨w3, g3, h3⟩ := h2.app 0 (by simp [b2_len]; omega)
    obtain ⟨s3, so3⟩ := h3.S.obj
    obtain ⟨f3, o3⟩ := h3.B
    rw [g3, q_call, q_kI, h3.R, Option.bind_some, so3, Option.bind_some, vo w3 _ h3 4 (-1) (by decide) (by decide), q_call, q_kI, o3, Option.bind_some]
    obtain ⟨w4, g4, h4⟩ := h3.app (m_v nm sy sp 4 t (-1)) (by simp [b2_len]; omega)
    obtain ⟨s4, so4⟩ := h4.S.obj
    obtain ⟨f4, o4⟩ := h4.B
    rw [g4, q_call, q_kI, h4.R, Option.bind_some, so4, Option.bind_some, vo w4 _ h4 5 (-1) (by decide) (by decide), q_call, q_kI, o4, Option.bind_some]
    obtain ⟨w5, g5, h5⟩ := h4.ap2 (m_v nm sy sp 5 t (-1)) (by simp [b2_len]; omega)
    rw [g5, q_call, q_kV]
    obtain ⟨w6, g6, h6⟩ := h5.sty88 t c (by simp [b2_len]; omega)
    refine ⟨w6, g6, ?_⟩
    simp only [List.append_assoc] at h6
    exact h6
  · rw [if_pos hc, if_neg hc, h.O, Option.bind_some]
    obtain ⟨w1, g1, h1⟩ := h.code 83 (by omega)
    obtain ⟨f1, o1⟩ := h1.B
    rw [g1, q_call, q_kV, h1.R, Option.bind_some, o1, Option.bind_some]
    obtain ⟨w2, g2, h2⟩ := h1.ap2 9 (by simp; omega)
    obtain ⟨f2, o2⟩ := h2.B
    rw [g2, q_call, q_kV, h2.R, Option.bind_some, o2, Option.bind_some]
    obtain ⟨w3, g3, h3⟩ := h2.app c (by simp [b2_len]; omega)
    rw [g3, q_call, q_kI]
    obtain ⟨w6, g6, h6⟩ := h3.sty88 t c (by simp [b2_len]; omega)
    refine ⟨w6, g6, ?_⟩
    simp only [List.append_assoc] at h6
    exact h6
def m_stp48 (nm sy sp : Nat → Int32) (t c : Int32) : List Int32 := [(32 * m_v nm sy sp 10 t c + 1) &&& 255] ++ b2 (2048 * m_v nm sy sp 9 t c)
theorem qV.stp48 (h : qV w0 r0 n0 tw th sz dp nm sy sp w L) (t c : Int32) (hL : L.length + 3 ≤ 20000) : ∃ w', fWriter_step_48 9 1 t c w = some (.inl none, w') ∧ qV w0 r0 n0 tw th sz dp nm sy sp w' (L ++ m_stp48 nm sy sp t c) := by
  unfold fWriter_step_48
  have vo : ∀ (w' : PW) (L' : List Int32) (h' : qV w0 r0 n0 tw th sz dp nm sy sp w' L') (what : Int32), 4 ≤ what → what ≤ 10 → fSettings_valueOf 1 what t c w' = some (.inl (some (.int (m_v nm sy sp what t c))), w') := fun w' L' h' what k1 k2 => by
    rw [h'.S.valueOf what t c (by grind) k2 (fun e => by rw [e] at k1; exact absurd k1 (by decide)), m_v_val what t c k1]
  obtain ⟨fs, so⟩ := h.S.obj
  obtain ⟨f0, o0⟩ := h.B
  rw [h.R, Option.bind_some, so, Option.bind_some, vo w L h 10 (by decide) (by decide), q_call, q_kI, o0, Option.bind_some]
  obtain ⟨w1, g1, h1⟩ := h.app (32 * m_v nm sy sp 10 t c + 1) (by omega)
  obtain ⟨s1, so1⟩ := h1.S.obj
  obtain ⟨f1, o1⟩ := h1.B
  rw [g1, q_call, q_kI, h1.R, Option.bind_some, so1, Option.bind_some, vo w1 _ h1 9 (by decide) (by decide), q_call, q_kI, o1, Option.bind_some]
  obtain ⟨w2, g2, h2⟩ := h1.ap2 (2048 * m_v nm sy sp 9 t c) (by simp; omega)
  rw [g2, q_call, q_kV]
  refine ⟨w2, rfl, ?_⟩
  unfold m_stp48
  simp only [List.append_assoc] at h2
  exact h2
def m_step (nm sy sp : Nat → Int32) (t c : Int32) : List Int32 := if c = -1 then [255, 92] ++ (b2 5 ++ m_stp48 nm sy sp t c) else [255, 93] ++ (b2 6 ++ ([c &&& 255] ++ m_stp48 nm sy sp t c))
theorem m_step_len (t c : Int32) : (m_step nm sy sp t c).length ≤ 8 := by
  unfold m_step
  split <;> simp [b2_len, m_stp48]
theorem qV.step (h : qV w0 r0 n0 tw th sz dp nm sy sp w L) (t c : Int32) (hL : L.length + 8 ≤ 20000) : ∃ w', fWriter_step 9 1 t c w = some (.inl none, w') ∧ qV w0 r0 n0 tw th sz dp nm sy sp w' (L ++ m_step nm sy sp t c) := by
  unfold fWriter_step m_step
  by_cases hc : c = -1
  · rw [if_neg (not_not_intro hc), if_pos hc, h.O, Option.bind_some]
    obtain ⟨w1, g1, h1⟩ := h.code 92 (by omega)
    obtain ⟨f1, o1⟩ := h1.B
    rw [g1, q_call, q_kV, h1.R, Option.bind_some, o1, Option.bind_some]
    obtain ⟨w2, g2, h2⟩ := h1.ap2 5 (by simp; omega)
    rw [g2, q_call, q_kV]
    obtain ⟨w6, g6, h6⟩ := h2.stp48 t c (by simp [b2_len]; omega)
    refine ⟨w6, g6, ?_⟩
    simp only [List.append_assoc] at h6
    exact h6
  · rw [if_pos hc, if_neg hc, h.O, Option.bind_some]
    obtain ⟨w1, g1, h1⟩ := h.code 93 (by omega)
    obtain ⟨f1, o1⟩ := h1.B
    rw [g1, q_call, q_kV, h1.R, Option.bind_some, o1, Option.bind_some]
    obtain ⟨w2, g2, h2⟩ := h1.ap2 6 (by simp; omega)
    obtain ⟨f2, o2⟩ := h2.B
    rw [g2, q_call, q_kV, h2.R, Option.bind_some, o2, Option.bind_some]
    obtain ⟨w3, g3, h3⟩ := h2.app c (by simp [b2_len]; omega)
    rw [g3, q_call, q_kI]
    obtain ⟨w6, g6, h6⟩ := h3.stp48 t c (by simp [b2_len]; omega)
    refine ⟨w6, g6, ?_⟩
    simp only [List.append_assoc] at h6
    exact h6
def m_stps (nm sy sp : Nat → Int32) (t : Int32) : Nat → Int32 → List Int32
  | 0, _ => []
  | n + 1, c => (if sp (q_slot t c).toNatClampNeg = 0 then [] else m_step nm sy sp t c) ++ m_stps nm sy sp t n (c + 1)
def m_stys (nm sy sp : Nat → Int32) (t : Int32) : Nat → Int32 → List Int32
  | 0, _ => []
  | n + 1, c => (if sy (q_slot t c).toNatClampNeg = 0 then [] else m_style nm sy sp t c) ++ m_stys nm sy sp t n (c + 1)
theorem m_stps_len (t : Int32) : ∀ n c, (m_stps nm sy sp t n c).length ≤ 8 * n
  | 0, _ => Nat.le_refl _
  | n + 1, c => by
    rw [m_stps, List.length_append]
    have := m_stps_len t n (c + 1)
    have := m_step_len (nm := nm) (sy := sy) (sp := sp) t c
    split <;> (try simp) <;> omega
theorem m_stys_len (t : Int32) : ∀ n c, (m_stys nm sy sp t n c).length ≤ 14 * n
  | 0, _ => Nat.le_refl _
  | n + 1, c => by
    rw [m_stys, List.length_append]
    have := m_stys_len t n (c + 1)
    have := m_style_len (nm := nm) (sy := sy) (sp := sp) t c
    split <;> (try simp) <;> omega
theorem qV.seg36 (hn4 : (sz 2).toInt ≤ 4) (t : Int32) : ∀ (k : Nat) (c : Int32) (F : Nat) (w : PW) (L : List Int32), qV w0 r0 n0 tw th sz dp nm sy sp w L → k < F → c.toInt + k = (sz 2).toInt → L.length + 8 * k ≤ 20000 → ∃ w', fWriter_segments_36 F 9 1 t c w = some (.inl none, w') ∧ qV w0 r0 n0 tw th sz dp nm sy sp w' (L ++ m_stps nm sy sp t k c)
  | 0, c, F + 1, w, L, h, _, hi, hL => by
    rw [fWriter_segments_36, q_getR (k := 0) h.S.1 rfl, Option.bind_some, h.S.size 2 (by decide) (by decide), Option.bind_some, if_pos (by rw [q_lei]; show (sz 2).toInt ≤ _; omega), m_stps, List.append_nil]
    exact ⟨w, rfl, h⟩
  | k + 1, c, F + 1, w, L, h, hF, hi, hL => by
    obtain ⟨fs, hso⟩ := h.S.obj
    have e1 := q_suc (k := c) (by omega)
    rw [fWriter_segments_36, q_getR (k := 0) h.S.1 rfl, Option.bind_some, h.S.size 2 (by decide) (by decide), Option.bind_some, if_neg (by rw [q_lei]; show ¬ (sz 2).toInt ≤ _; omega), hso, Option.bind_some, h.S.hasStep, q_call, q_kI, m_stps]
    simp only [q_let]
    by_cases hb : sp (q_slot t c).toNatClampNeg = 0
    · rw [if_pos hb, if_pos hb, List.nil_append]
      exact qV.seg36 hn4 t k (c + 1) F w L h (by omega) (by omega) (by omega)
    · rw [if_neg hb, if_neg hb, h.O, Option.bind_some]
      obtain ⟨w1, g1, h1⟩ := h.step t c (by omega)
      have := m_step_len (nm := nm) (sy := sy) (sp := sp) t c
      rw [g1, q_call, q_kV]
      obtain ⟨w2, g2, h2⟩ := qV.seg36 hn4 t k (c + 1) F w1 _ h1 (by omega) (by omega) (by simp; omega)
      rw [List.append_assoc] at h2
      exact ⟨w2, g2, h2⟩
def m_segs (many : Int) (nm sy sp : Nat → Int32) (t : Int32) : List Int32 := m_stys nm sy sp t (many.toNat + 1) (-1) ++ m_stps nm sy sp t (many.toNat + 1) (-1)
theorem m_segs_len (many : Int) (h : many ≤ 4) (t : Int32) : (m_segs many nm sy sp t).length ≤ 110 := by
  unfold m_segs
  rw [List.length_append]
  have := m_stys_len (nm := nm) (sy := sy) (sp := sp) t (many.toNat + 1) (-1)
  have := m_stps_len (nm := nm) (sy := sy) (sp := sp) t (many.toNat + 1) (-1)
  omega
theorem qV.seg2 (hn1 : 1 ≤ (sz 2).toInt) (hn4 : (sz 2).toInt ≤ 4) (t : Int32) : ∀ (k : Nat) (c : Int32) (F : Nat) (w : PW) (L : List Int32), qV w0 r0 n0 tw th sz dp nm sy sp w L → k < F → c.toInt + k = (sz 2).toInt → L.length + 14 * k + 40 ≤ 20000 → ∃ w', fWriter_segments_2 F 9 1 t c w = some (.inl none, w') ∧ qV w0 r0 n0 tw th sz dp nm sy sp w' (L ++ (m_stys nm sy sp t k c ++ m_stps nm sy sp t ((sz 2).toInt.toNat + 1) (-1)))
  | 0, c, F + 1, w, L, h, _, hi, hL => by
    rw [fWriter_segments_2, q_getR (k := 0) h.S.1 rfl, Option.bind_some, h.S.size 2 (by decide) (by decide), Option.bind_some, if_pos (by rw [q_lei]; show (sz 2).toInt ≤ _; omega), m_stys, List.nil_append]
    have em : (-1 : Int32).toInt = -1 := rfl
    exact qV.seg36 hn4 t ((sz 2).toInt.toNat + 1) (-1) FUEL w L h (by show _ < 1000000; omega) (by omega) (by omega)
  | k + 1, c, F + 1, w, L, h, hF, hi, hL => by
    obtain ⟨fs, hso⟩ := h.S.obj
    have e1 := q_suc (k := c) (by omega)
    rw [fWriter_segments_2, q_getR (k := 0) h.S.1 rfl, Option.bind_some, h.S.size 2 (by decide) (by decide), Option.bind_some, if_neg (by rw [q_lei]; show ¬ (sz 2).toInt ≤ _; omega), hso, Option.bind_some, h.S.hasStyle, q_call, q_kI, m_stys]
    simp only [q_let]
    by_cases hb : sy (q_slot t c).toNatClampNeg = 0
    · rw [if_pos hb, if_pos hb, List.nil_append]
      exact qV.seg2 hn1 hn4 t k (c + 1) F w L h (by omega) (by omega) (by omega)
    · rw [if_neg hb, if_neg hb, h.O, Option.bind_some]
      obtain ⟨w1, g1, h1⟩ := h.style t c (by omega)
      have := m_style_len (nm := nm) (sy := sy) (sp := sp) t c
      rw [g1, q_call, q_kV]
      obtain ⟨w2, g2, h2⟩ := qV.seg2 hn1 hn4 t k (c + 1) F w1 _ h1 (by omega) (by omega) (by simp; omega)
      rw [List.append_assoc] at h2
      rw [List.append_assoc]
      exact ⟨w2, g2, h2⟩
theorem qV.segments (h : qV w0 r0 n0 tw th sz dp nm sy sp w L) (hn1 : 1 ≤ (sz 2).toInt) (hn4 : (sz 2).toInt ≤ 4) (t : Int32) (hL : L.length + 110 ≤ 20000) : ∃ w', fWriter_segments 9 1 t w = some (.inl none, w') ∧ qV w0 r0 n0 tw th sz dp nm sy sp w' (L ++ m_segs (sz 2).toInt nm sy sp t) := by
  have em : (-1 : Int32).toInt = -1 := rfl
  exact qV.seg2 hn1 hn4 t ((sz 2).toInt.toNat + 1) (-1) FUEL w L h (by show _ < 1000000; omega) (by omega) (by omega)
end
