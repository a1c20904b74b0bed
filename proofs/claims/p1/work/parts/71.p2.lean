section
variable {w0 w : PW} {z0 : Nat → Int32} {g0 : Nat → Nat → Int32} {F : List Int32} {tw th : Int32} {sz dp nm sy sp : Nat → Int32}
theorem qU.siz (h : qU w0 z0 g0 w F) (k : qR tw th sz dp nm sy sp g0) : p_ald w 42 0 0 = some (sz 0) ∧ p_ald w 42 0 1 = some (sz 1) ∧ p_ald w 42 0 2 = some (sz 2) ∧ p_ald w 42 0 3 = some tw ∧ p_ald w 42 0 4 = some th := by
  obtain ⟨a0, a1, a2, a3, a4⟩ := k.1
  exact ⟨by rw [a0]; exact h.size 0 (by omega), by rw [a1]; exact h.size 1 (by omega), by rw [a2]; exact h.size 2 (by omega), by rw [a3]; exact h.size 3 (by omega), by rw [a4]; exact h.size 4 (by omega)⟩
theorem qU.dep (h : qU w0 z0 g0 w F) (k : qR tw th sz dp nm sy sp g0) (i : Nat) (hi : i < 4) : p_ald w 41 0 (Int32.ofNat i) = some (dp i) := by
  rw [k.2.1 i hi]
  exact h.ld 41 0 i rfl (by omega) (by omega) (by show i < 8; omega) (by decide) (by decide)
theorem qU.h114 (k : qR tw th sz dp nm sy sp g0) (inn : Int32) : ∀ (n i Fu : Nat) (d : Int32) (w : PW) (F : List Int32), qU w0 z0 g0 w F → n < Fu → (i + n : Int) = (sz 2).toInt → F.length + 30 ≤ 40000 → ∃ w', fD_layHeads_114 Fu 37 inn d (Int32.ofNat i) w = some (.inl none, w') ∧ qU w0 z0 g0 w' (F ++ (b4 inn ++ (b4 1785737832 ++ (b4 22 ++ (b4 1768449138 ++ (b4 (sz 1) ++ (b4 (sz 0) ++ (b2 (sz 2) ++ ([(m_deep dp n i d - 1) &&& 255] ++ ([7] ++ ([0] ++ [0])))))))))))
  | 0, i, Fu + 1, d, w, F, h, _, hi, hF => by
    obtain ⟨-, -, s2, -⟩ := h.siz k
    obtain ⟨f0, o0⟩ := h.O
    have hn4 := k.2.2.2.2.1
    rw [fD_layHeads_114, h.R 7 42 (fun _ => rfl), Option.bind_some, s2, Option.bind_some, if_pos (by rw [q_lei, q_ofi (by omega)]; omega), o0, Option.bind_some, m_deep]
    obtain ⟨w1, g1, h1⟩ := h.layFour inn (by omega)
    obtain ⟨f1, o1⟩ := h1.O
    rw [g1, q_call, q_kV, o1, Option.bind_some]
    obtain ⟨w2, g2, h2⟩ := h1.layFour 1785737832 (by simp [b4_len]; omega)
    obtain ⟨f2, o2⟩ := h2.O
    rw [g2, q_call, q_kV, o2, Option.bind_some]
    obtain ⟨w3, g3, h3⟩ := h2.layFour 22 (by simp [b4_len]; omega)
    obtain ⟨f3, o3⟩ := h3.O
    rw [g3, q_call, q_kV, o3, Option.bind_some]
    obtain ⟨w4, g4, h4⟩ := h3.layFour 1768449138 (by simp [b4_len]; omega)
    obtain ⟨f4, o4⟩ := h4.O
    obtain ⟨-, t4, -⟩ := h4.siz k
    rw [g4, q_call, q_kV, h4.R 7 42 (fun _ => rfl), Option.bind_some, t4, Option.bind_some, o4, Option.bind_some]
    obtain ⟨w5, g5, h5⟩ := h4.layFour (sz 1) (by simp [b4_len]; omega)
    obtain ⟨f5, o5⟩ := h5.O
    obtain ⟨t5, -⟩ := h5.siz k
    rw [g5, q_call, q_kV, h5.R 7 42 (fun _ => rfl), Option.bind_some, t5, Option.bind_some, o5, Option.bind_some]
    obtain ⟨w6, g6, h6⟩ := h5.layFour (sz 0) (by simp [b4_len]; omega)
    obtain ⟨f6, o6⟩ := h6.O
    obtain ⟨-, -, t6, -⟩ := h6.siz k
    rw [g6, q_call, q_kV, h6.R 7 42 (fun _ => rfl), Option.bind_some, t6, Option.bind_some, o6, Option.bind_some]
    obtain ⟨w7, g7, h7⟩ := h6.layTwo (sz 2) (by simp [b4_len]; omega)
    obtain ⟨f7, o7⟩ := h7.O
    rw [g7, q_call, q_kV, o7, Option.bind_some]
    obtain ⟨w8, g8, h8⟩ := h7.lay (d - 1) (by simp [b4_len, b2_len]; omega)
    obtain ⟨f8, o8⟩ := h8.O
    rw [g8, q_call, q_kV, o8, Option.bind_some]
    obtain ⟨w9, g9, h9⟩ := h8.lay 7 (by simp [b4_len, b2_len]; omega)
    obtain ⟨f9, o9⟩ := h9.O
    rw [g9, q_call, q_kV, o9, Option.bind_some]
    obtain ⟨wA, gA, hA⟩ := h9.lay 0 (by simp [b4_len, b2_len]; omega)
    obtain ⟨fA, oA⟩ := hA.O
    rw [gA, q_call, q_kV, oA, Option.bind_some]
    obtain ⟨wB, gB, hB⟩ := hA.lay 0 (by simp [b4_len, b2_len]; omega)
    rw [gB, q_call, q_kV]
    refine ⟨wB, rfl, ?_⟩
    simp only [List.append_assoc] at hB
    exact hB
  | n + 1, i, Fu + 1, d, w, F, h, hFu, hi, hF => by
    obtain ⟨-, -, s2, -⟩ := h.siz k
    have hn4 := k.2.2.2.2.1
    have e1 : Int32.ofNat i + 1 = Int32.ofNat (i + 1) := (Int32.ofNat_add i 1).symm
    have dd := h.dep k i (by omega)
    rw [fD_layHeads_114, h.R 7 42 (fun _ => rfl), Option.bind_some, s2, Option.bind_some, if_neg (by rw [q_lei, q_ofi (by omega)]; omega), h.R 6 41 (fun _ => rfl), Option.bind_some, dd, Option.bind_some, Option.bind_some, m_deep]
    simp only [q_let, dd, Option.bind_some]
    rw [e1]
    have em : (if dp i ≤ d then d else dp i) = p_max d (dp i) := by
      unfold p_max
      grind
    obtain ⟨w', g', h'⟩ := qU.h114 k inn n (i + 1) Fu (p_max d (dp i)) w F h (by omega) (by omega) hF
    refine ⟨w', ?_, h'⟩
    rw [← g', ← em]
    split <;> rfl
theorem m_deep_le {dp : Nat → Int32} : ∀ (n i : Nat) (a b : Int32), (1 ≤ n → p_max a (dp i) = p_max b (dp i)) → (n = 0 → a = b) → m_deep dp n i a = m_deep dp n i b
  | 0, i, a, b, _, h => by rw [h rfl]
  | n + 1, i, a, b, h, _ => by rw [m_deep, m_deep, h (by omega)]
/-- heads of a file without boxes -/
theorem qU.heads0 (h : qU w0 z0 g0 w []) (k : qR tw th sz dp nm sy sp g0) (hz : z0 14 = 0) (hd : ∀ i, i < 4 → 1 ≤ (dp i).toInt) : ∃ w', fD_layHeads 37 w = some (.inl none, w') ∧ qU w0 z0 g0 w' (m_head sz dp []) := by
  unfold fD_layHeads
  have hn4 := k.2.2.2.2.1
  obtain ⟨f0, o0⟩ := h.O
  rw [o0, Option.bind_some]
  obtain ⟨w1, g1, h1⟩ := h.layFour 12 (by simp)
  obtain ⟨f1, o1⟩ := h1.O
  rw [g1, q_call, q_kV, o1, Option.bind_some]
  obtain ⟨w2, g2, h2⟩ := h1.layFour 1783636000 (by simp [b4_len])
  obtain ⟨f2, o2⟩ := h2.O
  rw [g2, q_call, q_kV, o2, Option.bind_some]
  obtain ⟨w3, g3, h3⟩ := h2.lay 13 (by simp [b4_len])
  obtain ⟨f3, o3⟩ := h3.O
  rw [g3, q_call, q_kV, o3, Option.bind_some]
  obtain ⟨w4, g4, h4⟩ := h3.lay 10 (by simp [b4_len])
  obtain ⟨f4, o4⟩ := h4.O
  rw [g4, q_call, q_kV, o4, Option.bind_some]
  obtain ⟨w5, g5, h5⟩ := h4.lay 135 (by simp [b4_len])
  obtain ⟨f5, o5⟩ := h5.O
  rw [g5, q_call, q_kV, o5, Option.bind_some]
  obtain ⟨w6, g6, h6⟩ := h5.lay 10 (by simp [b4_len])
  obtain ⟨f6, o6⟩ := h6.O
  rw [g6, q_call, q_kV, o6, Option.bind_some]
  obtain ⟨w7, g7, h7⟩ := h6.layFour 20 (by simp [b4_len])
  obtain ⟨f7, o7⟩ := h7.O
  rw [g7, q_call, q_kV, o7, Option.bind_some]
  obtain ⟨w8, g8, h8⟩ := h7.layFour 1718909296 (by simp [b4_len])
  obtain ⟨f8, o8⟩ := h8.O
  rw [g8, q_call, q_kV, o8, Option.bind_some]
  obtain ⟨w9, g9, h9⟩ := h8.layFour 1785737760 (by simp [b4_len])
  obtain ⟨f9, o9⟩ := h9.O
  rw [g9, q_call, q_kV, o9, Option.bind_some]
  obtain ⟨wA, gA, hA⟩ := h9.layFour 0 (by simp [b4_len])
  obtain ⟨fA, oA⟩ := hA.O
  rw [gA, q_call, q_kV, oA, Option.bind_some]
  obtain ⟨wB, gB, hB⟩ := hA.layFour 1785737760 (by simp [b4_len])
  rw [gB, q_call, q_kV, show FUEL = 999999 + 1 from rfl, fD_layHeads_73, hB.I 14 (fun _ => rfl) (by decide), Option.bind_some, hz, if_pos (by decide)]
  obtain ⟨wC, gC, hC⟩ := qU.h114 k 30 (sz 2).toInt.toNat 0 FUEL 0 wB _ hB (by show _ < 1000000; omega) (by omega) (by simp [b4_len])
  refine ⟨wC, gC, ?_⟩
  have e1 : m_deep dp (sz 2).toInt.toNat 0 0 = m_deep dp (sz 2).toInt.toNat 0 1 := by
    refine m_deep_le _ _ _ _ (fun _ => ?_) (fun hh => by omega)
    have h8 := hd 0 (by omega)
    have e0' : (0 : Int32).toInt = 0 := rfl
    have e1' : (1 : Int32).toInt = 1 := rfl
    unfold p_max
    by_cases hq : (1 : Int32) < dp 0
    · rw [if_pos hq, if_pos (by rw [q_lti] at *; omega)]
    · rw [if_neg hq, if_pos (by rw [q_lti]; omega)]
      apply q_i32
      rw [q_lti] at hq
      omega
  rw [e1] at hC
  have e2 : [] ++ b4 12 ++ b4 1783636000 ++ [(13 : Int32) &&& 255] ++ [(10 : Int32) &&& 255] ++ [(135 : Int32) &&& 255] ++ [(10 : Int32) &&& 255] ++ b4 20 ++ b4 1718909296 ++ b4 1785737760 ++ b4 0 ++ b4 1785737760 = m_box 1783636000 (b4 218793738) ++ m_box 1718909296 (b4 1785737760 ++ (b4 0 ++ b4 1785737760)) := by decide
  rw [e2, List.append_assoc] at hC
  unfold m_head m_box m_ihdr
  have e3 : ([0] ++ [0] : List Int32) = b2 0 := by decide
  rw [e3] at hC
  unfold m_box at hC
  simp only [List.append_assoc, List.append_nil] at hC ⊢
  exact hC
/-- the stream without parts -/
theorem qU.st107 (k : qR tw th sz dp nm sy sp g0) (hz : z0 8 = 0) : ∀ (n i Fu : Nat) (w : PW) (F : List Int32), qU w0 z0 g0 w F → n < Fu → (i + n : Int) = (sz 2).toInt → F.length + 3 * n + 120 ≤ 40000 → ∃ w', fD_layStream_107 Fu 37 (Int32.ofNat i) w = some (.inl none, w') ∧ qU w0 z0 g0 w' (F ++ (m_deps dp n i ++ (m_segs (sz 2).toInt nm sy sp (-1) ++ [255, 217])))
  | 0, i, Fu + 1, w, F, h, _, hi, hF => by
    obtain ⟨-, -, s2, -⟩ := h.siz k
    obtain ⟨f0, o0⟩ := h.O
    have hn4 := k.2.2.2.2.1
    have hml := m_segs_len (nm := nm) (sy := sy) (sp := sp) (sz 2).toInt (by omega) (-1)
    rw [fD_layStream_107, h.R 7 42 (fun _ => rfl), Option.bind_some, s2, Option.bind_some, if_pos (by rw [q_lei, q_ofi (by omega)]; omega), o0, Option.bind_some, m_deps, List.nil_append]
    obtain ⟨w1, g1, h1⟩ := h.segments k (t := -1) (by decide) (by decide) (by omega)
    obtain ⟨f1, o1⟩ := h1.O
    rw [g1, q_call, q_kV, show FUEL = 999999 + 1 from rfl, fD_layStream_152, h1.I 8 (fun _ => rfl) (by decide), Option.bind_some, hz, if_pos (by decide), o1, Option.bind_some]
    obtain ⟨w2, g2, h2⟩ := h1.lay 255 (by simp; omega)
    obtain ⟨f2, o2⟩ := h2.O
    rw [g2, q_call, q_kV, o2, Option.bind_some]
    obtain ⟨w3, g3, h3⟩ := h2.lay 217 (by simp; omega)
    rw [g3, q_call, q_kV]
    refine ⟨w3, rfl, ?_⟩
    simp only [List.append_assoc] at h3
    exact h3
  | n + 1, i, Fu + 1, w, F, h, hFu, hi, hF => by
    obtain ⟨-, -, s2, -⟩ := h.siz k
    obtain ⟨f0, o0⟩ := h.O
    have hn4 := k.2.2.2.2.1
    have e1 : Int32.ofNat i + 1 = Int32.ofNat (i + 1) := (Int32.ofNat_add i 1).symm
    rw [fD_layStream_107, h.R 7 42 (fun _ => rfl), Option.bind_some, s2, Option.bind_some, if_neg (by rw [q_lei, q_ofi (by omega)]; omega), h.R 6 41 (fun _ => rfl), Option.bind_some, h.dep k i (by omega), Option.bind_some, o0, Option.bind_some]
    obtain ⟨w1, g1, h1⟩ := h.lay (dp i - 1) (by omega)
    obtain ⟨f1, o1⟩ := h1.O
    rw [g1, q_call, q_kV, o1, Option.bind_some]
    obtain ⟨w2, g2, h2⟩ := h1.lay 1 (by simp; omega)
    obtain ⟨f2, o2⟩ := h2.O
    rw [g2, q_call, q_kV, o2, Option.bind_some]
    obtain ⟨w3, g3, h3⟩ := h2.lay 1 (by simp; omega)
    rw [g3, q_call, q_kV, q_let, e1]
    obtain ⟨w4, g4, h4⟩ := qU.st107 k hz n (i + 1) Fu w3 _ h3 (by omega) (by omega) (by simp; omega)
    refine ⟨w4, g4, ?_⟩
    rw [m_deps]
    simp only [List.append_assoc] at h4 ⊢
    exact h4
theorem qU.stream0 (h : qU w0 z0 g0 w F) (k : qR tw th sz dp nm sy sp g0) (hz : z0 8 = 0) (hF : F.length + 200 ≤ 40000) : ∃ w', fD_layStream 37 w = some (.inl none, w') ∧ qU w0 z0 g0 w' (F ++ m_str0 tw th sz dp nm sy sp) := by
  unfold fD_layStream
  have hn4 := k.2.2.2.2.1
  obtain ⟨f0, o0⟩ := h.O
  rw [o0, Option.bind_some]
  obtain ⟨w1, g1, h1⟩ := h.lay 255 (by omega)
  obtain ⟨f1, o1⟩ := h1.O
  rw [g1, q_call, q_kV, o1, Option.bind_some]
  obtain ⟨w2, g2, h2⟩ := h1.lay 79 (by simp; omega)
  obtain ⟨f2, o2⟩ := h2.O
  obtain ⟨-, -, s2, -⟩ := h2.siz k
  rw [g2, q_call, q_kV, h2.R 7 42 (fun _ => rfl), Option.bind_some, s2, Option.bind_some, o2, Option.bind_some]
  obtain ⟨w3, g3, h3⟩ := h2.layMark 81 (38 + 3 * sz 2) (by simp; omega)
  obtain ⟨f3, o3⟩ := h3.O
  rw [g3, q_call, q_kV, o3, Option.bind_some]
  obtain ⟨w4, g4, h4⟩ := h3.layTwo 0 (by simp [b2_len]; omega)
  obtain ⟨f4, o4⟩ := h4.O
  obtain ⟨t4, -⟩ := h4.siz k
  rw [g4, q_call, q_kV, h4.R 7 42 (fun _ => rfl), Option.bind_some, t4, Option.bind_some, o4, Option.bind_some]
  obtain ⟨w5, g5, h5⟩ := h4.layFour (sz 0) (by simp [b2_len]; omega)
  obtain ⟨f5, o5⟩ := h5.O
  obtain ⟨-, t5, -⟩ := h5.siz k
  rw [g5, q_call, q_kV, h5.R 7 42 (fun _ => rfl), Option.bind_some, t5, Option.bind_some, o5, Option.bind_some]
  obtain ⟨w6, g6, h6⟩ := h5.layFour (sz 1) (by simp [b2_len, b4_len]; omega)
  obtain ⟨f6, o6⟩ := h6.O
  rw [g6, q_call, q_kV, o6, Option.bind_some]
  obtain ⟨w7, g7, h7⟩ := h6.layFour 0 (by simp [b2_len, b4_len]; omega)
  obtain ⟨f7, o7⟩ := h7.O
  rw [g7, q_call, q_kV, o7, Option.bind_some]
  obtain ⟨w8, g8, h8⟩ := h7.layFour 0 (by simp [b2_len, b4_len]; omega)
  obtain ⟨f8, o8⟩ := h8.O
  obtain ⟨-, -, -, t8, -⟩ := h8.siz k
  rw [g8, q_call, q_kV, h8.R 7 42 (fun _ => rfl), Option.bind_some, t8, Option.bind_some, o8, Option.bind_some]
  obtain ⟨w9, g9, h9⟩ := h8.layFour tw (by simp [b2_len, b4_len]; omega)
  obtain ⟨f9, o9⟩ := h9.O
  obtain ⟨-, -, -, -, t9⟩ := h9.siz k
  rw [g9, q_call, q_kV, h9.R 7 42 (fun _ => rfl), Option.bind_some, t9, Option.bind_some, o9, Option.bind_some]
  obtain ⟨wA, gA, hA⟩ := h9.layFour th (by simp [b2_len, b4_len]; omega)
  obtain ⟨fA, oA⟩ := hA.O
  rw [gA, q_call, q_kV, oA, Option.bind_some]
  obtain ⟨wB, gB, hB⟩ := hA.layFour 0 (by simp [b2_len, b4_len]; omega)
  obtain ⟨fB, oB⟩ := hB.O
  rw [gB, q_call, q_kV, oB, Option.bind_some]
  obtain ⟨wC, gC, hC⟩ := hB.layFour 0 (by simp [b2_len, b4_len]; omega)
  obtain ⟨fC, oC⟩ := hC.O
  obtain ⟨-, -, tC, -⟩ := hC.siz k
  rw [gC, q_call, q_kV, hC.R 7 42 (fun _ => rfl), Option.bind_some, tC, Option.bind_some, oC, Option.bind_some]
  obtain ⟨wD, gD, hD⟩ := hC.layTwo (sz 2) (by simp [b2_len, b4_len]; omega)
  rw [gD, q_call, q_kV]
  obtain ⟨wE, gE, hE⟩ := qU.st107 k hz (sz 2).toInt.toNat 0 FUEL wD _ hD (by show _ < 1000000; omega) (by omega) (by simp only [List.length_append, b2_len, b4_len, List.length_cons, List.length_nil]; omega)
  refine ⟨wE, gE, ?_⟩
  unfold m_str0 m_sizes
  simp only [List.append_assoc] at hE ⊢
  exact hE
theorem qU.wr23 {K : Nat → Int32 → PW → PX} (h : qU w0 z0 g0 w F) (hz : z0 14 = 0) (a : Int32) : fD_write_23 K FUEL 37 a 0 w = K 37 (a + 1) w := by
  rw [show FUEL = 999999 + 1 from rfl, fD_write_23, h.I 14 (fun _ => rfl) (by decide), Option.bind_some, hz, if_pos (by decide), q_let]
/-- the pointer filled in -/
theorem qU.wr95 {A B : List Int32} (v : Int32) (hA : A.length + 4 ≤ 40000) : ∀ (n i Fu : Nat) (w : PW) (X : List Int32), qU w0 z0 g0 w (A ++ (X ++ B)) → X.length = 4 → n < Fu → i + n = 4 → ∃ w' X', fD_write_95 Fu 37 (Int32.ofNat A.length) v (Int32.ofNat i) w = some (.inl (some (.int (Int32.ofNat (A ++ (X ++ B)).length))), w') ∧ qU w0 z0 g0 w' (A ++ (X' ++ B)) ∧ X'.length = 4 ∧ ∀ j (hj : j < 4) (h1 : j < X'.length) (h2 : j < X.length), X'[j] = if i ≤ j then p_ishr v (24 - 8 * Int32.ofNat j) &&& 255 else X[j]
  | 0, i, Fu + 1, w, X, h, hX, _, hi => by
    have : i = 4 := by omega
    subst this
    rw [fD_write_95, if_pos (by decide), h.C, Option.bind_some]
    exact ⟨w, X, rfl, h, hX, fun j hj h1 h2 => by rw [if_neg (by omega)]⟩
  | n + 1, i, Fu + 1, w, X, h, hX, hFu, hi => by
    have h1 : ¬ (4 : Int32) ≤ Int32.ofNat i := fun k => by
      have := (q_le (m := 4) (n := i) (by omega) (by omega)).mp k
      omega
    have e1 : Int32.ofNat i + 1 = Int32.ofNat (i + 1) := (Int32.ofNat_add i 1).symm
    have e2 : Int32.ofNat A.length + Int32.ofNat i = Int32.ofNat (A.length + i) := (Int32.ofNat_add _ _).symm
    have h0 := h
    obtain ⟨z, g, k1, k2, k3, k4, k5, k6, k7⟩ := h
    rw [fD_write_95, if_neg h1, k1.R 19 52 rfl, Option.bind_some, e2]
    obtain ⟨w1, g1, q1, F1⟩ := k1.stn 52 0 (A.length + i) (p_ishr v (24 - 8 * Int32.ofNat i) &&& 255) rfl (by omega) (by omega) (by show _ < 40000; omega) (by decide)
    rw [g1, Option.bind_some, q_let, e1]
    have hu : qU w0 z0 g0 w1 (A ++ (X.set i (p_ishr v (24 - 8 * Int32.ofNat i) &&& 255) ++ B)) := by
      refine ⟨z, _, q1, k2.tr F1, k3, fun k hk => by rw [ug_ne _ _ _ hk, k4 k hk], by rw [k5]; simp, ?_, by simpa using k7⟩
      have es : A ++ (X.set i (p_ishr v (24 - 8 * Int32.ofNat i) &&& 255) ++ B) = (A ++ (X ++ B)).set (A.length + i) (p_ishr v (24 - 8 * Int32.ofNat i) &&& 255) := by
        rw [List.set_append_right _ _ (by omega), Nat.add_sub_cancel_left, List.set_append_left _ _ (by omega)]
      rw [es]
      intro j hj
      rw [ug_self]
      unfold upd
      rw [List.length_set] at hj
      by_cases e : j = A.length + i
      · subst e
        rw [if_pos rfl, List.getElem_set_self]
      · rw [if_neg e, List.getElem_set_ne (fun k => e k.symm)]
        exact k6 j hj
    obtain ⟨w2, X', g2, h2, l2, t2⟩ := qU.wr95 v hA n (i + 1) Fu w1 _ hu (by simpa using hX) (by omega) (by omega)
    refine ⟨w2, X', ?_, h2, l2, fun j hj a1 a2 => ?_⟩
    · rw [g2]
      simp
    · rw [t2 j hj a1 (by simpa using a2)]
      by_cases c1 : i + 1 ≤ j
      · rw [if_pos c1, if_pos (by omega)]
      · rw [if_neg c1]
        by_cases c2 : j = i
        · subst c2
          rw [if_pos (Nat.le_refl _), List.getElem_set_self]
        · rw [if_neg (by omega), List.getElem_set_ne (fun k => c2 k.symm)]
theorem q_list4 {X : List Int32} {a b c d : Int32} (h : X.length = 4) (h0 : X[0]'(by omega) = a) (h1 : X[1]'(by omega) = b) (h2 : X[2]'(by omega) = c) (h3 : X[3]'(by omega) = d) : X = [a, b, c, d] := by
  match X, h with
  | [x0, x1, x2, x3], _ =>
    simp only [List.getElem_cons_zero, List.getElem_cons_succ] at h0 h1 h2 h3
    rw [h0, h1, h2, h3]
theorem qM.write0 {z : Nat → Int32} {g : Nat → Nat → Int32} (h : qM w z g) (k : qR tw th sz dp nm sy sp g) (hz8 : z 8 = 0) (hz14 : z 14 = 0) (hd : ∀ i, i < 4 → 1 ≤ (dp i).toInt) : ∃ w' z' g', fD_write 37 w = some (.inl (some (.int (Int32.ofNat (m_file0 tw th sz dp nm sy sp (fun _ => 0) (fun _ => 0) (fun _ => []) 0).length))), w') ∧ qM w' z' g' ∧ qI 37 66 w w' ∧ (∀ k, k ≠ 0 → k ≠ 20 → z' k = z k) ∧ (∀ k, k ≠ 52 → g' k = g k) ∧ z' 0 = 0 ∧ z' 20 = Int32.ofNat (m_file0 tw th sz dp nm sy sp (fun _ => 0) (fun _ => 0) (fun _ => []) 0).length ∧ qY g' 52 (m_file0 tw th sz dp nm sy sp (fun _ => 0) (fun _ => 0) (fun _ => []) 0) := by
  unfold fD_write
  obtain ⟨w1, g1, q1, F1⟩ := h.put 0 0 (by omega) rfl
  rw [g1, Option.bind_some]
  obtain ⟨w2, g2, q2, F2⟩ := q1.put 20 0 (by omega) rfl
  rw [g2, Option.bind_some, q2.obj, Option.bind_some]
  have hu : qU w2 (upd (upd z 0 0) 20 0) g w2 [] := ⟨_, _, q2, qI.rf, fun _ _ => rfl, fun _ _ => rfl, rfl, fun i hi => absurd hi (Nat.not_lt_zero i), by simp⟩
  obtain ⟨w3, g3, h3⟩ := hu.heads0 k hz14 hd
  have hz14' : (upd (upd z 0 0) 20 0) 14 = 0 := hz14
  have fu : fD_write_16 FUEL = fD_write_16 (999997 + 1 + 1 + 1) := rfl
  rw [g3, q_call, q_kV, fu, fD_write_16, if_neg (by decide), h3.wr23 hz14', show (0 : Int32) + 1 = 1 from rfl, fD_write_16, if_neg (by decide), h3.wr23 hz14', show (1 : Int32) + 1 = 2 from rfl, fD_write_16, if_pos (by decide), h3.C, Option.bind_some]
  obtain ⟨f3, o3⟩ := h3.O
  rw [o3, Option.bind_some]
  have hl3 : (m_head sz dp []).length = 62 := m_head_len sz dp []
  obtain ⟨w4, g4, h4⟩ := h3.layFour 0 (by omega)
  obtain ⟨f4, o4⟩ := h4.O
  rw [g4, q_call, q_kV, o4, Option.bind_some]
  obtain ⟨w5, g5, h5⟩ := h4.layFour 1785737827 (by simp [b4_len, hl3])
  obtain ⟨f5, o5⟩ := h5.O
  rw [g5, q_call, q_kV, o5, Option.bind_some]
  obtain ⟨w6, g6, h6⟩ := h5.stream0 k hz8 (by simp [b4_len, hl3])
  rw [g6, q_call, q_kV, h6.C, Option.bind_some, q_let]
  rw [show m_head sz dp [] ++ b4 0 ++ b4 1785737827 ++ m_str0 tw th sz dp nm sy sp = m_head sz dp [] ++ (b4 0 ++ (b4 1785737827 ++ m_str0 tw th sz dp nm sy sp)) by simp only [List.append_assoc]] at h6 ⊢
  have hsl : (m_str0 tw th sz dp nm sy sp).length ≤ 300 := by
    have hml := m_segs_len (nm := nm) (sy := sy) (sp := sp) (sz 2).toInt (by have := k.2.2.2.2.1; omega) (-1)
    have := k.2.2.2.2.1
    unfold m_str0
    simp only [List.length_append, m_sizes_len, List.length_cons, List.length_nil]
    omega
  have ev : Int32.ofNat (m_head sz dp [] ++ (b4 0 ++ (b4 1785737827 ++ m_str0 tw th sz dp nm sy sp))).length - Int32.ofNat (m_head sz dp []).length = Int32.ofNat (8 + (m_str0 tw th sz dp nm sy sp).length) := by
    rw [List.length_append, show Int32.ofNat ((m_head sz dp []).length + (b4 0 ++ (b4 1785737827 ++ m_str0 tw th sz dp nm sy sp)).length) = Int32.ofNat (m_head sz dp []).length + Int32.ofNat (b4 0 ++ (b4 1785737827 ++ m_str0 tw th sz dp nm sy sp)).length from Int32.ofNat_add _ _]
    rw [show (b4 0 ++ (b4 1785737827 ++ m_str0 tw th sz dp nm sy sp)).length = 8 + (m_str0 tw th sz dp nm sy sp).length by simp [b4_len]; omega]
    grind
  rw [ev]
  obtain ⟨w7, X', g7, h7, l7, t7⟩ := qU.wr95 (A := m_head sz dp []) (B := b4 1785737827 ++ m_str0 tw th sz dp nm sy sp) (Int32.ofNat (8 + (m_str0 tw th sz dp nm sy sp).length)) (by omega) 4 0 FUEL w6 (b4 0) h6 rfl (by decide) (by omega)
  have eX : X' = b4 (Int32.ofNat (8 + (m_str0 tw th sz dp nm sy sp).length)) := by
    have t0 := t7 0 (by omega) (by omega) (by decide)
    have t1 := t7 1 (by omega) (by omega) (by decide)
    have t2 := t7 2 (by omega) (by omega) (by decide)
    have t3 := t7 3 (by omega) (by omega) (by decide)
    rw [if_pos (by omega)] at t0 t1 t2 t3
    rw [show (24 : Int32) - 8 * Int32.ofNat 0 = 24 from rfl, q_shr _ 24 (by decide)] at t0
    rw [show (24 : Int32) - 8 * Int32.ofNat 1 = 16 from rfl, q_shr _ 16 (by decide)] at t1
    rw [show (24 : Int32) - 8 * Int32.ofNat 2 = 8 from rfl, q_shr _ 8 (by decide)] at t2
    rw [show (24 : Int32) - 8 * Int32.ofNat 3 = 0 from rfl, q_shr _ 0 (by decide)] at t3
    exact q_list4 l7 t0 t1 t2 t3
  have ef : m_head sz dp [] ++ (X' ++ (b4 1785737827 ++ m_str0 tw th sz dp nm sy sp)) = m_file0 tw th sz dp nm sy sp (fun _ => 0) (fun _ => 0) (fun _ => []) 0 := by
    rw [eX]
    rfl
  rw [ef] at h7
  obtain ⟨z', g', a1, a2, a3, a4, a5, a6, a7⟩ := h7
  refine ⟨w7, z', g', ?_, a1, (F1.tr F2).tr a2, fun k h0 h20 => ?_, a4, ?_, a5, a6⟩
  · rw [show fD_write_95 FUEL 37 (Int32.ofNat (m_head sz dp []).length) (Int32.ofNat (8 + (m_str0 tw th sz dp nm sy sp).length)) 0 w6 = _ from g7, ← ef]
    congr 4
    simp [l7, b4_len]
  · rw [a3 k h20]
    unfold upd
    rw [if_neg h20, if_neg h0]
  · rw [a3 0 (by decide)]
    rfl
end
