/-- the reference's parts -/
def qRp (g : Nat → Nat → Int32) (n : Nat) (pt : Nat → Int32) (pk : Nat → Nat) (lv : Nat → Nat → Nat) (pL : Nat → List Int32) : Prop := ∀ k, k < n → g 43 k = pt k ∧ 0 ≤ (pt k).toInt ∧ (pt k).toInt < 24 ∧ g 44 k = Int32.ofNat (pk k) ∧ pk k ≤ 20 ∧ (∀ i, i < pk k → g 45 (20 * k + i) = Int32.ofNat (lv k i) ∧ lv k i ≤ 300) ∧ g 46 k = Int32.ofNat (pL k).length ∧ (pL k).length ≤ 300 ∧ ∀ j (hj : j < (pL k).length), g 47 (300 * k + j) = (pL k)[j] ∧ (pL k)[j] &&& 255 = (pL k)[j]
section
variable {w0 w : PW} {z0 : Nat → Int32} {g0 : Nat → Nat → Int32} {F : List Int32} {tw th : Int32} {sz dp nm sy sp : Nat → Int32} {pt : Nat → Int32} {pk : Nat → Nat} {lv : Nat → Nat → Nat} {pL : Nat → List Int32} {n : Nat}
theorem qU.pt129 {A H B : List Int32} (hH : H.length = 6) (h : qU w0 z0 g0 w (A ++ (H ++ (b4 0 ++ B)))) (v : Int32) (hA : A.length + 10 + B.length ≤ 40000) : ∃ w', fD_layPart_129 FUEL 37 (Int32.ofNat A.length) v 0 w = some (.inl none, w') ∧ qU w0 z0 g0 w' (A ++ (H ++ (b4 v ++ B))) := by
  have hll : (A ++ (H ++ (b4 0 ++ B))).length = A.length + (10 + B.length) := by simp [b4_len, hH]; omega
  have ei : ∀ i : Nat, Int32.ofNat A.length + 6 + Int32.ofNat i = Int32.ofNat (A.length + 6 + i) := fun i => by
    rw [show Int32.ofNat (A.length + 6 + i) = Int32.ofNat (A.length + 6) + Int32.ofNat i from Int32.ofNat_add _ _, show Int32.ofNat (A.length + 6) = Int32.ofNat A.length + 6 from Int32.ofNat_add _ 6]
  obtain ⟨w1, g1, h1⟩ := h.st (A.length + 6 + 0) (by rw [hll]; omega) (p_ishr v 24 &&& 255)
  obtain ⟨w2, g2, h2⟩ := h1.st (A.length + 6 + 1) (by rw [List.length_set, hll]; omega) (p_ishr v 16 &&& 255)
  obtain ⟨w3, g3, h3⟩ := h2.st (A.length + 6 + 2) (by rw [List.length_set, List.length_set, hll]; omega) (p_ishr v 8 &&& 255)
  obtain ⟨w4, g4, h4⟩ := h3.st (A.length + 6 + 3) (by rw [List.length_set, List.length_set, List.length_set, hll]; omega) (p_ishr v 0 &&& 255)
  rw [show FUEL = 999995 + 1 + 1 + 1 + 1 + 1 from rfl]
  rw [fD_layPart_129, if_neg (by decide), h.R 19 52 (fun _ => rfl), Option.bind_some, show (24 : Int32) - 8 * 0 = 24 from rfl, show Int32.ofNat A.length + 6 + 0 = _ from ei 0, g1, Option.bind_some, q_let, show (0 : Int32) + 1 = 1 from rfl]
  rw [fD_layPart_129, if_neg (by decide), h1.R 19 52 (fun _ => rfl), Option.bind_some, show (24 : Int32) - 8 * 1 = 16 from rfl, show Int32.ofNat A.length + 6 + 1 = _ from ei 1, g2, Option.bind_some, q_let, show (1 : Int32) + 1 = 2 from rfl]
  rw [fD_layPart_129, if_neg (by decide), h2.R 19 52 (fun _ => rfl), Option.bind_some, show (24 : Int32) - 8 * 2 = 8 from rfl, show Int32.ofNat A.length + 6 + 2 = _ from ei 2, g3, Option.bind_some, q_let, show (2 : Int32) + 1 = 3 from rfl]
  rw [fD_layPart_129, if_neg (by decide), h3.R 19 52 (fun _ => rfl), Option.bind_some, show (24 : Int32) - 8 * 3 = 0 from rfl, show Int32.ofNat A.length + 6 + 3 = _ from ei 3, g4, Option.bind_some, q_let, show (3 : Int32) + 1 = 4 from rfl]
  rw [fD_layPart_129, if_pos (by decide)]
  refine ⟨w4, rfl, ?_⟩
  have es := q_4set (A := A ++ H) (B := B) (x0 := p_ushr 0 24 &&& 255) (x1 := p_ushr 0 16 &&& 255) (x2 := p_ushr 0 8 &&& 255) (x3 := p_ushr 0 0 &&& 255) (p_ishr v 24 &&& 255) (p_ishr v 16 &&& 255) (p_ishr v 8 &&& 255) (p_ishr v 0 &&& 255) (A.length + 6) (by simp [hH])
  rw [show A ++ (H ++ (b4 0 ++ B)) = A ++ H ++ ((p_ushr 0 24 &&& 255) :: (p_ushr 0 16 &&& 255) :: (p_ushr 0 8 &&& 255) :: (p_ushr 0 0 &&& 255) :: B) by rw [List.append_assoc]; rfl, Nat.add_zero, es, q_shr v 24 (by decide), q_shr v 16 (by decide), q_shr v 8 (by decide), q_shr v 0 (by decide), List.append_assoc] at h4
  exact h4
theorem qU.pt84 {A H : List Int32} (hH : H.length = 6) (hP : qRp g0 n pt pk lv pL) (hn : n ≤ 40) (p : Nat) (hp : p < n) : ∀ (m i Fu : Nat) (w : PW) (Y : List Int32), qU w0 z0 g0 w (A ++ (H ++ (b4 0 ++ Y))) → m < Fu → i + m = (pL p).length → A.length + 10 + Y.length + m ≤ 40000 → ∃ w', fD_layPart_84 Fu 37 (Int32.ofNat p) (Int32.ofNat A.length) (Int32.ofNat i) w = some (.inl none, w') ∧ qU w0 z0 g0 w' (A ++ (H ++ (b4 (Int32.ofNat (10 + (Y ++ (pL p).drop i).length)) ++ (Y ++ (pL p).drop i))))
  | 0, i, Fu + 1, w, Y, h, _, hi, hF => by
    obtain ⟨-, -, -, -, -, -, e4, e5, -⟩ := hP p hp
    have hll : (A ++ (H ++ (b4 0 ++ Y))).length = A.length + (10 + Y.length) := by simp [b4_len, hH]; omega
    rw [fD_layPart_84, h.R 12 46 (fun _ => rfl), Option.bind_some, h.ld 46 0 p rfl (by omega) (by omega) (by show p < 40; omega) (by decide) (by decide), Option.bind_some, e4, if_pos ((q_of_le (by omega) (by omega)).mpr (by omega)), h.C, Option.bind_some, q_let, List.drop_of_length_le (by omega), List.append_nil]
    have ev : Int32.ofNat (A ++ (H ++ (b4 0 ++ Y))).length - Int32.ofNat A.length = Int32.ofNat (10 + Y.length) := by
      rw [hll, show Int32.ofNat (A.length + (10 + Y.length)) = Int32.ofNat A.length + Int32.ofNat (10 + Y.length) from Int32.ofNat_add _ _]
      grind
    rw [ev]
    exact qU.pt129 hH h _ (by omega)
  | m + 1, i, Fu + 1, w, Y, h, hm, hi, hF => by
    obtain ⟨-, -, -, -, -, -, e4, e5, e6⟩ := hP p hp
    obtain ⟨e7, e8⟩ := e6 i (by omega)
    obtain ⟨f0, o0⟩ := h.O
    have hll : (A ++ (H ++ (b4 0 ++ Y))).length = A.length + (10 + Y.length) := by simp [b4_len, hH]; omega
    rw [fD_layPart_84, h.R 12 46 (fun _ => rfl), Option.bind_some, h.ld 46 0 p rfl (by omega) (by omega) (by show p < 40; omega) (by decide) (by decide), Option.bind_some, e4, if_neg (fun hh => by have := (q_of_le (by omega) (by omega)).mp hh; omega), h.R 13 47 (fun _ => rfl), Option.bind_some, show (300 : Int32) * Int32.ofNat p + Int32.ofNat i = Int32.ofNat (300 * p + i) from q_ofmul 300 p i, h.ld 47 0 (300 * p + i) rfl (by omega) (by omega) (by show _ < 12000; omega) (by decide) (by decide), Option.bind_some, e7, o0, Option.bind_some]
    obtain ⟨w1, g1, h1⟩ := h.lay ((pL p)[i]'(by omega)) (by rw [hll]; omega)
    rw [g1, q_call, q_kV, q_let, show Int32.ofNat i + 1 = Int32.ofNat (i + 1) from (Int32.ofNat_add i 1).symm]
    rw [e8, show A ++ (H ++ (b4 0 ++ Y)) ++ [(pL p)[i]'(by omega)] = A ++ (H ++ (b4 0 ++ (Y ++ [(pL p)[i]'(by omega)]))) by simp only [List.append_assoc]] at h1
    obtain ⟨w2, g2, h2⟩ := qU.pt84 hH hP hn p hp m (i + 1) Fu w1 _ h1 (by omega) (by omega) (by simp; omega)
    refine ⟨w2, g2, ?_⟩
    rw [List.append_assoc, List.singleton_append, List.getElem_cons_drop] at h2
    exact h2
theorem qU.layPart (h : qU w0 z0 g0 w F) (k : qR tw th sz dp nm sy sp g0) (hP : qRp g0 n pt pk lv pL) (hn : n ≤ 40) (p : Nat) (hp : p < n) (b : Int32) (hF : F.length + 469 ≤ 39000) : ∃ w', fD_layPart 37 (Int32.ofNat p) b w = some (.inl none, w') ∧ qU w0 z0 g0 w' (F ++ m_part (sz 2).toInt nm sy sp (pt p) b (pk p) (lv p) (pL p)) := by
  obtain ⟨e0, t0, t1, e1, e2, e3, e4, e5, -⟩ := hP p hp
  have hn4 := k.2.2.2.2.1
  have hms := m_segs_len (nm := nm) (sy := sy) (sp := sp) (sz 2).toInt (by omega) (pt p)
  have hmp := m_plens_len (lv p) (pk p)
  unfold fD_layPart
  obtain ⟨f0, o0⟩ := h.O
  rw [h.C, Option.bind_some, o0, Option.bind_some]
  obtain ⟨w1, g1, h1⟩ := h.layMark 144 10 (by omega)
  obtain ⟨f1, o1⟩ := h1.O
  rw [g1, q_call, q_kV, h1.R 9 43 (fun _ => rfl), Option.bind_some, h1.ld 43 0 p rfl (by omega) (by omega) (by show p < 40; omega) (by decide) (by decide), Option.bind_some, e0, o1, Option.bind_some]
  obtain ⟨w2, g2, h2⟩ := h1.layTwo (pt p) (by simp [b2_len]; omega)
  obtain ⟨f2, o2⟩ := h2.O
  rw [g2, q_call, q_kV, o2, Option.bind_some]
  obtain ⟨w3, g3, h3⟩ := h2.layFour 0 (by simp [b2_len]; omega)
  obtain ⟨f3, o3⟩ := h3.O
  rw [g3, q_call, q_kV, o3, Option.bind_some]
  obtain ⟨w4, g4, h4⟩ := h3.lay b (by simp [b2_len, b4_len]; omega)
  obtain ⟨f4, o4⟩ := h4.O
  rw [g4, q_call, q_kV, o4, Option.bind_some]
  obtain ⟨w5, g5, h5⟩ := h4.lay 0 (by simp [b2_len, b4_len]; omega)
  obtain ⟨f5, o5⟩ := h5.O
  rw [g5, q_call, q_kV]
  generalize hH : [255, 144 &&& 255] ++ (b2 10 ++ b2 (pt p)) = H at *
  have hH6 : H.length = 6 := by rw [← hH]; rfl
  have h5' : qU w0 z0 g0 w5 (F ++ (H ++ (b4 0 ++ ([b &&& 255] ++ [0])))) := by
    rw [← hH]
    simp only [List.append_assoc] at h5 ⊢
    exact h5
  have fin : ∀ (w7 : PW) (S : List Int32), S.length ≤ 112 → qU w0 z0 g0 w7 (F ++ (H ++ (b4 0 ++ S))) → ∃ w', fD_layPart_53 37 (Int32.ofNat p) (Int32.ofNat F.length) w7 = some (.inl none, w') ∧ qU w0 z0 g0 w' (F ++ (H ++ (b4 (Int32.ofNat (10 + (S ++ ((if pk p = 0 then [] else m_plens (lv p) (pk p)) ++ ([255, 147] ++ pL p))).length)) ++ (S ++ ((if pk p = 0 then [] else m_plens (lv p) (pk p)) ++ ([255, 147] ++ pL p)))))) := by
    intro w7 S hS h7
    have last : ∀ (w8 : PW) (T : List Int32), T.length ≤ 45 → qU w0 z0 g0 w8 (F ++ (H ++ (b4 0 ++ (S ++ T)))) → ∃ w', fD_layPart_67 37 (Int32.ofNat p) (Int32.ofNat F.length) w8 = some (.inl none, w') ∧ qU w0 z0 g0 w' (F ++ (H ++ (b4 (Int32.ofNat (10 + (S ++ (T ++ ([255, 147] ++ pL p))).length)) ++ (S ++ (T ++ ([255, 147] ++ pL p)))))) := by
      intro w8 T hT h8
      unfold fD_layPart_67
      obtain ⟨f8, o8⟩ := h8.O
      rw [o8, Option.bind_some]
      obtain ⟨w9, g9, h9⟩ := h8.lay 255 (by simp [b4_len, hH6]; omega)
      obtain ⟨f9, o9⟩ := h9.O
      rw [g9, q_call, q_kV, o9, Option.bind_some]
      obtain ⟨wA, gA, hA⟩ := h9.lay 147 (by simp [b4_len, hH6]; omega)
      rw [gA, q_call, q_kV]
      rw [show (255 : Int32) &&& 255 = 255 by decide, show (147 : Int32) &&& 255 = 147 by decide, show F ++ (H ++ (b4 0 ++ (S ++ T))) ++ [255] ++ [147] = F ++ (H ++ (b4 0 ++ (S ++ (T ++ [255, 147])))) by simp only [List.append_assoc, List.cons_append, List.nil_append]] at hA
      obtain ⟨wB, gB, hB⟩ := qU.pt84 hH6 hP hn p hp (pL p).length 0 FUEL wA _ hA (by show _ < 1000000; omega) (by omega) (by simp; omega)
      refine ⟨wB, gB, ?_⟩
      rw [List.drop_zero] at hB
      simp only [List.append_assoc] at hB ⊢
      exact hB
    unfold fD_layPart_53
    obtain ⟨f7, o7⟩ := h7.O
    rw [h7.R 10 44 (fun _ => rfl), Option.bind_some, h7.ld 44 0 p rfl (by omega) (by omega) (by show p < 40; omega) (by decide) (by decide), Option.bind_some, e1]
    by_cases hk : pk p = 0
    · rw [hk, if_pos (by decide), if_pos rfl, List.nil_append]
      have := last w7 [] (by simp) (by rw [List.append_nil]; exact h7)
      rw [List.nil_append] at this
      exact this
    · rw [if_neg (fun hh => by have := (q_of_le (m := pk p) (n := 0) (by omega) (by omega)).mp hh; omega), if_neg hk, o7, Option.bind_some]
      obtain ⟨w8, g8, h8⟩ := h7.layLengths p (pk p) (by omega) e2 e1 (lv p) e3 (by simp [b4_len, hH6]; omega)
      rw [g8, q_call, q_kV]
      rw [show F ++ (H ++ (b4 0 ++ S)) ++ m_plens (lv p) (pk p) = F ++ (H ++ (b4 0 ++ (S ++ m_plens (lv p) (pk p)))) by simp only [List.append_assoc]] at h8
      exact last w8 _ (by omega) h8
  unfold m_part m_partB
  by_cases hb : b = 0
  · rw [if_neg (fun hh => hh hb), h5.R 9 43 (fun _ => rfl), Option.bind_some, h5.ld 43 0 p rfl (by omega) (by omega) (by show p < 40; omega) (by decide) (by decide), Option.bind_some, e0, o5, Option.bind_some, if_pos hb]
    obtain ⟨w6, g6, h6⟩ := h5'.segments k (t := pt p) (by omega) t1 (by simp [b4_len, hH6]; omega)
    rw [g6, q_call, q_kV]
    rw [show F ++ (H ++ (b4 0 ++ ([b &&& 255] ++ [0]))) ++ m_segs (sz 2).toInt nm sy sp (pt p) = F ++ (H ++ (b4 0 ++ ([b &&& 255] ++ ([0] ++ m_segs (sz 2).toInt nm sy sp (pt p))))) by simp only [List.append_assoc]] at h6
    obtain ⟨w', g', h'⟩ := fin w6 _ (by simp; omega) h6
    refine ⟨w', g', ?_⟩
    rw [← hH, show (144 : Int32) &&& 255 = 144 by decide] at h'
    simp only [List.append_assoc] at h' ⊢
    exact h'
  · rw [if_pos hb, if_neg hb, List.nil_append]
    obtain ⟨w', g', h'⟩ := fin w5 _ (by simp) h5'
    refine ⟨w', g', ?_⟩
    rw [← hH, show (144 : Int32) &&& 255 = 144 by decide] at h'
    simp only [List.append_assoc] at h' ⊢
    exact h'
end
section
variable {w0 w : PW} {z0 : Nat → Int32} {g0 : Nat → Nat → Int32} {F : List Int32} {tw th : Int32} {sz dp nm sy sp : Nat → Int32} {pt pb : Nat → Int32} {pk : Nat → Nat} {lv : Nat → Nat → Nat} {pL : Nat → List Int32} {n : Nat}
theorem c_469c {a k : Nat} (h : a + 469 * (k + 1) + 2 ≤ 39000) : a + 469 ≤ 39000 := Nat.le_trans (c_469 a k) h
theorem c_469d {a b k : Nat} (h : a + 469 * (k + 1) + 2 ≤ 39000) (hb : b ≤ 469) : a + b + 469 * k + 2 ≤ 39000 := by omega
theorem qU.st164 {K : Nat → Int32 → PW → PX} (h : qU w0 z0 g0 w F) (k : qR tw th sz dp nm sy sp g0) (hP : qRp g0 n pt pk lv pL) (hn : n ≤ 40) (p : Nat) (hp : p < n) (hpb : pb p = Int32.ofNat (q_cnt pt (pt p) p 0)) (hF : F.length + 469 ≤ 39000) : ∀ (m i Fu c : Nat), m < Fu → i + m = p → c + q_cnt pt (pt p) m i = q_cnt pt (pt p) p 0 → ∃ w', fD_layStream_164 K Fu 37 (Int32.ofNat p) (Int32.ofNat c) (Int32.ofNat i) w = K 37 (Int32.ofNat (p + 1)) w' ∧ qU w0 z0 g0 w' (F ++ m_part (sz 2).toInt nm sy sp (pt p) (pb p) (pk p) (lv p) (pL p))
  | 0, i, Fu + 1, c, _, hi, hc => by
    obtain ⟨f0, o0⟩ := h.O
    rw [q_cnt, Nat.add_zero] at hc
    rw [fD_layStream_164, if_pos ((q_of_le (by omega) (by omega)).mpr (by omega)), o0, Option.bind_some, hc, ← hpb]
    obtain ⟨w1, g1, h1⟩ := h.layPart k hP hn p hp (pb p) hF
    rw [g1, q_call, q_kV, q_let, show Int32.ofNat p + 1 = Int32.ofNat (p + 1) from (Int32.ofNat_add p 1).symm]
    exact ⟨w1, rfl, h1⟩
  | m + 1, i, Fu + 1, c, hm, hi, hc => by
    have e1 : Int32.ofNat i + 1 = Int32.ofNat (i + 1) := (Int32.ofNat_add i 1).symm
    rw [q_cnt] at hc
    rw [fD_layStream_164, if_neg (fun hh => by have := (q_of_le (by omega) (by omega)).mp hh; omega), h.R 9 43 (fun _ => rfl), Option.bind_some, h.ld 43 0 i rfl (by omega) (by omega) (by show i < 40; omega) (by decide) (by decide), Option.bind_some, Option.bind_some, h.ld 43 0 p rfl (by omega) (by omega) (by show p < 40; omega) (by decide) (by decide), Option.bind_some, (hP i (by omega)).1, (hP p hp).1, fD_layStream_190, fD_layStream_190]
    simp only [q_let]
    rw [e1]
    by_cases ht : pt i = pt p
    · rw [if_neg (not_not_intro ht), show Int32.ofNat c + 1 = Int32.ofNat (c + 1) from (Int32.ofNat_add c 1).symm]
      rw [if_pos ht] at hc
      exact qU.st164 h k hP hn p hp hpb hF m (i + 1) Fu (c + 1) (by omega) (by omega) (by omega)
    · rw [if_pos ht, show Int32.ofNat c + 0 = Int32.ofNat c from (Int32.ofNat_add c 0).symm]
      rw [if_neg ht] at hc
      exact qU.st164 h k hP hn p hp hpb hF m (i + 1) Fu c (by omega) (by omega) (by omega)
theorem qU.st152 (k : qR tw th sz dp nm sy sp g0) (hz : z0 8 = Int32.ofNat n) (hP : qRp g0 n pt pk lv pL) (hn : n ≤ 40) (hpb : ∀ j, j < n → pb j = Int32.ofNat (q_cnt pt (pt j) j 0)) : ∀ (m i Fu : Nat) (w : PW) (F : List Int32), qU w0 z0 g0 w F → m < Fu → i + m = n → F.length + 469 * m + 2 ≤ 39000 → ∃ w', fD_layStream_152 Fu 37 (Int32.ofNat i) w = some (.inl none, w') ∧ qU w0 z0 g0 w' (F ++ (m_parts (sz 2).toInt nm sy sp pt pb pk lv pL m i ++ [255, 217]))
  | 0, i, Fu + 1, w, F, h, _, hi, hF => by
    obtain ⟨f1, o1⟩ := h.O
    rw [fD_layStream_152, h.I 8 (fun _ => rfl) (by decide), Option.bind_some, hz, if_pos ((q_of_le (by omega) (by omega)).mpr (by omega)), o1, Option.bind_some, m_parts, List.nil_append]
    obtain ⟨w2, g2, h2⟩ := h.lay 255 (by omega)
    obtain ⟨f2, o2⟩ := h2.O
    rw [g2, q_call, q_kV, o2, Option.bind_some]
    obtain ⟨w3, g3, h3⟩ := h2.lay 217 (by simp; omega)
    rw [g3, q_call, q_kV]
    refine ⟨w3, rfl, ?_⟩
    simp only [List.append_assoc] at h3
    exact h3
  | m + 1, i, Fu + 1, w, F, h, hm, hi, hF => by
    have hn4 := k.2.2.2.2.1
    obtain ⟨-, -, -, -, e2, -, -, e5, -⟩ := hP i (by omega)
    have hpl := m_part_len (nm := nm) (sy := sy) (sp := sp) (sz 2).toInt (by omega) (pt i) (pb i) (pk i) e2 (lv i) (pL i) e5
    rw [fD_layStream_152, h.I 8 (fun _ => rfl) (by decide), Option.bind_some, hz, if_neg (fun hh => by have := (q_of_le (by omega) (by omega)).mp hh; omega)]
    obtain ⟨w1, g1, h1⟩ := h.st164 (K := fD_layStream_152 Fu) k hP hn i (by omega) (hpb i (by omega)) (c_469c hF) i 0 FUEL 0 (by show _ < 1000000; omega) (by omega) (by omega)
    rw [show fD_layStream_164 (fD_layStream_152 Fu) FUEL 37 (Int32.ofNat i) 0 0 w = _ from g1]
    obtain ⟨w2, g2, h2⟩ := qU.st152 k hz hP hn hpb m (i + 1) Fu w1 _ h1 (by omega) (by omega) (by rw [List.length_append]; exact c_469d hF hpl)
    refine ⟨w2, g2, ?_⟩
    rw [m_parts]
    simp only [List.append_assoc] at h2 ⊢
    exact h2
/-- the stream with parts -/
theorem qU.st107g (k : qR tw th sz dp nm sy sp g0) (hz : z0 8 = Int32.ofNat n) (hP : qRp g0 n pt pk lv pL) (hn : n ≤ 40) (hpb : ∀ j, j < n → pb j = Int32.ofNat (q_cnt pt (pt j) j 0)) : ∀ (m i Fu : Nat) (w : PW) (F : List Int32), qU w0 z0 g0 w F → m < Fu → (i + m : Int) = (sz 2).toInt → F.length + 3 * m + 120 + 469 * n ≤ 39000 → ∃ w', fD_layStream_107 Fu 37 (Int32.ofNat i) w = some (.inl none, w') ∧ qU w0 z0 g0 w' (F ++ (m_deps dp m i ++ (m_segs (sz 2).toInt nm sy sp (-1) ++ (m_parts (sz 2).toInt nm sy sp pt pb pk lv pL n 0 ++ [255, 217]))))
  | 0, i, Fu + 1, w, F, h, _, hi, hF => by
    obtain ⟨-, -, s2, -⟩ := h.siz k
    obtain ⟨f0, o0⟩ := h.O
    have hn4 := k.2.2.2.2.1
    have hml := m_segs_len (nm := nm) (sy := sy) (sp := sp) (sz 2).toInt (by omega) (-1)
    rw [fD_layStream_107, h.R 7 42 (fun _ => rfl), Option.bind_some, s2, Option.bind_some, if_pos (by rw [q_lei, q_ofi (by omega)]; omega), o0, Option.bind_some, m_deps, List.nil_append]
    obtain ⟨w1, g1, h1⟩ := h.segments k (t := -1) (by decide) (by decide) (by omega)
    obtain ⟨f1, o1⟩ := h1.O
    rw [g1, q_call, q_kV]
    obtain ⟨w3, g3, h3⟩ := qU.st152 k hz hP hn hpb n 0 FUEL w1 _ h1 (by show _ < 1000000; omega) (by omega) (by rw [List.length_append]; omega)
    refine ⟨w3, g3, ?_⟩
    simp only [List.append_assoc] at h3
    exact h3
  | m + 1, i, Fu + 1, w, F, h, hFu, hi, hF => by
    obtain ⟨-, -, s2, -⟩ := h.siz k
    obtain ⟨f0, o0⟩ := h.O
    have hn4 := k.2.2.2.2.1
    have e1 : Int32.ofNat i + 1 = Int32.ofNat (i + 1) := (Int32.ofNat_add i 1).symm
    rw [fD_layStream_107, h.R 7 42 (fun _ => rfl), Option.bind_some, s2, Option.bind_some, if_neg (by rw [q_lei, q_ofi (by omega)]; omega), h.R 6 41 (fun _ => rfl), Option.bind_some, h.dep k i (by omega), Option.bind_some, o0, Option.bind_some]
    obtain ⟨w1, g1, h1⟩ := h.lay (dp i - 1) (by omega)
    obtain ⟨f1, o1⟩ := h1.O
    rw [g1, q_call, q_kV, o1, Option.bind_some]
    obtain ⟨w2, g2, h2⟩ := h1.lay 1 (by simp; omega)
    obtain ⟨f2, o2⟩ := h2.O
    rw [g2, q_call, q_kV, o2, Option.bind_some]
    obtain ⟨w3, g3, h3⟩ := h2.lay 1 (by simp; omega)
    rw [g3, q_call, q_kV, q_let, e1]
    obtain ⟨w4, g4, h4⟩ := qU.st107g k hz hP hn hpb m (i + 1) Fu w3 _ h3 (by omega) (by omega) (by simp; omega)
    refine ⟨w4, g4, ?_⟩
    rw [m_deps]
    simp only [List.append_assoc] at h4 ⊢
    exact h4
theorem qU.stream (h : qU w0 z0 g0 w F) (k : qR tw th sz dp nm sy sp g0) (hz : z0 8 = Int32.ofNat n) (hP : qRp g0 n pt pk lv pL) (hn : n ≤ 40) (hpb : ∀ j, j < n → pb j = Int32.ofNat (q_cnt pt (pt j) j 0)) (hF : F.length + 200 + 469 * n ≤ 39000) : ∃ w', fD_layStream 37 w = some (.inl none, w') ∧ qU w0 z0 g0 w' (F ++ m_str tw th sz dp nm sy sp pt pb pk lv pL n) := by
  unfold fD_layStream
  have hn4 := k.2.2.2.2.1
  obtain ⟨f0, o0⟩ := h.O
  rw [o0, Option.bind_some]
  obtain ⟨w1, g1, h1⟩ := h.lay 255 (by omega)
  obtain ⟨f1, o1⟩ := h1.O
  rw [g1, q_call, q_kV, o1, Option.bind_some]
  obtain ⟨w2, g2, h2⟩ := h1.lay 79 (by simp; omega)
  obtain ⟨f2, o2⟩ := h2.O
  obtain ⟨-, -, s2, -⟩ := h2.siz k
  rw [g2, q_call, q_kV, h2.R 7 42 (fun _ => rfl), Option.bind_some, s2, Option.bind_some, o2, Option.bind_some]
  obtain ⟨w3, g3, h3⟩ := h2.layMark 81 (38 + 3 * sz 2) (by simp; omega)
  obtain ⟨f3, o3⟩ := h3.O
  rw [g3, q_call, q_kV, o3, Option.bind_some]
  obtain ⟨w4, g4, h4⟩ := h3.layTwo 0 (by simp [b2_len]; omega)
  obtain ⟨f4, o4⟩ := h4.O
  obtain ⟨t4, -⟩ := h4.siz k
  rw [g4, q_call, q_kV, h4.R 7 42 (fun _ => rfl), Option.bind_some, t4, Option.bind_some, o4, Option.bind_some]
  obtain ⟨w5, g5, h5⟩ := h4.layFour (sz 0) (by simp [b2_len]; omega)
  obtain ⟨f5, o5⟩ := h5.O
  obtain ⟨-, t5, -⟩ := h5.siz k
  rw [g5, q_call, q_kV, h5.R 7 42 (fun _ => rfl), Option.bind_some, t5, Option.bind_some, o5, Option.bind_some]
  obtain ⟨w6, g6, h6⟩ := h5.layFour (sz 1) (by simp [b2_len, b4_len]; omega)
  obtain ⟨f6, o6⟩ := h6.O
  rw [g6, q_call, q_kV, o6, Option.bind_some]
  obtain ⟨w7, g7, h7⟩ := h6.layFour 0 (by simp [b2_len, b4_len]; omega)
  obtain ⟨f7, o7⟩ := h7.O
  rw [g7, q_call, q_kV, o7, Option.bind_some]
  obtain ⟨w8, g8, h8⟩ := h7.layFour 0 (by simp [b2_len, b4_len]; omega)
  obtain ⟨f8, o8⟩ := h8.O
  obtain ⟨-, -, -, t8, -⟩ := h8.siz k
  rw [g8, q_call, q_kV, h8.R 7 42 (fun _ => rfl), Option.bind_some, t8, Option.bind_some, o8, Option.bind_some]
  obtain ⟨w9, g9, h9⟩ := h8.layFour tw (by simp [b2_len, b4_len]; omega)
  obtain ⟨f9, o9⟩ := h9.O
  obtain ⟨-, -, -, -, t9⟩ := h9.siz k
  rw [g9, q_call, q_kV, h9.R 7 42 (fun _ => rfl), Option.bind_some, t9, Option.bind_some, o9, Option.bind_some]
  obtain ⟨wA, gA, hA⟩ := h9.layFour th (by simp [b2_len, b4_len]; omega)
  obtain ⟨fA, oA⟩ := hA.O
  rw [gA, q_call, q_kV, oA, Option.bind_some]
  obtain ⟨wB, gB, hB⟩ := hA.layFour 0 (by simp [b2_len, b4_len]; omega)
  obtain ⟨fB, oB⟩ := hB.O
  rw [gB, q_call, q_kV, oB, Option.bind_some]
  obtain ⟨wC, gC, hC⟩ := hB.layFour 0 (by simp [b2_len, b4_len]; omega)
  obtain ⟨fC, oC⟩ := hC.O
  obtain ⟨-, -, tC, -⟩ := hC.siz k
  rw [gC, q_call, q_kV, hC.R 7 42 (fun _ => rfl), Option.bind_some, tC, Option.bind_some, oC, Option.bind_some]
  obtain ⟨wD, gD, hD⟩ := hC.layTwo (sz 2) (by simp [b2_len, b4_len]; omega)
  rw [gD, q_call, q_kV]
  obtain ⟨wE, gE, hE⟩ := qU.st107g k hz hP hn hpb (sz 2).toInt.toNat 0 FUEL wD _ hD (by show _ < 1000000; omega) (by omega) (by simp only [List.length_append, b2_len, b4_len, List.length_cons, List.length_nil]; omega)
  refine ⟨wE, gE, ?_⟩
  unfold m_str m_sizes
  simp only [List.append_assoc] at hE ⊢
  exact hE
end
section
variable {w0 w : PW} {z0 : Nat → Int32} {g0 : Nat → Nat → Int32} {F : List Int32} {tw th : Int32} {sz dp nm sy sp : Nat → Int32} {pt pb : Nat → Int32} {pk : Nat → Nat} {lv : Nat → Nat → Nat} {pL : Nat → List Int32} {bi bk : Nat → Int32} {bL : Nat → List Int32} {n m : Nat}
theorem qM.write {z : Nat → Int32} {g : Nat → Nat → Int32} (h : qM w z g) (k : qR tw th sz dp nm sy sp g) (hz8 : z 8 = Int32.ofNat m) (hP : qRp g m pt pk lv pL) (hm : m ≤ 40) (hpb : ∀ j, j < m → pb j = Int32.ofNat (q_cnt pt (pt j) j 0)) (hz14 : z 14 = Int32.ofNat n) (hB : qRb g n bi bk bL) (hn : n ≤ 8) (hd : ∀ i, i < 4 → 1 ≤ (dp i).toInt) : ∃ w' z' g', fD_write 37 w = some (.inl (some (.int (Int32.ofNat (m_file tw th sz dp nm sy sp bi bk bL n pt pb pk lv pL m).length))), w') ∧ qM w' z' g' ∧ qI 37 66 w w' ∧ (∀ k, k ≠ 0 → k ≠ 20 → z' k = z k) ∧ (∀ k, k ≠ 52 → g' k = g k) ∧ z' 0 = 0 ∧ z' 20 = Int32.ofNat (m_file tw th sz dp nm sy sp bi bk bL n pt pb pk lv pL m).length ∧ qY g' 52 (m_file tw th sz dp nm sy sp bi bk bL n pt pb pk lv pL m) := by
  unfold fD_write
  obtain ⟨w1, g1, q1, F1⟩ := h.put 0 0 (by omega) rfl
  rw [g1, Option.bind_some]
  obtain ⟨w2, g2, q2, F2⟩ := q1.put 20 0 (by omega) rfl
  rw [g2, Option.bind_some, q2.obj, Option.bind_some]
  have hu : qU w2 (upd (upd z 0 0) 20 0) g w2 [] := ⟨_, _, q2, qI.rf, fun _ _ => rfl, fun _ _ => rfl, rfl, fun i hi => absurd hi (Nat.not_lt_zero i), by simp⟩
  have hz14' : (upd (upd z 0 0) 20 0) 14 = Int32.ofNat n := hz14
  have hz8' : (upd (upd z 0 0) 20 0) 8 = Int32.ofNat m := hz8
  obtain ⟨wa, ga, ha⟩ := hu.heads k hz14' hB hn hd
  have fu : fD_write_16 FUEL = fD_write_16 (999997 + 1 + 1 + 1) := rfl
  rw [ga, q_call, q_kV, fu, fD_write_16, if_neg (by decide)]
  have hi1 := m_mb_ins hB 1 n 0 (by omega)
  have hi0 := m_mb_ins hB 0 n 0 (by omega)
  obtain ⟨wb, gb, hb⟩ := qU.wr23g (K := fD_write_16 (999997 + 1 + 1)) hz14' hB hn 0 1 (Or.inl ⟨rfl, rfl⟩) n 0 FUEL wa _ ha (by show _ < 1000000; omega) (by omega) (by rw [m_hd_len]; omega)
  rw [show fD_write_23 (fD_write_16 (999997 + 1 + 1)) FUEL 37 0 0 wa = _ from gb, show (0 : Int32) + 1 = 1 from rfl, fD_write_16, if_neg (by decide)]
  rw [← m_head_hd] at hb
  obtain ⟨w3, g3, h3⟩ := qU.wr23g (K := fD_write_16 (999997 + 1)) hz14' hB hn 1 0 (Or.inr ⟨rfl, rfl⟩) n 0 FUEL wb _ hb (by show _ < 1000000; omega) (by omega) (by rw [m_head_len]; omega)
  rw [show fD_write_23 (fD_write_16 (999997 + 1)) FUEL 37 1 0 wb = _ from g3, show (1 : Int32) + 1 = 2 from rfl, fD_write_16, if_pos (by decide), h3.C, Option.bind_some]
  obtain ⟨f3, o3⟩ := h3.O
  rw [o3, Option.bind_some]
  have hl3 : (m_head sz dp (m_mb bi bk bL 1 n 0) ++ m_mb bi bk bL 0 n 0).length ≤ 830 := by rw [List.length_append, m_head_len]; omega
  generalize hH : m_head sz dp (m_mb bi bk bL 1 n 0) ++ m_mb bi bk bL 0 n 0 = H at *
  obtain ⟨w4, g4, h4⟩ := h3.layFour 0 (by omega)
  obtain ⟨f4, o4⟩ := h4.O
  rw [g4, q_call, q_kV, o4, Option.bind_some]
  obtain ⟨w5, g5, h5⟩ := h4.layFour 1785737827 (by simp only [List.length_append, b4_len]; omega)
  obtain ⟨f5, o5⟩ := h5.O
  rw [g5, q_call, q_kV, o5, Option.bind_some]
  obtain ⟨w6, g6, h6⟩ := h5.stream k hz8' hP hm hpb (by simp only [List.length_append, b4_len]; omega)
  generalize hS : m_str tw th sz dp nm sy sp pt pb pk lv pL m = S at *
  rw [g6, q_call, q_kV, h6.C, Option.bind_some, q_let]
  rw [show H ++ b4 0 ++ b4 1785737827 ++ S = H ++ (b4 0 ++ (b4 1785737827 ++ S)) by simp only [List.append_assoc]] at h6 ⊢
  have ev : Int32.ofNat (H ++ (b4 0 ++ (b4 1785737827 ++ S))).length - Int32.ofNat (H).length = Int32.ofNat (8 + (S).length) := by
    rw [List.length_append, show Int32.ofNat ((H).length + (b4 0 ++ (b4 1785737827 ++ S)).length) = Int32.ofNat (H).length + Int32.ofNat (b4 0 ++ (b4 1785737827 ++ S)).length from Int32.ofNat_add _ _]
    rw [show (b4 0 ++ (b4 1785737827 ++ S)).length = 8 + (S).length by simp [b4_len]; omega]
    grind
  rw [ev]
  obtain ⟨w7, X', g7, h7, l7, t7⟩ := qU.wr95 (A := H) (B := b4 1785737827 ++ S) (Int32.ofNat (8 + (S).length)) (by omega) 4 0 FUEL w6 (b4 0) h6 rfl (by decide) (by omega)
  have eX : X' = b4 (Int32.ofNat (8 + (S).length)) := by
    have t0 := t7 0 (by omega) (by omega) (by decide)
    have t1 := t7 1 (by omega) (by omega) (by decide)
    have t2 := t7 2 (by omega) (by omega) (by decide)
    have t3 := t7 3 (by omega) (by omega) (by decide)
    rw [if_pos (by omega)] at t0 t1 t2 t3
    rw [show (24 : Int32) - 8 * Int32.ofNat 0 = 24 from rfl, q_shr _ 24 (by decide)] at t0
    rw [show (24 : Int32) - 8 * Int32.ofNat 1 = 16 from rfl, q_shr _ 16 (by decide)] at t1
    rw [show (24 : Int32) - 8 * Int32.ofNat 2 = 8 from rfl, q_shr _ 8 (by decide)] at t2
    rw [show (24 : Int32) - 8 * Int32.ofNat 3 = 0 from rfl, q_shr _ 0 (by decide)] at t3
    exact q_list4 l7 t0 t1 t2 t3
  have ef : H ++ (X' ++ (b4 1785737827 ++ S)) = m_file tw th sz dp nm sy sp bi bk bL n pt pb pk lv pL m := by
    rw [eX, ← hH, ← hS]
    unfold m_file
    rw [List.append_assoc]
    rfl
  rw [ef] at h7
  obtain ⟨z', g', a1, a2, a3, a4, a5, a6, a7⟩ := h7
  refine ⟨w7, z', g', ?_, a1, (F1.tr F2).tr a2, fun k h0 h20 => ?_, a4, ?_, a5, a6⟩
  · rw [show fD_write_95 FUEL 37 (Int32.ofNat (H).length) (Int32.ofNat (8 + (S).length)) 0 w6 = _ from g7, ← ef]
    congr 4
    simp [l7, b4_len]
  · rw [a3 k h20]
    unfold upd
    rw [if_neg h20, if_neg h0]
  · rw [a3 0 (by decide)]
    rfl
end
/-- the bytes of a file, as numbers -/
def nb (L : List Int32) (p : Nat) : Nat := (L[p]?.getD 0).toInt.toNat
def nb2 (L : List Int32) (p : Nat) : Nat := nb L p * 256 + nb L (p + 1)
def nb4 (L : List Int32) (p : Nat) : Nat := ((nb L p * 256 + nb L (p + 1)) * 256 + nb L (p + 2)) * 256 + nb L (p + 3)
def qby (L : List Int32) : Prop := ∀ i (h : i < L.length), 0 ≤ (L[i]).toInt ∧ (L[i]).toInt ≤ 255
theorem q_and_bd : ∀ x : Int32, x &&& 255 = x → 0 ≤ x.toInt ∧ x.toInt ≤ 255 := by
  intro x h
  have h1 : (x &&& 255).toBitVec.toNat ≤ 255 := by
    show (x.toBitVec &&& 255#32).toNat ≤ 255
    rw [BitVec.toNat_and]
    exact Nat.and_le_right
  rw [h] at h1
  have h2 : x.toInt = x.toBitVec.toNat := by
    show x.toBitVec.toInt = _
    rw [BitVec.toInt_eq_toNat_of_lt (by omega)]
  omega
theorem qB.by {w : PW} {a r mo n : Nat} {L : List Int32} {f : Nat → Int32} (h : qB w a r mo n L f) : qby L := fun i hi => q_and_bd _ (h.b255 i hi)
section
variable {L : List Int32}
theorem nb_le (hL : qby L) (p : Nat) : nb L p ≤ 255 := by
  unfold nb
  by_cases hp : p < L.length
  · rw [List.getElem?_eq_getElem hp]
    have := hL p hp
    show (L[p]).toInt.toNat ≤ 255
    omega
  · rw [List.getElem?_eq_none (by omega)]
    show (0 : Int32).toInt.toNat ≤ 255
    decide
theorem nb2_lt (hL : qby L) (p : Nat) : nb2 L p < 65536 := by
  have h0 := nb_le hL p
  have h1 := nb_le hL (p + 1)
  unfold nb2
  omega
theorem nb4_lt (hL : qby L) (p : Nat) : nb4 L p < 4294967296 := by
  have h0 := nb_le hL p
  have h1 := nb_le hL (p + 1)
  have h2 := nb_le hL (p + 2)
  have h3 := nb_le hL (p + 3)
  unfold nb4
  omega
theorem q_byte_in (hL : qby L) (p : Nat) (hp : p < L.length) (hq : p < 2147483648) : q_byte L (Int32.ofNat p) = Int32.ofNat (nb L p) := by
  have h1 := hL p hp
  unfold q_byte nb
  rw [if_neg (by rw [q_lti, q_ofi hq]; show ¬ (p : Int) < 0; omega), q_tno hq, List.getElem?_eq_getElem hp]
  show L[p] = Int32.ofNat (L[p]).toInt.toNat
  apply q_i32
  rw [q_ofi (by omega)]
  omega
theorem q_byte_max (hL : qby L) (p : Nat) (hq : p < 2147483648) : p_max 0 (q_byte L (Int32.ofNat p)) = Int32.ofNat (nb L p) := by
  by_cases hp : p < L.length
  · rw [q_byte_in hL p hp hq]
    exact q_max0 (by have := nb_le hL p; omega)
  · unfold q_byte nb
    rw [if_neg (by rw [q_lti, q_ofi hq]; show ¬ (p : Int) < 0; omega), q_tno hq, List.getElem?_eq_none (by omega)]
    decide
theorem q_64n (k : Nat) (h : k < 2147483648) : Int32.toInt64 (Int32.ofNat k) = Int64.ofNat k := by
  apply Int64.toInt_inj.mp
  rw [Int32.toInt_toInt64, q_ofi h, Int64.toInt_ofNat_of_lt (by omega)]
theorem q_32n (k : Nat) : Int64.toInt32 (Int64.ofNat k) = Int32.ofNat k := by
  apply Int32.toBitVec_inj.mp
  simp
theorem q_num_step (hL : qby L) (p v k : Nat) (hq : p + k < 2147483648) : Int64.ofNat v * 256 + Int32.toInt64 (p_max 0 (q_byte L (Int32.ofNat p + Int32.ofNat k))) = Int64.ofNat (v * 256 + nb L (p + k)) := by
  rw [show Int32.ofNat p + Int32.ofNat k = Int32.ofNat (p + k) from (Int32.ofNat_add _ _).symm, q_byte_max hL _ hq, q_64n _ (by have := nb_le hL (p + k); omega)]
  rw [show Int64.ofNat (v * 256 + nb L (p + k)) = Int64.ofNat (v * 256) + Int64.ofNat (nb L (p + k)) from Int64.ofNat_add _ _, show Int64.ofNat (v * 256) = Int64.ofNat v * Int64.ofNat 256 from Int64.ofNat_mul _ _]
  rfl
theorem q_num4 (hL : qby L) (p : Nat) (hq : p < 2000000000) : q_num L (Int32.ofNat p) 4 0 0 = Int64.ofNat (nb4 L p) := by
  unfold nb4
  rw [← q_num_step hL p _ 3 (by omega), ← q_num_step hL p _ 2 (by omega), ← q_num_step hL p _ 1 (by omega)]
  have e0 := q_num_step hL p 0 0 (by omega)
  rw [Nat.zero_mul, Nat.zero_add, Nat.add_zero] at e0
  rw [← e0]
  rfl
theorem q_num2 (hL : qby L) (p : Nat) (hq : p < 2000000000) : q_num L (Int32.ofNat p) 2 0 0 = Int64.ofNat (nb2 L p) := by
  unfold nb2
  rw [← q_num_step hL p _ 1 (by omega)]
  have e0 := q_num_step hL p 0 0 (by omega)
  rw [Nat.zero_mul, Nat.zero_add, Nat.add_zero] at e0
  rw [← e0]
  rfl
theorem q_c64e {x y : Nat} (hx : x < 9000000000000000000) (hy : y < 9000000000000000000) : lg_cmp (Int64.ofNat x) (Int64.ofNat y) = 0 ↔ x = y := by
  rw [q_cmp_eq, Int64.toInt_ofNat_of_lt (by omega), Int64.toInt_ofNat_of_lt (by omega)]
  omega
theorem q_c64g {x y : Nat} (hx : x < 9000000000000000000) (hy : y < 9000000000000000000) : 0 < lg_cmp (Int64.ofNat x) (Int64.ofNat y) ↔ y < x := by
  rw [q_cmp_gt, Int64.toInt_ofNat_of_lt (by omega), Int64.toInt_ofNat_of_lt (by omega)]
  omega
theorem q_c64l {x y : Nat} (hx : x < 9000000000000000000) (hy : y < 9000000000000000000) : lg_cmp (Int64.ofNat x) (Int64.ofNat y) < 0 ↔ x < y := by
  rw [q_cmp_lt, Int64.toInt_ofNat_of_lt (by omega), Int64.toInt_ofNat_of_lt (by omega)]
  omega
theorem q_c64le {x y : Nat} (hx : x < 9000000000000000000) (hy : y < 9000000000000000000) : lg_cmp (Int64.ofNat x) (Int64.ofNat y) ≤ 0 ↔ x ≤ y := by
  have h := q_c64g hx hy
  constructor
  · intro h1
    by_cases h2 : y < x
    · have := h.mpr h2
      exact absurd h1 (by grind)
    · omega
  · intro h1
    have : ¬ 0 < lg_cmp (Int64.ofNat x) (Int64.ofNat y) := fun h2 => by have := h.mp h2; omega
    grind
theorem q_c64ge {x y : Nat} (hx : x < 9000000000000000000) (hy : y < 9000000000000000000) : 0 ≤ lg_cmp (Int64.ofNat x) (Int64.ofNat y) ↔ y ≤ x := by
  have h := q_c64l hx hy
  constructor
  · intro h1
    by_cases h2 : x < y
    · have := h.mpr h2
      exact absurd h1 (by grind)
    · omega
  · intro h1
    have : ¬ lg_cmp (Int64.ofNat x) (Int64.ofNat y) < 0 := fun h2 => by have := h.mp h2; omega
    grind
theorem q_subn {a b : Nat} (h : a ≤ b) (hb : b < 2147483648) : Int32.ofNat b - Int32.ofNat a = Int32.ofNat (b - a) := by
  apply q_i32
  rw [q_sub (by rw [q_ofi hb, q_ofi (by omega)]; omega) (by rw [q_ofi hb, q_ofi (by omega)]; omega), q_ofi hb, q_ofi (by omega), q_ofi (by omega)]
  omega
end
theorem q_of32 {x y : Nat} (hx : x < 4294967296) (hy : y < 4294967296) : Int32.ofNat x = Int32.ofNat y ↔ x = y := by
  constructor
  · intro h
    have h1 := congrArg (fun z : Int32 => z.toBitVec.toNat) h
    simp only [Int32.toBitVec_ofNat', BitVec.toNat_ofNat] at h1
    omega
  · intro h
    rw [h]
/-- where a box ends -/
def s_end (L : List Int32) (p e : Nat) (cut : Bool) : Option Nat := if e < p + 8 then none else if nb4 L p = 0 then some e else if nb4 L p < 8 then none else if p + nb4 L p ≤ e then some (p + nb4 L p) else if cut = true ∧ nb4 L (p + 4) = 1785737827 then some e else none
def oN : Option Nat → Int32
  | none => -1
  | some x => Int32.ofNat x
theorem s_end_le {L : List Int32} {p e : Nat} {cut : Bool} {x : Nat} (h : s_end L p e cut = some x) : p + 8 ≤ x ∧ x ≤ e := by
  unfold s_end at h
  (repeat' split at h) <;> first | (cases h; done) | (injection h with h; omega)
theorem oN_ne {x : Nat} (h : x < 2147483648) : ¬ Int32.ofNat x = -1 := fun e => by
  have := congrArg Int32.toInt e
  rw [q_ofi h] at this
  have e1 : (-1 : Int32).toInt = -1 := rfl
  omega
/-- the box reader since w0 -/
def qXS (w0 : PW) (r0 s0 m0 k0 : Nat) (w : PW) (col fr en : Int32) (A B : List Int32) : Prop := ∃ r n f s m g, w.1[22]? = some (.inr (1, [.ref 14, .ref 23, .ref 25, .int col, .int fr, .int en])) ∧ qN w 23 r n A f ∧ qN w 25 s m B g ∧ qF (fun x => x = 22 ∨ x = 23 ∨ x = 25 ∨ x = r0 ∨ x = s0) w0 w ∧ (r = r0 ∨ w0.1.length ≤ r) ∧ (s = s0 ∨ w0.1.length ≤ s) ∧ r ≠ s ∧ m0 ≤ n ∧ k0 ≤ m ∧ w.2.2 + 7 * (m0 + k0) ≤ w0.2.2 + 7 * (n + m)
section
variable {w0 w : PW} {r0 s0 m0 k0 : Nat} {col fr en : Int32} {A B : List Int32} {rt nt : Nat} {L : List Int32} {ft : Nat → Int32}
theorem q_ne_row {w : PW} {x y : Nat} {c : Nat} {fs : List Value} {t n : Nat} {g} (h : w.1[x]? = some (.inr (c, fs))) (k : w.1[y]? = some (.inl (t, n, g))) : x ≠ y := fun e => by
  rw [e, k] at h
  cases h
theorem qXS.o (h : qXS w0 r0 s0 m0 k0 w col fr en A B) : w.1[22]? = some (.inr (1, [.ref 14, .ref 23, .ref 25, .int col, .int fr, .int en])) := by
  obtain ⟨r, n, f, s, m, g, h1, -⟩ := h
  exact h1
theorem qXS.by (h : qXS w0 r0 s0 m0 k0 w col fr en A B) (hb : qB w0 14 rt 20000 nt L ft) (hd : rt ≠ 22 ∧ rt ≠ 23 ∧ rt ≠ 25 ∧ rt ≠ r0 ∧ rt ≠ s0 ∧ 14 ≠ r0 ∧ 14 ≠ s0) : qB w 14 rt 20000 nt L ft := by
  obtain ⟨r, n, f, s, m, g, -, -, -, h4, -⟩ := h
  exact hb.keep (h4.2.1 14 (q_lt_len hb.o) (by omega)) (h4.2.1 rt (q_lt_len hb.d) (by omega))
theorem qXS.put (h : qXS w0 r0 s0 m0 k0 w col fr en A B) (k : Nat) (v : Int32) (hk : k = 3 ∨ k = 4 ∨ k = 5) : ∃ w', p_put w 22 1 k (.int v) = some w' ∧ qXS w0 r0 s0 m0 k0 w' (if k = 3 then v else col) (if k = 4 then v else fr) (if k = 5 then v else en) A B := by
  obtain ⟨r, n, f, s, m, g, h1, h2, h3, h4, h5, h6, h7, h8, h9, hA⟩ := h
  obtain ⟨w1, g1, s1, F1⟩ := o_put (k := k) h1 (by simp; omega) (.int v)
  refine ⟨w1, g1, r, n, f, s, m, g, ?_, ?_, ?_, ?_, h5, h6, h7, h8, h9, by rw [F1.2.2]; exact hA⟩
  · rcases hk with e | e | e <;> subst e <;> exact s1
  · exact ⟨F1.at h2.1 (by decide), F1.at h2.2.1 (q_ne_row h1 h2.2.1).symm, h2.2.2⟩
  · exact ⟨F1.at h3.1 (by decide), F1.at h3.2.1 (q_ne_row h1 h3.2.1).symm, h3.2.2⟩
  · exact h4.tr F1.fr (fun x _ hx => Or.inl hx)
theorem qXS.unknown (h : qXS w0 r0 s0 m0 k0 w col fr en A B) (p e : Int32) (hA : A.length < 2600) (hB : B.length < 2600) : ∃ w', fBoxReader_keepUnknown 22 p e w = some (.inl none, w') ∧ qXS w0 r0 s0 m0 k0 w' col fr en (A ++ [p]) (B ++ [e]) := by
  obtain ⟨r, n, f, s, m, g, h1, h2, h3, h4, h5, h6, h7, h8, h9, hC⟩ := h
  unfold fBoxReader_keepUnknown
  have ho2 : ∃ fs, p_obj w 23 5 = some fs := ⟨_, q_obj h2.1⟩
  obtain ⟨f2, o2⟩ := ho2
  rw [q_getR (k := 1) h1 rfl, Option.bind_some, o2, Option.bind_some]
  obtain ⟨w1, r1, n1, f1, g1, a1, a2, a3, a4, a5⟩ := h2.append p hA
  have ne1 := q_ne_row h1 h2.2.1
  have ne2 := q_ne_row h3.1 h2.2.1
  have b1 : w1.1[22]? = some (.inr (1, [.ref 14, .ref 23, .ref 25, .int col, .int fr, .int en])) := a2.at h1 (by omega)
  have ne3 : s ≠ 23 := (q_ne_row h2.1 h3.2.1).symm
  have b3 : qN w1 25 s m B g := ⟨a2.at h3.1 (by omega), a2.at h3.2.1 (by omega), h3.2.2⟩
  rw [g1, q_call, q_kV, q_getR (k := 2) b1 rfl, Option.bind_some, q_obj b3.1, Option.bind_some]
  obtain ⟨w2, s2, m2, f3, g2, c1, c2, c3, c4, c5⟩ := b3.append e hB
  have ne4 := q_ne_row b1 b3.2.1
  have ne5 := q_ne_row a1.1 b3.2.1
  have ls := q_lt_len h3.2.1
  have lr1 := q_lt_len a1.2.1
  have lw := a2.1
  have l0 := h4.1
  have nr1s : r1 ≠ s := by rcases a3 with e | e <;> omega
  have ne6 : r1 ≠ 25 := (q_ne_row b3.1 a1.2.1).symm
  rw [g2, q_call, q_kV]
  refine ⟨w2, rfl, r1, n1, f1, s2, m2, f3, c2.at b1 (by omega), ⟨c2.at a1.1 (by omega), c2.at a1.2.1 (by omega), a1.2.2⟩, c1, ?_, by omega, by omega, by omega, by omega, by omega, by omega⟩
  refine (h4.tr a2 (fun x hx hq => ?_)).tr c2 (fun x hx hq => ?_)
  · rcases hq with e | e
    · exact Or.inr (Or.inl e)
    · rcases h5 with e5 | e5
      · exact Or.inr (Or.inr (Or.inr (Or.inl (by omega))))
      · omega
  · rcases hq with e | e
    · exact Or.inr (Or.inr (Or.inl e))
    · rcases h6 with e6 | e6
      · exact Or.inr (Or.inr (Or.inr (Or.inr (by omega))))
      · omega
theorem qXS.kind (h : qXS w0 r0 s0 m0 k0 w col fr en A B) (hb : qB w 14 rt 20000 nt L ft) (p : Nat) (hp : p ≤ 40000) : fBoxReader_kindAt 22 (Int32.ofNat p) w = some (.inl (some (.int (Int32.ofNat (nb4 L (p + 4))))), w) := by
  unfold fBoxReader_kindAt
  rw [q_getR (k := 0) h.o rfl, Option.bind_some, q_obj hb.o, Option.bind_some, show Int32.ofNat p + 4 = Int32.ofNat (p + 4) from (Int32.ofNat_add p 4).symm, hb.num4, q_call, q_kJ, q_num4 hb.by _ (by omega), q_32n]
theorem qXS.end (h : qXS w0 r0 s0 m0 k0 w col fr en A B) (hb : qB w 14 rt 20000 nt L ft) (p e : Nat) (hp : p ≤ e) (he : e ≤ 20000) (cut : Bool) : fBoxReader_boxEnd 22 (Int32.ofNat p) (Int32.ofNat e) (if cut = true then 1 else 0) w = some (.inl (some (.int (oN (s_end L p e cut)))), w) := by
  have hlt := nb4_lt hb.by p
  have hlt4 := nb4_lt hb.by (p + 4)
  unfold fBoxReader_boxEnd s_end
  rw [q_subn hp (by omega)]
  have c8 : ((8 : Int32) ≤ Int32.ofNat (e - p)) ↔ 8 ≤ e - p := q_of_le (m := 8) (n := e - p) (by omega) (by omega)
  have c0 : lg_cmp (Int64.ofNat (nb4 L p)) 0 = 0 ↔ nb4 L p = 0 := q_c64e (x := nb4 L p) (y := 0) (by omega) (by omega)
  have cg : 0 ≤ lg_cmp (Int64.ofNat (nb4 L p)) 8 ↔ 8 ≤ nb4 L p := q_c64ge (x := nb4 L p) (y := 8) (by omega) (by omega)
  have cl := q_c64le (x := nb4 L p) (y := e - p) (by omega) (by omega)
  have hk : Int32.ofNat (nb4 L (p + 4)) = 1785737827 ↔ nb4 L (p + 4) = 1785737827 := q_of32 (x := nb4 L (p + 4)) (y := 1785737827) hlt4 (by omega)
  by_cases h8 : e < p + 8
  · rw [if_neg (fun hh => by have := c8.mp hh; omega), if_pos h8]
    rfl
  · rw [if_pos (c8.mpr (by omega)), if_neg h8, q_getR (k := 0) h.o rfl, Option.bind_some, q_obj hb.o, Option.bind_some, hb.num4, q_call, q_kJ, q_num4 hb.by _ (by omega), q_64n _ (by omega)]
    by_cases h0 : nb4 L p = 0
    · rw [if_neg (not_not_intro (c0.mpr h0)), if_pos h0]
      rfl
    · rw [if_pos (fun hh => h0 (c0.mp hh)), if_neg h0]
      by_cases h1 : nb4 L p < 8
      · rw [if_neg (fun hh => by have := cg.mp hh; omega), if_pos h1]
        rfl
      · rw [if_pos (cg.mpr (by omega)), if_neg h1]
        by_cases h2 : p + nb4 L p ≤ e
        · rw [if_pos (cl.mpr (by omega)), if_pos h2, q_32n, show Int32.ofNat p + Int32.ofNat (nb4 L p) = Int32.ofNat (p + nb4 L p) from (Int32.ofNat_add _ _).symm]
          rfl
        · rw [if_neg (fun hh => by have := cl.mp hh; omega), if_neg h2]
          cases cut
          · rw [if_pos (show (if false = true then (1 : Int32) else 0) = 0 from rfl), if_neg (by rintro ⟨hc, -⟩; cases hc)]
            rfl
          · rw [if_neg (show ¬ (if true = true then (1 : Int32) else 0) = 0 by decide), q_obj h.o, Option.bind_some, h.kind hb p (by omega), q_call, q_kI]
            by_cases h3 : nb4 L (p + 4) = 1785737827
            · rw [if_neg (not_not_intro (hk.mpr h3)), if_pos ⟨rfl, h3⟩]
              rfl
            · rw [if_pos (fun hh => h3 (hk.mp hh)), if_neg (fun hh => h3 hh.2)]
              rfl
end
def uA (U : List (Nat × Nat)) : List Int32 := U.map fun x => Int32.ofNat x.1
def uB (U : List (Nat × Nat)) : List Int32 := U.map fun x => Int32.ofNat x.2
theorem uA_len (U : List (Nat × Nat)) : (uA U).length = U.length := List.length_map _
theorem uB_len (U : List (Nat × Nat)) : (uB U).length = U.length := List.length_map _
theorem uA_snoc (U : List (Nat × Nat)) (p x : Nat) : uA (U ++ [(p, x)]) = uA U ++ [Int32.ofNat p] := by unfold uA; simp
theorem uB_snoc (U : List (Nat × Nat)) (p x : Nat) : uB (U ++ [(p, x)]) = uB U ++ [Int32.ofNat x] := by unfold uB; simp
/-- the boxes inside the header -/
def s_in (L : List Int32) (to : Nat) : Nat → Bool → Nat → Int32 → List (Nat × Nat) → Option Nat × Int32 × List (Nat × Nat)
  | 0, _, _, c, U => (none, c, U)
  | f + 1, first, p, c, U => if first = false ∧ to ≤ p then (none, c, U) else
    match s_end L p to false with
    | none => (some p, c, U)
    | some x => if first = true then (if nb4 L (p + 4) = 1768449138 ∧ x = p + 22 then s_in L to f false x c U else (some p, c, U))
      else if nb4 L (p + 4) = 1668246642 ∧ p + 15 ≤ x ∧ nb L (p + 8) = 1 then s_in L to f false x (Int32.ofNat (nb4 L (p + 11))) U else s_in L to f false x c (U ++ [(p, x)])
theorem s_in_len (L : List Int32) (to : Nat) : ∀ (f : Nat) (first : Bool) (p : Nat) (c : Int32) (U : List (Nat × Nat)), 8 * U.length ≤ p → p ≤ to → 8 * (s_in L to f first p c U).2.2.length ≤ to
  | 0, _, p, c, U, h, k => by
    show 8 * U.length ≤ to
    omega
  | f + 1, first, p, c, U, h, k => by
    rw [s_in]
    by_cases h1 : first = false ∧ to ≤ p
    · rw [if_pos h1]
      show 8 * U.length ≤ to
      omega
    · rw [if_neg h1]
      cases hs : s_end L p to false with
      | none =>
        show 8 * U.length ≤ to
        omega
      | some x =>
        have := s_end_le hs
        dsimp only
        split
        · split
          · exact s_in_len L to f _ _ _ _ (by omega) (by omega)
          · show 8 * U.length ≤ to
            omega
        · split
          · exact s_in_len L to f _ _ _ _ (by omega) (by omega)
          · exact s_in_len L to f _ _ _ _ (by simp; omega) (by omega)
section
variable {w0 w : PW} {r0 s0 m0 k0 : Nat} {col fr en : Int32} {A B : List Int32} {rt nt : Nat} {L : List Int32} {ft : Nat → Int32}
theorem qB.gn {a mo : Nat} (h : qB w a rt mo nt L ft) (p : Nat) (hp : p < L.length) : fBytes_get a (Int32.ofNat p) w = some (.inl (some (.int (Int32.ofNat (nb L p)))), w) := by
  have hl : L.length ≤ 20000 := by have := h.2.2.2.1; have := h.2.2.2.2.1; omega
  rw [h.get, ← q_byte_in h.by p hp (by omega)]
  rfl
theorem qXS.in5 (hb : qB w0 14 rt 20000 nt L ft) (hd : rt ≠ 22 ∧ rt ≠ 23 ∧ rt ≠ 25 ∧ rt ≠ r0 ∧ rt ≠ s0 ∧ 14 ≠ r0 ∧ 14 ≠ s0) (to : Nat) (hto : to ≤ L.length) : ∀ (f n p F : Nat) (w : PW) (c : Int32) (U : List (Nat × Nat)), qXS w0 r0 s0 m0 k0 w c fr en (uA U) (uB U) → p ≤ to → to < p + 8 * f → f < F → n + f ≤ 19000 → 8 * U.length ≤ p → ∃ w', fBoxReader_readHeaderBoxes_5 F 22 (Int32.ofNat to) (Int32.ofNat p) (Int32.ofNat n) w = some (.inl (some (.int (oN (s_in L to f (decide (n = 0)) p c U).1))), w') ∧ qXS w0 r0 s0 m0 k0 w' (s_in L to f (decide (n = 0)) p c U).2.1 fr en (uA (s_in L to f (decide (n = 0)) p c U).2.2) (uB (s_in L to f (decide (n = 0)) p c U).2.2)
  | 0, n, p, F, w, c, U, h, hp, hf, _, _, _ => by omega
  | f + 1, n, p, F + 1, w, c, U, h, hp, hf, hF, hn, hU => by
    have hl : L.length ≤ 20000 := hb.2.2.2.1
    have hbw := h.by hb hd
    have c2 : ¬ (20000 : Int32) ≤ Int32.ofNat n := fun hh => by
      have := (q_of_le (m := 20000) (n := n) (by omega) (by omega)).mp hh
      omega
    have cn : Int32.ofNat n = 0 ↔ n = 0 := q_of32 (y := 0) (by omega) (by omega)
    have ct : Int32.ofNat to ≤ Int32.ofNat p ↔ to ≤ p := q_of_le (by omega) (by omega)
    have e1 : Int32.ofNat n + 1 = Int32.ofNat (n + 1) := (Int32.ofNat_add n 1).symm
    rw [fBoxReader_readHeaderBoxes_5, if_neg c2, s_in]
    have go : ¬ (decide (n = 0) = false ∧ to ≤ p) → (if Int32.ofNat n = 0 then fBoxReader_readHeaderBoxes_23 (fBoxReader_readHeaderBoxes_5 F) 22 (Int32.ofNat to) (Int32.ofNat p) (Int32.ofNat n) w else if Int32.ofNat to ≤ Int32.ofNat p then some (.inl (some (.int (-1))), w) else fBoxReader_readHeaderBoxes_23 (fBoxReader_readHeaderBoxes_5 F) 22 (Int32.ofNat to) (Int32.ofNat p) (Int32.ofNat n) w) = fBoxReader_readHeaderBoxes_23 (fBoxReader_readHeaderBoxes_5 F) 22 (Int32.ofNat to) (Int32.ofNat p) (Int32.ofNat n) w := by
      intro hh
      by_cases h0 : n = 0
      · rw [if_pos (cn.mpr h0)]
      · rw [if_neg (fun k => h0 (cn.mp k)), if_neg (fun k => hh ⟨by simp [h0], ct.mp k⟩)]
    by_cases h1 : decide (n = 0) = false ∧ to ≤ p
    · have h0 : ¬ n = 0 := by simpa using h1.1
      rw [if_neg (fun k => h0 (cn.mp k)), if_pos (ct.mpr h1.2), if_pos h1]
      exact ⟨w, rfl, h⟩
    · rw [go h1, if_neg h1]
      unfold fBoxReader_readHeaderBoxes_23 fBoxReader_readHeaderBoxes_127 fBoxReader_readHeaderBoxes_134
      have he := h.end hbw p to hp (by omega) false
      rw [q_obj h.o, Option.bind_some, show fBoxReader_boxEnd 22 (Int32.ofNat p) (Int32.ofNat to) 0 w = _ from he, q_call, q_kI]
      cases hs : s_end L p to false with
      | none =>
        rw [if_neg (not_not_intro (show oN none = -1 from rfl))]
        exact ⟨w, rfl, h⟩
      | some x =>
        have hx := s_end_le hs
        rw [show oN (some x) = Int32.ofNat x from rfl]
        dsimp only
        have hk4 := nb4_lt hbw.by (p + 4)
        have esz : Int32.ofNat x - Int32.ofNat p - 8 = Int32.ofNat (x - p - 8) := by
          rw [q_subn (by omega) (by omega)]
          exact q_subn (a := 8) (by omega) (by omega)
        rw [if_pos (oN_ne (by omega)), q_let, esz, e1]
        have nx : ∀ (w' : PW) (c' : Int32) (U' : List (Nat × Nat)), qXS w0 r0 s0 m0 k0 w' c' fr en (uA U') (uB U') → 8 * U'.length ≤ x → ∃ w'', fBoxReader_readHeaderBoxes_5 F 22 (Int32.ofNat to) (Int32.ofNat x) (Int32.ofNat (n + 1)) w' = some (.inl (some (.int (oN (s_in L to f false x c' U').1))), w'') ∧ qXS w0 r0 s0 m0 k0 w'' (s_in L to f false x c' U').2.1 fr en (uA (s_in L to f false x c' U').2.2) (uB (s_in L to f false x c' U').2.2) := fun w' c' U' h' hU' => by
          have := qXS.in5 hb hd to hto f (n + 1) x F w' c' U' h' (by omega) (by omega) (by omega) (by omega) hU'
          rw [show decide (n + 1 = 0) = false from rfl] at this
          exact this
        by_cases h0 : n = 0
        · rw [if_neg (fun k => k (cn.mpr h0)), show decide (n = 0) = true by simp [h0], if_pos rfl, q_obj h.o, Option.bind_some, h.kind hbw p (by omega), q_call, q_kI]
          have ck : Int32.ofNat (nb4 L (p + 4)) = 1768449138 ↔ nb4 L (p + 4) = 1768449138 := q_of32 (y := 1768449138) hk4 (by omega)
          have c14 : Int32.ofNat (x - p - 8) = 14 ↔ x - p - 8 = 14 := q_of32 (y := 14) (by omega) (by omega)
          by_cases h2 : nb4 L (p + 4) = 1768449138
          · rw [if_neg (not_not_intro (ck.mpr h2))]
            by_cases h3 : x = p + 22
            · rw [if_pos (c14.mpr (by omega)), if_pos ⟨h2, h3⟩, q_let]
              exact nx w c U h (by omega)
            · rw [if_neg (fun k => by have := c14.mp k; omega), if_neg (fun k => h3 k.2)]
              exact ⟨w, rfl, h⟩
          · rw [if_pos (fun k => h2 (ck.mp k)), if_neg (fun k => h2 k.1)]
            exact ⟨w, rfl, h⟩
        · rw [if_pos (fun k => h0 (cn.mp k)), show decide (n = 0) = false by simp [h0], if_neg (by decide), q_obj h.o, Option.bind_some, h.kind hbw p (by omega), q_call, q_kI]
          have ck : Int32.ofNat (nb4 L (p + 4)) = 1668246642 ↔ nb4 L (p + 4) = 1668246642 := q_of32 (y := 1668246642) hk4 (by omega)
          have c7 : Int32.ofNat (x - p - 8) < 7 ↔ x - p - 8 < 7 := q_lt (n := 7) (by omega) (by omega)
          have keep : ∃ w', (p_obj w 22 1).bind (fun _ => p_call (fBoxReader_keepUnknown 22 (Int32.ofNat p) (Int32.ofNat x) w) <| p_kV fun w131 => p_let (Int32.ofNat (n + 1)) fun l4 => fBoxReader_readHeaderBoxes_5 F 22 (Int32.ofNat to) (Int32.ofNat x) l4 w131) = some (.inl (some (.int (oN (s_in L to f false x c (U ++ [(p, x)])).1))), w') ∧ qXS w0 r0 s0 m0 k0 w' (s_in L to f false x c (U ++ [(p, x)])).2.1 fr en (uA (s_in L to f false x c (U ++ [(p, x)])).2.2) (uB (s_in L to f false x c (U ++ [(p, x)])).2.2) := by
            obtain ⟨w1, g1, h1'⟩ := h.unknown (Int32.ofNat p) (Int32.ofNat x) (by rw [uA_len]; omega) (by rw [uB_len]; omega)
            rw [q_obj h.o, Option.bind_some, g1, q_call, q_kV, q_let]
            rw [← uA_snoc U p x, ← uB_snoc U p x] at h1'
            exact nx w1 c _ h1' (by simp; omega)
          by_cases h2 : nb4 L (p + 4) = 1668246642
          · rw [if_neg (not_not_intro (ck.mpr h2))]
            by_cases h3 : p + 15 ≤ x
            · have e8 : Int32.ofNat p + 8 = Int32.ofNat (p + 8) := (Int32.ofNat_add p 8).symm
              have hb1 := nb_le hbw.by (p + 8)
              have c1 : Int32.ofNat (nb L (p + 8)) = 1 ↔ nb L (p + 8) = 1 := q_of32 (y := 1) (by omega) (by omega)
              rw [if_neg (fun k => by have := c7.mp k; omega), q_getR (k := 0) h.o rfl, Option.bind_some, q_obj hbw.o, Option.bind_some, e8, hbw.gn (p + 8) (by omega), q_call, q_kI]
              by_cases h4 : nb L (p + 8) = 1
              · rw [if_neg (not_not_intro (c1.mpr h4)), if_pos ⟨h2, h3, h4⟩, q_getR (k := 0) h.o rfl, Option.bind_some, q_obj hbw.o, Option.bind_some, show Int32.ofNat (p + 8) + 3 = Int32.ofNat (p + 11) from (Int32.ofNat_add (p + 8) 3).symm, hbw.num4, q_call, q_kJ, q_num4 hbw.by _ (by omega), q_32n]
                obtain ⟨w1, g1, h1'⟩ := h.put 3 (Int32.ofNat (nb4 L (p + 11))) (Or.inl rfl)
                rw [g1, Option.bind_some, q_let]
                exact nx w1 _ U h1' (by omega)
              · rw [if_pos (fun k => h4 (c1.mp k)), if_neg (fun k => h4 k.2.2)]
                exact keep
            · rw [if_pos (c7.mpr (by omega)), if_neg (fun k => h3 k.2.1)]
              exact keep
          · rw [if_pos (fun k => h2 (ck.mp k)), if_neg (fun k => h2 k.1)]
            exact keep
end
/-- the boxes of a file -/
def s_bx (L : List Int32) (to : Nat) : Nat → Nat → Int32 → List (Nat × Nat) → Option Nat × Int32 × List (Nat × Nat) × Option (Nat × Nat)
  | 0, _, c, U => (some to, c, U, none)
  | f + 1, p, c, U => if to ≤ p then (some to, c, U, none) else
    match s_end L p to true with
    | none => (some p, c, U, none)
    | some x => if nb4 L (p + 4) = 1785737827 then (none, c, U, some (p + 8, x))
      else if nb4 L (p + 4) = 1785737832 then
        (match (s_in L x 2600 true (p + 8) c U).1 with
        | some b => (some b, (s_in L x 2600 true (p + 8) c U).2.1, (s_in L x 2600 true (p + 8) c U).2.2, none)
        | none => s_bx L to f x (s_in L x 2600 true (p + 8) c U).2.1 (s_in L x 2600 true (p + 8) c U).2.2)
      else if nb4 L (p + 4) = 1718909296 then s_bx L to f x c U else s_bx L to f x c (U ++ [(p, x)])
theorem s_bx_len (L : List Int32) (to : Nat) : ∀ (f p : Nat) (c : Int32) (U : List (Nat × Nat)), 8 * U.length ≤ p → p ≤ to → 8 * (s_bx L to f p c U).2.2.1.length ≤ to
  | 0, p, c, U, h, k => by
    show 8 * U.length ≤ to
    omega
  | f + 1, p, c, U, h, k => by
    rw [s_bx]
    by_cases h1 : to ≤ p
    · rw [if_pos h1]
      show 8 * U.length ≤ to
      omega
    · rw [if_neg h1]
      cases hs : s_end L p to true with
      | none =>
        show 8 * U.length ≤ to
        omega
      | some x =>
        have hx := s_end_le hs
        dsimp only
        split
        · show 8 * U.length ≤ to
          omega
        · split
          · have hi := s_in_len L x 2600 true (p + 8) c U (by omega) (by omega)
            cases hb : (s_in L x 2600 true (p + 8) c U).1 with
            | some b =>
              show 8 * (s_in L x 2600 true (p + 8) c U).2.2.length ≤ to
              omega
            | none => exact s_bx_len L to f x _ _ hi (by omega)
          · split
            · exact s_bx_len L to f x _ _ (by omega) (by omega)
            · exact s_bx_len L to f x _ _ (by simp; omega) (by omega)
theorem s_in_b (L : List Int32) (to : Nat) : ∀ (f : Nat) (first : Bool) (p : Nat) (c : Int32) (U : List (Nat × Nat)) (b : Nat), p ≤ to → (s_in L to f first p c U).1 = some b → b ≤ to
  | 0, _, p, c, U, b, k, h => by cases h
  | f + 1, first, p, c, U, b, k, h => by
    rw [s_in] at h
    by_cases h1 : first = false ∧ to ≤ p
    · rw [if_pos h1] at h
      cases h
    · rw [if_neg h1] at h
      cases hs : s_end L p to false with
      | none =>
        rw [hs] at h
        injection h with h
        omega
      | some x =>
        have hx := s_end_le hs
        rw [hs] at h
        dsimp only at h
        split at h
        · split at h
          · exact s_in_b L to f _ _ _ _ b (by omega) h
          · injection h with h
            omega
        · split at h
          · exact s_in_b L to f _ _ _ _ b (by omega) h
          · exact s_in_b L to f _ _ _ _ b (by omega) h
theorem s_bx_b (L : List Int32) (to : Nat) : ∀ (f p : Nat) (c : Int32) (U : List (Nat × Nat)) (b : Nat), p ≤ to → (s_bx L to f p c U).1 = some b → b ≤ to
  | 0, p, c, U, b, _, h => by
    injection h with h
    omega
  | f + 1, p, c, U, b, k, h => by
    rw [s_bx] at h
    by_cases h1 : to ≤ p
    · rw [if_pos h1] at h
      injection h with h
      omega
    · rw [if_neg h1] at h
      cases hs : s_end L p to true with
      | none =>
        rw [hs] at h
        injection h with h
        omega
      | some x =>
        have hx := s_end_le hs
        rw [hs] at h
        dsimp only at h
        by_cases k1 : nb4 L (p + 4) = 1785737827
        · rw [if_pos k1] at h
          cases h
        · rw [if_neg k1] at h
          by_cases k2 : nb4 L (p + 4) = 1785737832
          · rw [if_pos k2] at h
            cases hb : (s_in L x 2600 true (p + 8) c U).1 with
            | some b' =>
              rw [hb] at h
              have := s_in_b L x 2600 true (p + 8) c U b' (by omega) hb
              injection h with h
              omega
            | none =>
              rw [hb] at h
              exact s_bx_b L to f x _ _ b (by omega) h
          · rw [if_neg k2] at h
            by_cases k3 : nb4 L (p + 4) = 1718909296
            · rw [if_pos k3] at h
              exact s_bx_b L to f x _ _ b (by omega) h
            · rw [if_neg k3] at h
              exact s_bx_b L to f x _ _ b (by omega) h
/-- where the stream lies -/
theorem s_bx_at (L : List Int32) (to : Nat) : ∀ (f p : Nat) (c : Int32) (U : List (Nat × Nat)) (a b : Nat), p ≤ to → (s_bx L to f p c U).2.2.2 = some (a, b) → (s_bx L to f p c U).1 = none ∧ a ≤ b ∧ b ≤ to
  | 0, p, c, U, a, b, _, h => by cases h
  | f + 1, p, c, U, a, b, k, h => by
    rw [s_bx] at h ⊢
    by_cases h1 : to ≤ p
    · rw [if_pos h1] at h
      cases h
    · rw [if_neg h1] at h ⊢
      cases hs : s_end L p to true with
      | none =>
        rw [hs] at h
        cases h
      | some x =>
        have hx := s_end_le hs
        rw [hs] at h
        dsimp only at h ⊢
        by_cases k1 : nb4 L (p + 4) = 1785737827
        · rw [if_pos k1] at h ⊢
          injection h with h
          injection h with ha hb
          exact ⟨rfl, by omega, by omega⟩
        · rw [if_neg k1] at h ⊢
          by_cases k2 : nb4 L (p + 4) = 1785737832
          · rw [if_pos k2] at h ⊢
            cases hb : (s_in L x 2600 true (p + 8) c U).1 with
            | some b' =>
              rw [hb] at h
              cases h
            | none =>
              rw [hb] at h
              exact s_bx_at L to f x _ _ a b (by omega) h
          · rw [if_neg k2] at h ⊢
            by_cases k3 : nb4 L (p + 4) = 1718909296
            · rw [if_pos k3] at h ⊢
              exact s_bx_at L to f x _ _ a b (by omega) h
            · rw [if_neg k3] at h ⊢
              exact s_bx_at L to f x _ _ a b (by omega) h
def oF (fr : Int32) : Option (Nat × Nat) → Int32
  | none => fr
  | some (a, _) => Int32.ofNat a
def oE (en : Int32) : Option (Nat × Nat) → Int32
  | none => en
  | some (_, b) => Int32.ofNat b
section
variable {w0 w : PW} {r0 s0 m0 k0 : Nat} {col fr en : Int32} {A B : List Int32} {rt nt : Nat} {L : List Int32} {ft : Nat → Int32}
theorem qXS.bx13 (hb : qB w0 14 rt 20000 nt L ft) (hd : rt ≠ 22 ∧ rt ≠ 23 ∧ rt ≠ 25 ∧ rt ≠ r0 ∧ rt ≠ s0 ∧ 14 ≠ r0 ∧ 14 ≠ s0) : ∀ (f n p F : Nat) (w : PW) (c : Int32) (U : List (Nat × Nat)), qXS w0 r0 s0 m0 k0 w c fr en (uA U) (uB U) → p ≤ L.length → L.length < p + 8 * f → f < F → n + f ≤ 19000 → 8 * U.length ≤ p → ∃ w', fBoxReader_readBoxes_13 F 22 (Int32.ofNat L.length) (Int32.ofNat p) (Int32.ofNat n) w = some (.inl (some (.int (oN (s_bx L L.length f p c U).1))), w') ∧ qXS w0 r0 s0 m0 k0 w' (s_bx L L.length f p c U).2.1 (oF fr (s_bx L L.length f p c U).2.2.2) (oE en (s_bx L L.length f p c U).2.2.2) (uA (s_bx L L.length f p c U).2.2.1) (uB (s_bx L L.length f p c U).2.2.1)
  | 0, n, p, F, w, c, U, h, hp, hf, _, _, _ => by omega
  | f + 1, n, p, F + 1, w, c, U, h, hp, hf, hF, hn, hU => by
    have hl : L.length ≤ 20000 := hb.2.2.2.1
    have hbw := h.by hb hd
    have c2 : ¬ (20000 : Int32) ≤ Int32.ofNat n := fun hh => by
      have := (q_of_le (m := 20000) (n := n) (by omega) (by omega)).mp hh
      omega
    have ct : Int32.ofNat L.length ≤ Int32.ofNat p ↔ L.length ≤ p := q_of_le (by omega) (by omega)
    have e1 : Int32.ofNat n + 1 = Int32.ofNat (n + 1) := (Int32.ofNat_add n 1).symm
    rw [fBoxReader_readBoxes_13, if_neg c2, s_bx]
    by_cases h1 : L.length ≤ p
    · rw [if_pos (ct.mpr h1), if_pos h1]
      exact ⟨w, rfl, h⟩
    · rw [if_neg (fun k => h1 (ct.mp k)), if_neg h1]
      have he := h.end hbw p L.length hp (by omega) true
      rw [q_obj h.o, Option.bind_some, show fBoxReader_boxEnd 22 (Int32.ofNat p) (Int32.ofNat L.length) 1 w = _ from he, q_call, q_kI]
      cases hs : s_end L p L.length true with
      | none =>
        rw [if_neg (not_not_intro (show oN none = -1 from rfl))]
        exact ⟨w, rfl, h⟩
      | some x =>
        have hx := s_end_le hs
        rw [show oN (some x) = Int32.ofNat x from rfl]
        dsimp only
        have hk4 := nb4_lt hbw.by (p + 4)
        rw [if_pos (oN_ne (by omega)), q_obj h.o, Option.bind_some, h.kind hbw p (by omega), q_call, q_kI]
        have ck1 : Int32.ofNat (nb4 L (p + 4)) = 1785737827 ↔ nb4 L (p + 4) = 1785737827 := q_of32 (y := 1785737827) hk4 (by omega)
        have ck2 : Int32.ofNat (nb4 L (p + 4)) = 1785737832 ↔ nb4 L (p + 4) = 1785737832 := q_of32 (y := 1785737832) hk4 (by omega)
        have ck3 : Int32.ofNat (nb4 L (p + 4)) = 1718909296 ↔ nb4 L (p + 4) = 1718909296 := q_of32 (y := 1718909296) hk4 (by omega)
        have e8 : Int32.ofNat p + 8 = Int32.ofNat (p + 8) := (Int32.ofNat_add p 8).symm
        rw [e8]
        have nx : ∀ (w' : PW) (c' : Int32) (U' : List (Nat × Nat)), qXS w0 r0 s0 m0 k0 w' c' fr en (uA U') (uB U') → 8 * U'.length ≤ x → ∃ w'', fBoxReader_readBoxes_13 F 22 (Int32.ofNat L.length) (Int32.ofNat x) (Int32.ofNat (n + 1)) w' = some (.inl (some (.int (oN (s_bx L L.length f x c' U').1))), w'') ∧ qXS w0 r0 s0 m0 k0 w'' (s_bx L L.length f x c' U').2.1 (oF fr (s_bx L L.length f x c' U').2.2.2) (oE en (s_bx L L.length f x c' U').2.2.2) (uA (s_bx L L.length f x c' U').2.2.1) (uB (s_bx L L.length f x c' U').2.2.1) := fun w' c' U' h' hU' =>
          qXS.bx13 hb hd f (n + 1) x F w' c' U' h' (by omega) (by omega) (by omega) (by omega) hU'
        by_cases h2 : nb4 L (p + 4) = 1785737827
        · obtain ⟨w1, g1, a1⟩ := h.put 4 (Int32.ofNat (p + 8)) (Or.inr (Or.inl rfl))
          obtain ⟨w2, g2, a2⟩ := a1.put 5 (Int32.ofNat x) (Or.inr (Or.inr rfl))
          rw [if_neg (not_not_intro (ck1.mpr h2)), g1, Option.bind_some, g2, Option.bind_some, if_pos h2]
          exact ⟨w2, rfl, a2⟩
        · rw [if_pos (fun k => h2 (ck1.mp k)), if_neg h2]
          by_cases h3 : nb4 L (p + 4) = 1785737832
          · rw [if_neg (not_not_intro (ck2.mpr h3)), if_pos h3, q_obj h.o, Option.bind_some]
            unfold fBoxReader_readHeaderBoxes
            obtain ⟨w1, g1, a1⟩ := qXS.in5 hb hd x (by omega) 2600 0 (p + 8) FUEL w c U h (by omega) (by omega) (by decide) (by omega) (by omega)
            rw [show fBoxReader_readHeaderBoxes_5 FUEL 22 (Int32.ofNat x) (Int32.ofNat (p + 8)) 0 w = _ from g1, q_call, q_kI, show decide ((0 : Nat) = 0) = true from rfl] at *
            have hi := s_in_len L x 2600 true (p + 8) c U (by omega) (by omega)
            unfold fBoxReader_readBoxes_93 fBoxReader_readBoxes_125
            cases hr : (s_in L x 2600 true (p + 8) c U).1 with
            | some b =>
              have hb2 := s_in_b L x 2600 true (p + 8) c U b (by omega) hr
              rw [show oN (some b) = Int32.ofNat b from rfl, if_neg (oN_ne (by omega))]
              exact ⟨w1, rfl, a1⟩
            | none =>
              rw [if_pos (show oN none = -1 from rfl), if_pos (ck2.mpr h3), q_let, e1]
              exact nx w1 _ _ a1 hi
          · rw [if_pos (fun k => h3 (ck2.mp k)), if_neg h3]
            unfold fBoxReader_readBoxes_93 fBoxReader_readBoxes_125
            rw [if_pos rfl, if_neg (fun k => h3 (ck2.mp k))]
            by_cases h4 : nb4 L (p + 4) = 1718909296
            · rw [if_pos (ck3.mpr h4), if_pos h4, q_let, e1]
              exact nx w c U h (by omega)
            · rw [if_neg (fun k => h4 (ck3.mp k)), if_neg h4, q_obj h.o, Option.bind_some]
              obtain ⟨w1, g1, a1⟩ := h.unknown (Int32.ofNat p) (Int32.ofNat x) (by rw [uA_len]; omega) (by rw [uB_len]; omega)
              rw [g1, q_call, q_kV, q_let, e1]
              rw [← uA_snoc U p x, ← uB_snoc U p x] at a1
              exact nx w1 c _ a1 (by simp; omega)
/-- the first box is right -/
def s_sig (L : List Int32) : Prop := 12 ≤ L.length ∧ nb4 L 0 = 12 ∧ nb4 L 4 = 1783636000 ∧ nb4 L 8 = 218793738
theorem qXS.sig (h : qXS w0 r0 s0 m0 k0 w col fr en A B) (hb : qB w 14 rt 20000 nt L ft) : ∃ v, fBoxReader_beginsWithSignature 22 w = some (.inl (some (.int v)), w) ∧ (v = 0 ↔ ¬ s_sig L) := by
  have hl : L.length ≤ 20000 := hb.2.2.2.1
  have l0 := nb4_lt hb.by 0
  have l4 := nb4_lt hb.by 4
  have l8 := nb4_lt hb.by 8
  have c12 : Int32.ofNat L.length < 12 ↔ L.length < 12 := q_lt (n := 12) (by omega) (by omega)
  have k0' : lg_cmp (Int64.ofNat (nb4 L 0)) 12 = 0 ↔ nb4 L 0 = 12 := q_c64e (y := 12) (by omega) (by omega)
  have k4 : Int32.ofNat (nb4 L 4) = 1783636000 ↔ nb4 L 4 = 1783636000 := q_of32 (y := 1783636000) l4 (by omega)
  have k8 : Int32.ofNat (nb4 L 8) = 218793738 ↔ nb4 L 8 = 218793738 := q_of32 (y := 218793738) l8 (by omega)
  unfold fBoxReader_beginsWithSignature s_sig
  rw [q_getR (k := 0) h.o rfl, Option.bind_some, q_getI (k := 2) hb.o rfl, Option.bind_some]
  by_cases h1 : L.length < 12
  · rw [if_pos (c12.mpr h1)]
    exact ⟨0, rfl, fun _ => by omega, fun _ => rfl⟩
  · rw [if_neg (fun k => h1 (c12.mp k)), Option.bind_some, q_obj hb.o, Option.bind_some, hb.num4, q_call, q_kJ, show q_num L 0 4 0 0 = _ from q_num4 hb.by 0 (by omega)]
    by_cases h2 : nb4 L 0 = 12
    · rw [if_neg (not_not_intro (k0'.mpr h2)), q_obj h.o, Option.bind_some, show fBoxReader_kindAt 22 0 w = _ from h.kind hb 0 (by omega), q_call, q_kI]
      by_cases h3 : nb4 L 4 = 1783636000
      · rw [if_neg (not_not_intro (k4.mpr h3)), q_getR (k := 0) h.o rfl, Option.bind_some, q_obj hb.o, Option.bind_some, hb.num4, q_call, q_kJ, show q_num L 8 4 0 0 = _ from q_num4 hb.by 8 (by omega), q_32n]
        by_cases h4 : nb4 L 8 = 218793738
        · rw [if_neg (not_not_intro (k8.mpr h4))]
          exact ⟨1, rfl, fun k => absurd k (by decide), fun k => absurd ⟨by omega, h2, h3, h4⟩ k⟩
        · rw [if_pos (fun k => h4 (k8.mp k))]
          exact ⟨0, rfl, fun _ k => h4 k.2.2.2, fun _ => rfl⟩
      · rw [if_pos (fun k => h3 (k4.mp k))]
        exact ⟨0, rfl, fun _ k => h3 k.2.2.1, fun _ => rfl⟩
    · rw [if_pos (fun k => h2 (k0'.mp k))]
      exact ⟨0, rfl, fun _ k => h2 k.2.1, fun _ => rfl⟩
end
/-- a file that begins as a stream -/
def s_raw (L : List Int32) : Prop := 2 ≤ L.length ∧ nb L 0 = 255 ∧ nb L 1 = 79
/-- where the stream is: what is broken, the colour, the boxes unknown, the stream's begin and end -/
def s_find (L : List Int32) : Option Nat × Int32 × List (Nat × Nat) × Option (Nat × Nat) := if 2 ≤ L.length ∧ nb L 0 = 255 ∧ nb L 1 = 79 then (none, -1, [], some (0, L.length)) else if 12 ≤ L.length ∧ nb4 L 0 = 12 ∧ nb4 L 4 = 1783636000 ∧ nb4 L 8 = 218793738 then s_bx L L.length 2600 12 (-1) [] else (some 0, -1, [], none)
theorem qB.gnone {w : PW} {a mo rt nt : Nat} {L : List Int32} {ft : Nat → Int32} (h : qB w a rt mo nt L ft) (p : Nat) (hp : L.length ≤ p) (hq : p < 2147483648) : fBytes_get a (Int32.ofNat p) w = some (.inl (some (.int (-1))), w) := by
  rw [h.get, if_neg (by rw [q_lti, q_ofi hq]; show ¬ (p : Int) < 0; omega), q_tno hq, List.getElem?_eq_none hp]
  rfl
section
variable {w0 w : PW} {r0 s0 m0 k0 : Nat} {col fr en : Int32} {A B : List Int32} {rt nt : Nat} {L : List Int32} {ft : Nat → Int32}
theorem qXS.find (hb : qB w0 14 rt 20000 nt L ft) (hd : rt ≠ 22 ∧ rt ≠ 23 ∧ rt ≠ 25 ∧ rt ≠ r0 ∧ rt ≠ s0 ∧ 14 ≠ r0 ∧ 14 ≠ s0) (h : qXS w0 r0 s0 m0 k0 w (-1) fr en [] []) : ∃ w', fBoxReader_findStream 22 w = some (.inl (some (.int (oN (s_find L).1))), w') ∧ qXS w0 r0 s0 m0 k0 w' (s_find L).2.1 (oF 0 (s_find L).2.2.2) (oE (Int32.ofNat L.length) (s_find L).2.2.2) (uA (s_find L).2.2.1) (uB (s_find L).2.2.1) := by
  have hl : L.length ≤ 20000 := hb.2.2.2.1
  unfold fBoxReader_findStream
  obtain ⟨w1, g1, a1⟩ := h.put 4 0 (Or.inr (Or.inl rfl))
  have b1 := a1.by hb hd
  rw [g1, Option.bind_some, q_getR (k := 0) a1.o rfl, Option.bind_some, q_getI (k := 2) b1.o rfl, Option.bind_some]
  obtain ⟨w2, g2, a2⟩ := a1.put 5 (Int32.ofNat L.length) (Or.inr (Or.inr rfl))
  have b2 := a2.by hb hd
  have a2' : qXS w0 r0 s0 m0 k0 w2 (-1) 0 (Int32.ofNat L.length) (uA []) (uB []) := a2
  rw [g2, Option.bind_some, q_getR (k := 0) a2.o rfl, Option.bind_some, q_obj b2.o, Option.bind_some]
  have fin : ¬ s_raw L → ∃ w', fBoxReader_findStream_45 22 w2 = some (.inl (some (.int (oN (s_find L).1))), w') ∧ qXS w0 r0 s0 m0 k0 w' (s_find L).2.1 (oF 0 (s_find L).2.2.2) (oE (Int32.ofNat L.length) (s_find L).2.2.2) (uA (s_find L).2.2.1) (uB (s_find L).2.2.1) := by
    intro hr0
    have hr : ¬ (2 ≤ L.length ∧ nb L 0 = 255 ∧ nb L 1 = 79) := hr0
    unfold fBoxReader_findStream_45 s_find
    rw [if_neg hr, q_obj a2.o, Option.bind_some]
    obtain ⟨v, gv, hv⟩ := a2.sig b2
    rw [gv, q_call, q_kI]
    by_cases hs : s_sig L
    · rw [if_neg (fun k => hv.mp k hs), if_pos (show 12 ≤ L.length ∧ nb4 L 0 = 12 ∧ nb4 L 4 = 1783636000 ∧ nb4 L 8 = 218793738 from hs), q_obj a2.o, Option.bind_some]
      unfold fBoxReader_readBoxes
      obtain ⟨w3, g3, a3⟩ := qXS.bx13 hb hd 2600 0 12 FUEL w2 (-1) [] a2' hs.1 (by omega) (by decide) (by omega) (by simp)
      rw [q_getR (k := 0) a2.o rfl, Option.bind_some, q_getI (k := 2) b2.o rfl, Option.bind_some, show fBoxReader_readBoxes_13 FUEL 22 (Int32.ofNat L.length) 12 0 w2 = _ from g3, q_call, q_kI]
      exact ⟨w3, rfl, a3⟩
    · rw [if_pos (hv.mpr hs), if_neg (show ¬ (12 ≤ L.length ∧ nb4 L 0 = 12 ∧ nb4 L 4 = 1783636000 ∧ nb4 L 8 = 218793738) from hs)]
      exact ⟨w2, rfl, a2'⟩
  by_cases h1 : 1 ≤ L.length
  · have hn0 := nb_le b2.by 0
    have hn1 := nb_le b2.by 1
    have c0 : Int32.ofNat (nb L 0) = 255 ↔ nb L 0 = 255 := q_of32 (y := 255) (by omega) (by omega)
    have c1 : Int32.ofNat (nb L 1) = 79 ↔ nb L 1 = 79 := q_of32 (y := 79) (by omega) (by omega)
    rw [show fBytes_get 14 0 w2 = _ from b2.gn 0 (by omega), q_call, q_kI]
    by_cases h2 : nb L 0 = 255
    · rw [if_neg (not_not_intro (c0.mpr h2)), q_getR (k := 0) a2.o rfl, Option.bind_some, q_obj b2.o, Option.bind_some]
      by_cases h3 : 2 ≤ L.length
      · rw [show fBytes_get 14 1 w2 = _ from b2.gn 1 (by omega), q_call, q_kI]
        by_cases h4 : nb L 1 = 79
        · rw [if_neg (not_not_intro (c1.mpr h4))]
          unfold s_find
          rw [if_pos ⟨h3, h2, h4⟩]
          exact ⟨w2, rfl, a2'⟩
        · rw [if_pos (fun k => h4 (c1.mp k))]
          exact fin (fun k => h4 k.2.2)
      · rw [show fBytes_get 14 1 w2 = _ from b2.gnone 1 (by omega) (by omega), q_call, q_kI, if_pos (by decide)]
        exact fin (fun k => h3 k.1)
    · rw [if_pos (fun k => h2 (c0.mp k))]
      exact fin (fun k => h2 k.2.1)
  · rw [show fBytes_get 14 0 w2 = _ from b2.gnone 0 (by omega) (by omega), q_call, q_kI, if_pos (by decide)]
    exact fin (fun k => h1 (by have := k.1; omega))
end
