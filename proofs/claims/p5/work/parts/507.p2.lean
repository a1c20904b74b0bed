section
variable {w : PW} {z : Nat → Int32} {g : Nat → Nat → Int32} {Lo Lf : List Int32}
theorem qM.ps82 (i : Int32) (m : Nat) (h0 : 0 ≤ i.toInt) (h1 : i.toInt.toNat + m ≤ Lo.length) (hlo : Lo.length ≤ 20000) (z0 : Nat → Int32) : ∀ (k j Fu : Nat) (w : PW) (z : Nat → Int32) (g : Nat → Nat → Int32) (L : List Int32), qM w z g → qY g 52 Lo → qY g 53 L → z 22 = Int32.ofNat L.length → k < Fu → j + k = m → L.length + k ≤ 20000 → ∃ w' z' g', fD_pass_82 Fu 37 i (Int32.ofNat m) (Int32.ofNat j) w = some (.inl (some (.int (Int32.ofNat m))), w') ∧ qM w' z' g' ∧ qI 37 66 w w' ∧ (∀ u, u ≠ 22 → z' u = z u) ∧ (∀ u, u ≠ 53 → g' u = g u) ∧ z' 22 = Int32.ofNat (L ++ (Lo.drop (i.toInt.toNat + j)).take k).length ∧ qY g' 53 (L ++ (Lo.drop (i.toInt.toNat + j)).take k)
  | 0, j, Fu + 1, w, z, g, L, h, hy, hf, hz, _, hj, hL => by
    rw [fD_pass_82, if_pos ((q_le (by omega) (by omega)).mpr (by omega)), List.take_zero, List.append_nil]
    exact ⟨w, z, g, rfl, h, qI.rf, fun _ _ => rfl, fun _ _ => rfl, hz, hf⟩
  | k + 1, j, Fu + 1, w, z, g, L, h, hy, hf, hz, hFu, hj, hL => by
    have ei : i + Int32.ofNat j = Int32.ofNat (i.toInt.toNat + j) := by
      have := Int32.ofNat_add i.toInt.toNat j
      rw [← q_on i h0] at this
      exact this.symm
    have hv : g 52 (i.toInt.toNat + j) = Lo[i.toInt.toNat + j]'(by omega) := hy _ (by omega)
    rw [fD_pass_82, if_neg (fun hh => by have := (q_le (m := m) (n := j) (by omega) (by omega)).mp hh; omega), h.R 21 53 rfl, Option.bind_some, h.I 22 rfl, Option.bind_some, h.R 19 52 rfl, Option.bind_some, ei, h.ldn 52 0 (i.toInt.toNat + j) rfl (by omega) (by omega) (by show _ < 40000; omega) (by decide), Option.bind_some, hz, hv]
    obtain ⟨w1, g1, q1, F1⟩ := h.stn 53 0 L.length (Lo[i.toInt.toNat + j]'(by omega)) rfl (by omega) (by omega) (by show _ < 20000; omega) (by decide)
    rw [g1, Option.bind_some, q1.I 22 rfl, Option.bind_some, hz, show Int32.ofNat L.length + 1 = Int32.ofNat (L.length + 1) from (Int32.ofNat_add _ 1).symm]
    obtain ⟨w2, g2, q2, F2⟩ := q1.put 22 (Int32.ofNat (L.length + 1)) (by omega) rfl
    rw [g2, Option.bind_some, q_let, show Int32.ofNat j + 1 = Int32.ofNat (j + 1) from (Int32.ofNat_add j 1).symm]
    have hy2 : qY (ug g 53 L.length (Lo[i.toInt.toNat + j]'(by omega))) 52 Lo := by
      intro u hu
      rw [ug_ne _ _ _ (by decide)]
      exact hy u hu
    obtain ⟨w3, z3, g3, e3, q3, F3, a3, b3, c3, d3⟩ := qM.ps82 i m h0 h1 hlo z0 k (j + 1) Fu w2 _ _ (L ++ [Lo[i.toInt.toNat + j]'(by omega)]) q2 hy2 (hf.snoc _) (by rw [List.length_append]; rfl) (by omega) (by omega) (by simp; omega)
    have el : L ++ (Lo.drop (i.toInt.toNat + j)).take (k + 1) = L ++ [Lo[i.toInt.toNat + j]'(by omega)] ++ (Lo.drop (i.toInt.toNat + (j + 1))).take k := by
      rw [List.drop_eq_getElem_cons (by omega), List.take_succ_cons, List.append_assoc]
      rfl
    rw [el]
    refine ⟨w3, z3, g3, e3, q3, (F1.tr F2).tr F3, fun u hu => ?_, fun u hu => by rw [b3 u hu, ug_ne _ _ _ hu], c3, d3⟩
    rw [a3 u hu]
    unfold upd
    rw [if_neg hu]
theorem qM.pass (h : qM w z g) (hy : qY g 52 Lo) (hlo : Lo.length ≤ 20000) (hz20 : z 20 = Int32.ofNat Lo.length) (hf : qY g 53 Lf) (hz22 : z 22 = Int32.ofNat Lf.length) (hlf : Lf.length ≤ 20000) (i n : Int32) :
    ∃ w' v z' g', fD_pass 37 i n w = some (.inl (some (.int v)), w') ∧ qM w' z' g' ∧ qI 37 66 w w' ∧ z' 0 = q_psc Lo.length Lf.length i n ∧ (¬ q_psc Lo.length Lf.length i n = 0 → z' = upd z 0 (q_psc Lo.length Lf.length i n) ∧ g' = g) ∧
      (q_psc Lo.length Lf.length i n = 0 → v = Int32.ofNat (q_many2 Lo.length i n) ∧ (∀ u, u ≠ 0 → u ≠ 22 → z' u = z u) ∧ (∀ u, u ≠ 53 → g' u = g u) ∧ z' 22 = Int32.ofNat (Lf ++ (Lo.drop i.toInt.toNat).take (q_many2 Lo.length i n)).length ∧ qY g' 53 (Lf ++ (Lo.drop i.toInt.toNat).take (q_many2 Lo.length i n))) := by
  by_cases hi : 0 ≤ i.toInt ∧ i.toInt < Lo.length
  · have esc : q_psc Lo.length Lf.length i n = if n.toInt < 0 then 2 else if 20000 < Lf.length + q_many2 Lo.length i n then 3 else 0 := by
      unfold q_psc
      rw [if_neg (not_not_intro hi)]
    have ed : Int32.ofNat Lo.length - i = Int32.ofNat (Lo.length - i.toInt.toNat) := by
      have h2 := Int32.ofNat_add (Lo.length - i.toInt.toNat) i.toInt.toNat
      rw [← q_on i hi.1, show Lo.length - i.toInt.toNat + i.toInt.toNat = Lo.length by omega] at h2
      rw [h2]
      grind
    have e0 : (0 : Int32).toInt = 0 := rfl
    have bad : ∀ (c s0 : Int32), ¬ c ≤ 0 → ∃ w' v z' g', fD_pass_67 37 i s0 c 37 w = some (.inl (some (.int v)), w') ∧ qM w' z' g' ∧ qI 37 66 w w' ∧ z' = upd z 0 c ∧ g' = g := fun c s0 hc => by
      obtain ⟨w1, g1, q1, F1⟩ := h.put 0 c (by omega) rfl
      refine ⟨w1, 0, _, _, ?_, q1, F1, rfl, rfl⟩
      unfold fD_pass_67
      rw [g1, Option.bind_some, q1.I 0 rfl, Option.bind_some, show upd z 0 c 0 = c from rfl, if_neg hc]
    have key : ∀ s0 : Int32, (¬ n.toInt < 0 → s0 = Int32.ofNat (q_many2 Lo.length i n)) → ∃ w' v z' g', fD_pass_20 37 i n s0 w = some (.inl (some (.int v)), w') ∧ qM w' z' g' ∧ qI 37 66 w w' ∧ z' 0 = q_psc Lo.length Lf.length i n ∧ (¬ q_psc Lo.length Lf.length i n = 0 → z' = upd z 0 (q_psc Lo.length Lf.length i n) ∧ g' = g) ∧
      (q_psc Lo.length Lf.length i n = 0 → v = Int32.ofNat (q_many2 Lo.length i n) ∧ (∀ u, u ≠ 0 → u ≠ 22 → z' u = z u) ∧ (∀ u, u ≠ 53 → g' u = g u) ∧ z' 22 = Int32.ofNat (Lf ++ (Lo.drop i.toInt.toNat).take (q_many2 Lo.length i n)).length ∧ qY g' 53 (Lf ++ (Lo.drop i.toInt.toNat).take (q_many2 Lo.length i n))) := by
      intro s0 hs0
      unfold fD_pass_20
      rw [h.I 20 rfl, Option.bind_some, hz20, q_in, q_call, q_kI, q_64, q_sub1 (by rw [q_ofi (by omega)]; omega), q_ofi (by omega), q_e0, if_pos (show 0 ≤ i.toInt ∧ i.toInt ≤ (Lo.length : Int) - 1 by omega), if_pos (show ¬ (1 : Int32) = 0 by decide), esc]
      by_cases hn : n.toInt < 0
      · rw [if_pos hn, if_neg (show ¬ (0 : Int32) ≤ n by rw [q_lei]; omega)]
        obtain ⟨w1, v, z', g', e1, q1, F1, hz', hg'⟩ := bad 2 s0 (by decide)
        exact ⟨w1, v, z', g', e1, q1, F1, by rw [hz']; rfl, fun _ => ⟨hz', hg'⟩, fun e => absurd e (by decide)⟩
      · have hq : q_many2 Lo.length i n ≤ 20000 := by unfold q_many2; omega
        have hq2 : i.toInt.toNat + q_many2 Lo.length i n ≤ Lo.length := by unfold q_many2; omega
        have ea : Int32.ofNat Lf.length + s0 = Int32.ofNat (Lf.length + q_many2 Lo.length i n) := by rw [hs0 hn, ← Int32.ofNat_add]
        rw [if_neg hn, if_pos (show (0 : Int32) ≤ n by rw [q_lei]; omega), h.I 22 rfl, Option.bind_some, hz22, ea]
        have cc : Int32.ofNat (Lf.length + q_many2 Lo.length i n) ≤ 20000 ↔ Lf.length + q_many2 Lo.length i n ≤ 20000 := q_le (m := Lf.length + q_many2 Lo.length i n) (n := 20000) (by omega) (by omega)
        by_cases hc : 20000 < Lf.length + q_many2 Lo.length i n
        · rw [if_pos hc, if_neg (fun hh => by have := cc.mp hh; omega)]
          obtain ⟨w1, v, z', g', e1, q1, F1, hz', hg'⟩ := bad 3 s0 (by decide)
          exact ⟨w1, v, z', g', e1, q1, F1, by rw [hz']; rfl, fun _ => ⟨hz', hg'⟩, fun e => absurd e (by decide)⟩
        · rw [if_neg hc, if_pos (cc.mpr (by omega))]
          obtain ⟨w1, g1, q1, F1⟩ := h.put 0 0 (by omega) rfl
          unfold fD_pass_67
          rw [g1, Option.bind_some, q1.I 0 rfl, Option.bind_some, show upd z 0 0 0 = 0 from rfl, if_pos (by decide), hs0 hn]
          obtain ⟨w2, z2, g2, e2, q2, F2, a2, b2, c2, d2⟩ := qM.ps82 i (q_many2 Lo.length i n) hi.1 hq2 hlo z (q_many2 Lo.length i n) 0 FUEL w1 _ _ Lf q1 hy hf (show upd z 0 0 22 = _ from hz22) (by show _ < 1000000; omega) (by omega) (by omega)
          rw [Nat.add_zero] at c2 d2
          refine ⟨w2, _, z2, g2, e2, q2, F1.tr F2, ?_, fun hh => absurd rfl hh, fun _ => ⟨rfl, fun u u0 u22 => ?_, b2, c2, d2⟩⟩
          · rw [a2 0 (by decide)]
            rfl
          · rw [a2 u u22]
            unfold upd
            rw [if_neg u0]
    unfold fD_pass
    rw [h.I 20 rfl, Option.bind_some, hz20, ed, Option.bind_some]
    have c1 : ¬ n.toInt < 0 → (Int32.ofNat (Lo.length - i.toInt.toNat) ≤ n ↔ Lo.length - i.toInt.toNat ≤ n.toInt.toNat) := fun hn => by
      rw [q_lei, q_ofi (by omega)]
      omega
    by_cases hc : Int32.ofNat (Lo.length - i.toInt.toNat) ≤ n
    · rw [if_pos hc, ed]
      refine key _ (fun hn => ?_)
      have := (c1 hn).mp hc
      unfold q_many2
      rw [Nat.min_eq_right this]
    · rw [if_neg hc]
      refine key n (fun hn => ?_)
      have h9 : ¬ Lo.length - i.toInt.toNat ≤ n.toInt.toNat := fun hh => hc ((c1 hn).mpr hh)
      unfold q_many2
      rw [Nat.min_eq_left (by omega)]
      exact q_on n (by omega)
  · have esc : q_psc Lo.length Lf.length i n = 1 := by
      unfold q_psc
      rw [if_pos hi]
    rw [esc]
    obtain ⟨w1, e1, q1, F1⟩ := h.pass1 Lo.length hz20 (by omega) i n hi
    exact ⟨w1, 0, _, _, e1, q1, F1, rfl, fun _ => ⟨rfl, rfl⟩, fun e => absurd e (by decide)⟩
end
/-- a length in one byte or two -/
def m_len (v : Nat) : List Int32 := if v < 128 then [Int32.ofNat v] else [Int32.ofNat (128 + v / 128), Int32.ofNat (v % 128)]
def m_lens (lv : Nat → Nat) : Nat → Nat → List Int32
  | 0, _ => []
  | n + 1, i => m_len (lv i) ++ m_lens lv n (i + 1)
theorem m_len_len (v : Nat) : (m_len v).length = if v < 128 then 1 else 2 := by
  unfold m_len
  split <;> rfl
theorem m_lens_len (lv : Nat → Nat) : ∀ n i, (m_lens lv n i).length ≤ 2 * n
  | 0, _ => Nat.le_refl _
  | n + 1, i => by
    rw [m_lens, List.length_append, m_len_len]
    have := m_lens_len lv n (i + 1)
    split <;> omega
theorem q_len_rem : ∀ v : Nat, v ≤ 300 → p_irem (Int32.ofNat v) 128 = some (Int32.ofNat (v % 128)) := by decide +kernel
theorem q_len_div : ∀ v : Nat, v ≤ 300 → p_idiv (Int32.ofNat v) 128 = some (Int32.ofNat (v / 128)) := by decide +kernel
theorem q_and_n : ∀ v : Nat, v ≤ 255 → Int32.ofNat v &&& 255 = Int32.ofNat v := by decide +kernel
def m_plens (lv : Nat → Nat) (n : Nat) : List Int32 := [255, 88] ++ (b2 (Int32.ofNat (3 + (m_lens lv n 0).length)) ++ ([0] ++ m_lens lv n 0))
theorem m_plens_len (lv : Nat → Nat) (n : Nat) : (m_plens lv n).length ≤ 5 + 2 * n := by
  have := m_lens_len lv n 0
  unfold m_plens
  simp [b2_len]
  omega
section
variable {w0 w : PW} {r0 n0 : Nat} {tw th : Int32} {sz dp nm sy sp : Nat → Int32} {L : List Int32} {e : Value} {P : List Nat}
theorem qV.row {l : Nat} {t n : Nat} {f : Nat → Int32} (h : qV w0 r0 n0 tw th sz dp nm sy sp w L) (hl : w0.1[l]? = some (.inl (t, n, .inl f))) (h1 : l ≠ 10 ∧ l ≠ r0) : w.1[l]? = some (.inl (t, n, .inl f)) := by rw [h.keep h1.1 h1.2 (q_lt_len hl), hl]
theorem qV.pl77 {x l : Nat} {t b a : Value} {pk : Value} {ln : Nat → Int32} {lv : Nat → Nat} (hx : w0.1[x]? = some (.inr (8, [t, b, .ref l, a, pk]))) (hl : w0.1[l]? = some (.inl (0, 20, .inl ln))) (hxn : x ≠ 10 ∧ x ≠ r0) (hln : l ≠ 10 ∧ l ≠ r0) (hv : ∀ i, ln i = Int32.ofNat (lv i) ∧ lv i ≤ 300) (m : Nat) (hm : m ≤ 20) : ∀ (k i F : Nat) (w : PW) (L : List Int32), qV w0 r0 n0 tw th sz dp nm sy sp w L → k < F → i + k = m → L.length + 2 * k ≤ 20000 → ∃ w', fWriter_packetLengths_77 F 9 x (Int32.ofNat m) (Int32.ofNat i) w = some (.inl none, w') ∧ qV w0 r0 n0 tw th sz dp nm sy sp w' (L ++ m_lens lv k i)
  | 0, i, F + 1, w, L, h, _, hi, hL => by
    rw [fWriter_packetLengths_77, if_pos ((q_le (by omega) (by omega)).mpr (by omega)), m_lens, List.append_nil]
    exact ⟨w, rfl, h⟩
  | k + 1, i, F + 1, w, L, h, hF, hi, hL => by
    obtain ⟨hv1, hv2⟩ := hv i
    have ox : ∀ (w' : PW) (L' : List Int32), qV w0 r0 n0 tw th sz dp nm sy sp w' L' → w'.1[x]? = some (.inr (8, [t, b, .ref l, a, pk])) := fun w' L' h' => by rw [h'.keep hxn.1 hxn.2 (q_lt_len hx), hx]
    have e1 : Int32.ofNat i + 1 = Int32.ofNat (i + 1) := (Int32.ofNat_add i 1).symm
    have fin : ∀ (w1 : PW) (L1 : List Int32), qV w0 r0 n0 tw th sz dp nm sy sp w1 L1 → L1.length + 1 + 2 * k ≤ 20000 → ∃ w', fWriter_packetLengths_118 (fWriter_packetLengths_77 F) 9 x (Int32.ofNat m) (Int32.ofNat i) (Int32.ofNat (lv i)) w1 = some (.inl none, w') ∧ qV w0 r0 n0 tw th sz dp nm sy sp w' (L1 ++ ([Int32.ofNat (lv i % 128)] ++ m_lens lv k (i + 1))) := fun w1 L1 h1 hL1 => by
      unfold fWriter_packetLengths_118
      obtain ⟨f1, o1⟩ := h1.B
      rw [h1.R, Option.bind_some, q_len_rem _ hv2, Option.bind_some, o1, Option.bind_some]
      obtain ⟨w2, g2, h2⟩ := h1.app (Int32.ofNat (lv i % 128)) (by omega)
      rw [g2, q_call, q_kI, q_let, e1]
      rw [q_and_n _ (by omega)] at h2
      obtain ⟨w3, g3, h3⟩ := qV.pl77 hx hl hxn hln hv m hm k (i + 1) F w2 _ h2 (by omega) (by omega) (by simp; omega)
      rw [List.append_assoc] at h3
      exact ⟨w3, g3, h3⟩
    rw [fWriter_packetLengths_77, if_neg (fun hh => by have := (q_le (m := m) (n := i) (by omega) (by omega)).mp hh; omega), q_getR (k := 2) (ox w L h) rfl, Option.bind_some, q_ald (h.row hl hln) (q_ge0 i (by omega)) ((q_lt (by omega) (by omega)).mpr (by omega)) (by decide), Option.bind_some, q_tno (by omega), hv1, m_lens]
    have c128 : Int32.ofNat (lv i) < 128 ↔ lv i < 128 := q_lt (m := lv i) (n := 128) (by omega) (by omega)
    unfold m_len
    by_cases hs : lv i < 128
    · rw [if_pos (c128.mpr hs), if_pos hs]
      obtain ⟨w2, g2, h2⟩ := fin w L h (by omega)
      rw [Nat.mod_eq_of_lt hs] at h2
      exact ⟨w2, g2, h2⟩
    · obtain ⟨f0, o0⟩ := h.B
      rw [if_neg (fun hh => hs (c128.mp hh)), if_neg hs, h.R, Option.bind_some, q_len_div _ hv2, Option.bind_some, o0, Option.bind_some, show (128 : Int32) + Int32.ofNat (lv i / 128) = Int32.ofNat (128 + lv i / 128) from (Int32.ofNat_add 128 _).symm]
      obtain ⟨w1, g1, h1⟩ := h.app (Int32.ofNat (128 + lv i / 128)) (by omega)
      rw [g1, q_call, q_kI]
      rw [q_and_n _ (by omega)] at h1
      obtain ⟨w2, g2, h2⟩ := fin w1 _ h1 (by simp; omega)
      refine ⟨w2, g2, ?_⟩
      rw [List.append_assoc] at h2
      exact h2
theorem qV.pl15 {x l : Nat} {t b a : Value} {pk : Value} {ln : Nat → Int32} {lv : Nat → Nat} (hx : w0.1[x]? = some (.inr (8, [t, b, .ref l, a, pk]))) (hl : w0.1[l]? = some (.inl (0, 20, .inl ln))) (hxn : x ≠ 10 ∧ x ≠ r0) (hln : l ≠ 10 ∧ l ≠ r0) (hv : ∀ i, ln i = Int32.ofNat (lv i) ∧ lv i ≤ 300) (m : Nat) (hm : m ≤ 20) (h : qV w0 r0 n0 tw th sz dp nm sy sp w L) (hL : L.length + 45 ≤ 20000) : ∀ (k i F c : Nat), k < F → i + k = m → c + (m_lens lv k i).length = (m_lens lv m 0).length → ∃ w', fWriter_packetLengths_15 F 9 x (Int32.ofNat m) (Int32.ofNat c) (Int32.ofNat i) w = some (.inl none, w') ∧ qV w0 r0 n0 tw th sz dp nm sy sp w' (L ++ m_plens lv m)
  | 0, i, F + 1, c, _, hi, hc => by
    have hml := m_lens_len lv m 0
    rw [m_lens] at hc
    have hc' : c = (m_lens lv m 0).length := by simpa using hc
    rw [fWriter_packetLengths_15, if_pos ((q_le (by omega) (by omega)).mpr (by omega)), h.O, Option.bind_some]
    obtain ⟨w1, g1, h1⟩ := h.code 88 (by omega)
    obtain ⟨f1, o1⟩ := h1.B
    rw [g1, q_call, q_kV, h1.R, Option.bind_some, o1, Option.bind_some, show (3 : Int32) + Int32.ofNat c = Int32.ofNat (3 + c) from (Int32.ofNat_add 3 c).symm]
    obtain ⟨w2, g2, h2⟩ := h1.ap2 (Int32.ofNat (3 + c)) (by simp; omega)
    obtain ⟨f2, o2⟩ := h2.B
    rw [g2, q_call, q_kV, h2.R, Option.bind_some, o2, Option.bind_some]
    obtain ⟨w3, g3, h3⟩ := h2.app 0 (by simp [b2_len]; omega)
    rw [g3, q_call, q_kI]
    obtain ⟨w4, g4, h4⟩ := qV.pl77 hx hl hxn hln hv m hm m 0 FUEL w3 _ h3 (by show _ < 1000000; omega) (by omega) (by simp [b2_len]; omega)
    refine ⟨w4, g4, ?_⟩
    unfold m_plens
    rw [hc'] at h4
    simp only [List.append_assoc] at h4
    exact h4
  | k + 1, i, F + 1, c, hF, hi, hc => by
    obtain ⟨hv1, hv2⟩ := hv i
    have ox : w.1[x]? = some (.inr (8, [t, b, .ref l, a, pk])) := by rw [h.keep hxn.1 hxn.2 (q_lt_len hx), hx]
    have e1 : Int32.ofNat i + 1 = Int32.ofNat (i + 1) := (Int32.ofNat_add i 1).symm
    have hml := m_lens_len lv m 0
    rw [m_lens, List.length_append, m_len_len] at hc
    rw [fWriter_packetLengths_15, if_neg (fun hh => by have := (q_le (m := m) (n := i) (by omega) (by omega)).mp hh; omega), q_getR (k := 2) ox rfl, Option.bind_some, q_ald (h.row hl hln) (q_ge0 i (by omega)) ((q_lt (by omega) (by omega)).mpr (by omega)) (by decide), Option.bind_some, q_tno (by omega), hv1]
    unfold fWriter_packetLengths_40
    simp only [q_let]
    have c128 : 128 ≤ Int32.ofNat (lv i) ↔ 128 ≤ lv i := q_le (m := 128) (n := lv i) (by omega) (by omega)
    by_cases hs : lv i < 128
    · rw [if_neg (fun hh => by have := c128.mp hh; omega), e1, show Int32.ofNat c + 1 = Int32.ofNat (c + 1) from (Int32.ofNat_add c 1).symm]
      rw [if_pos hs] at hc
      exact qV.pl15 hx hl hxn hln hv m hm h hL k (i + 1) F (c + 1) (by omega) (by omega) (by omega)
    · rw [if_pos (c128.mpr (by omega)), e1, show Int32.ofNat c + 2 = Int32.ofNat (c + 2) from (Int32.ofNat_add c 2).symm]
      rw [if_neg hs] at hc
      exact qV.pl15 hx hl hxn hln hv m hm h hL k (i + 1) F (c + 2) (by omega) (by omega) (by omega)
/-- a part's bytes -/
def m_partB (many : Int) (nm sy sp : Nat → Int32) (t b : Int32) (pk : Nat) (lv : Nat → Nat) (X : List Int32) : List Int32 := [b &&& 255] ++ ([0] ++ ((if b = 0 then m_segs many nm sy sp t else []) ++ ((if pk = 0 then [] else m_plens lv pk) ++ ([255, 147] ++ X))))
def m_part (many : Int) (nm sy sp : Nat → Int32) (t b : Int32) (pk : Nat) (lv : Nat → Nat) (X : List Int32) : List Int32 := [255, 144] ++ (b2 10 ++ (b2 t ++ (b4 (Int32.ofNat (10 + (m_partB many nm sy sp t b pk lv X).length)) ++ m_partB many nm sy sp t b pk lv X)))
theorem m_partB_len (many : Int) (hm : many ≤ 4) (t b : Int32) (pk : Nat) (hpk : pk ≤ 20) (lv : Nat → Nat) (X : List Int32) (hX : X.length ≤ 300) : (m_partB many nm sy sp t b pk lv X).length ≤ 459 := by
  have h1 := m_segs_len (nm := nm) (sy := sy) (sp := sp) many hm t
  have h2 := m_plens_len lv pk
  unfold m_partB
  simp only [List.length_append, List.length_cons, List.length_nil]
  split <;> split <;> (try simp only [List.length_nil]) <;> omega
theorem m_part_len (many : Int) (hm : many ≤ 4) (t b : Int32) (pk : Nat) (hpk : pk ≤ 20) (lv : Nat → Nat) (X : List Int32) (hX : X.length ≤ 300) : (m_part many nm sy sp t b pk lv X).length ≤ 469 := by
  have := m_partB_len (nm := nm) (sy := sy) (sp := sp) many hm t b pk hpk lv X hX
  unfold m_part
  simp [b2_len, b4_len]
  omega
end
section
variable {w0 w : PW} {r0 n0 : Nat} {tw th : Int32} {sz dp nm sy sp : Nat → Int32} {L : List Int32} {e : Value} {P : List Nat}
theorem qV.fill {A H B : List Int32} (hH : H.length = 6) (h : qV w0 r0 n0 tw th sz dp nm sy sp w (A ++ (H ++ (b4 0 ++ B)))) : ∃ w', fBytes_putNumber4 10 (Int32.ofNat A.length + 6) (Int32.ofNat (A ++ (H ++ (b4 0 ++ B))).length - Int32.ofNat A.length) w = some (.inl none, w') ∧ qV w0 r0 n0 tw th sz dp nm sy sp w' (A ++ (H ++ (b4 (Int32.ofNat (10 + B.length)) ++ B))) := by
  have hl := h.len
  have hl2 : (A ++ (H ++ (b4 0 ++ B))).length = A.length + (10 + B.length) := by simp [b4_len, hH]; omega
  have e1 : Int32.ofNat (A ++ (H ++ (b4 0 ++ B))).length - Int32.ofNat A.length = Int32.ofNat (10 + B.length) := by
    rw [hl2, show Int32.ofNat (A.length + (10 + B.length)) = Int32.ofNat A.length + Int32.ofNat (10 + B.length) from Int32.ofNat_add _ _]
    grind
  have e2 : Int32.ofNat A.length + 6 = Int32.ofNat (A ++ H).length := by
    rw [List.length_append, hH]
    exact (Int32.ofNat_add A.length 6).symm
  rw [e1, e2]
  obtain ⟨w1, g1, k1⟩ := h.1.put4 (Int32.ofNat (A ++ H).length) (Int32.ofNat (10 + B.length))
  refine ⟨w1, g1, ?_, h.2⟩
  have es := q_set4_at (A := A ++ H) (B := B) (x0 := p_ushr 0 24 &&& 255) (x1 := p_ushr 0 16 &&& 255) (x2 := p_ushr 0 8 &&& 255) (x3 := p_ushr 0 0 &&& 255) (by rw [List.length_append, hH]; omega) (Int32.ofNat (10 + B.length))
  rw [show A ++ (H ++ (b4 0 ++ B)) = A ++ H ++ ((p_ushr 0 24 &&& 255) :: (p_ushr 0 16 &&& 255) :: (p_ushr 0 8 &&& 255) :: (p_ushr 0 0 &&& 255) :: B) by rw [List.append_assoc]; rfl, es, List.append_assoc] at k1
  exact k1
theorem qV.onePart {x l a s n : Nat} {t b : Int32} {pk : Nat} {ln : Nat → Int32} {lv : Nat → Nat} {X : List Int32} {f : Nat → Int32} (h : qV w0 r0 n0 tw th sz dp nm sy sp w L) (hn1 : 1 ≤ (sz 2).toInt) (hn4 : (sz 2).toInt ≤ 4) (hP : qP w0 x t b l a s n pk ln X f) (hxn : x ≠ 10 ∧ x ≠ r0) (hln : l ≠ 10 ∧ l ≠ r0) (han : a ≠ 10 ∧ a ≠ r0) (hsn : s ≠ 10 ∧ s ≠ r0) (hv : ∀ i, ln i = Int32.ofNat (lv i) ∧ lv i ≤ 300) (hL : L.length + 469 ≤ 20000) :
    ∃ w', fWriter_onePart 9 1 x w = some (.inl none, w') ∧ qV w0 r0 n0 tw th sz dp nm sy sp w' (L ++ m_part (sz 2).toInt nm sy sp t b pk lv X) := by
  obtain ⟨hx, hl, hX, hpk⟩ := hP
  have hXl : X.length ≤ 300 := hX.2.2.2.1
  have hms := m_segs_len (nm := nm) (sy := sy) (sp := sp) (sz 2).toInt hn4 t
  have hmp := m_plens_len lv pk
  have ox : ∀ (w' : PW) (L' : List Int32), qV w0 r0 n0 tw th sz dp nm sy sp w' L' → w'.1[x]? = some (.inr (8, [.int t, .int b, .ref l, .ref a, .int (Int32.ofNat pk)])) := fun w' L' h' => by rw [h'.keep hxn.1 hxn.2 (q_lt_len hx), hx]
  unfold fWriter_onePart
  rw [h.R, Option.bind_some, h.C, Option.bind_some, h.O, Option.bind_some]
  obtain ⟨w1, g1, h1⟩ := h.code 144 (by omega)
  obtain ⟨f1, o1⟩ := h1.B
  rw [g1, q_call, q_kV, h1.R, Option.bind_some, o1, Option.bind_some]
  obtain ⟨w2, g2, h2⟩ := h1.ap2 10 (by simp; omega)
  obtain ⟨f2, o2⟩ := h2.B
  rw [g2, q_call, q_kV, h2.R, Option.bind_some, q_getI (k := 0) (ox w2 _ h2) rfl, Option.bind_some, o2, Option.bind_some]
  obtain ⟨w3, g3, h3⟩ := h2.ap2 t (by simp [b2_len]; omega)
  obtain ⟨f3, o3⟩ := h3.B
  rw [g3, q_call, q_kV, h3.R, Option.bind_some, o3, Option.bind_some]
  obtain ⟨w4, g4, h4⟩ := h3.ap4 0 (by simp [b2_len]; omega)
  obtain ⟨f4, o4⟩ := h4.B
  rw [g4, q_call, q_kV, h4.R, Option.bind_some, q_getI (k := 1) (ox w4 _ h4) rfl, Option.bind_some, o4, Option.bind_some]
  obtain ⟨w5, g5, h5⟩ := h4.app b (by simp [b2_len, b4_len]; omega)
  obtain ⟨f5, o5⟩ := h5.B
  rw [g5, q_call, q_kI, h5.R, Option.bind_some, o5, Option.bind_some]
  obtain ⟨w6, g6, h6⟩ := h5.app 0 (by simp [b2_len, b4_len]; omega)
  rw [g6, q_call, q_kI, q_getI (k := 1) (ox w6 _ h6) rfl, Option.bind_some]
  generalize hH : [255, 144 &&& 255] ++ (b2 10 ++ b2 t) = H at *
  have hH6 : H.length = 6 := by rw [← hH]; rfl
  have h6' : qV w0 r0 n0 tw th sz dp nm sy sp w6 (L ++ (H ++ (b4 0 ++ ([b &&& 255] ++ [0])))) := by
    rw [← hH]
    simp only [List.append_assoc] at h6 ⊢
    exact h6
  have fin : ∀ (w7 : PW) (S : List Int32), S.length ≤ 112 → qV w0 r0 n0 tw th sz dp nm sy sp w7 (L ++ (H ++ (b4 0 ++ S))) → ∃ w', fWriter_onePart_83 9 x (Int32.ofNat L.length) w7 = some (.inl none, w') ∧ qV w0 r0 n0 tw th sz dp nm sy sp w' (L ++ (H ++ (b4 (Int32.ofNat (10 + (S ++ ((if pk = 0 then [] else m_plens lv pk) ++ ([255, 147] ++ X))).length)) ++ (S ++ ((if pk = 0 then [] else m_plens lv pk) ++ ([255, 147] ++ X)))))) := by
    intro w7 S hS h7
    have last : ∀ (w8 : PW) (T : List Int32), T.length ≤ 45 → qV w0 r0 n0 tw th sz dp nm sy sp w8 (L ++ (H ++ (b4 0 ++ (S ++ T)))) → ∃ w', fWriter_onePart_95 9 x (Int32.ofNat L.length) w8 = some (.inl none, w') ∧ qV w0 r0 n0 tw th sz dp nm sy sp w' (L ++ (H ++ (b4 (Int32.ofNat (10 + (S ++ (T ++ ([255, 147] ++ X))).length)) ++ (S ++ (T ++ ([255, 147] ++ X)))))) := by
      intro w8 T hT h8
      unfold fWriter_onePart_95
      rw [h8.O, Option.bind_some]
      obtain ⟨w9, g9, h9⟩ := h8.code 147 (by simp [b4_len, hH6]; omega)
      rw [g9, q_call, q_kV, q_getR (k := 3) (ox w9 _ h9) rfl, Option.bind_some, h9.O, Option.bind_some]
      obtain ⟨wA, gA, hA⟩ := h9.appendAll hX han hsn (by simp [b4_len, hH6]; omega)
      obtain ⟨fA, oA⟩ := hA.B
      rw [gA, q_call, q_kV, hA.R, Option.bind_some, Option.bind_some, hA.C, Option.bind_some, oA, Option.bind_some]
      have el : L ++ (H ++ (b4 0 ++ (S ++ T))) ++ [255, 147 &&& 255] ++ X = L ++ (H ++ (b4 0 ++ (S ++ (T ++ ([255, 147] ++ X))))) := by
        simp only [List.append_assoc]
        rfl
      rw [el] at hA ⊢
      obtain ⟨wB, gB, hB⟩ := hA.fill hH6
      rw [gB, q_call, q_kV]
      exact ⟨wB, rfl, hB⟩
    unfold fWriter_onePart_83
    rw [q_getI (k := 4) (ox w7 _ h7) rfl, Option.bind_some]
    have c0 : Int32.ofNat pk ≤ 0 ↔ pk ≤ 0 := q_le (m := pk) (n := 0) (by omega) (by omega)
    by_cases hp0 : pk = 0
    · rw [if_pos (c0.mpr (by omega)), if_pos hp0]
      exact last w7 [] (by simp) (by rw [List.append_nil]; exact h7)
    · rw [if_neg (fun hh => by have := c0.mp hh; omega), if_neg hp0, h7.O, Option.bind_some]
      unfold fWriter_packetLengths
      rw [q_getI (k := 4) (ox w7 _ h7) rfl, Option.bind_some, q_let, show p_min (Int32.ofNat pk) 20 = Int32.ofNat pk by rw [show (20 : Int32) = Int32.ofNat 20 from rfl, q_min (by omega) (by omega), Nat.min_eq_left hpk]]
      obtain ⟨w8, g8, h8⟩ := qV.pl15 hx hl hxn hln hv pk hpk h7 (by simp [b4_len, hH6]; omega) pk 0 FUEL 0 (by show _ < 1000000; omega) (by omega) (by omega)
      rw [show fWriter_packetLengths_15 FUEL 9 x (Int32.ofNat pk) 0 0 w7 = _ from g8, q_call, q_kV]
      refine last w8 (m_plens lv pk) (by omega) ?_
      simp only [List.append_assoc] at h8 ⊢
      exact h8
  unfold m_part m_partB
  have e147 : [255, 144] ++ (b2 10 ++ b2 t) = H := hH
  by_cases hb : b = 0
  · rw [if_neg (not_not_intro hb), if_pos hb, q_getI (k := 0) (ox w6 _ h6) rfl, Option.bind_some, h6.O, Option.bind_some]
    obtain ⟨w7, g7, h7⟩ := h6'.segments hn1 hn4 t (by simp [b4_len, hH6]; omega)
    rw [g7, q_call, q_kV]
    obtain ⟨w8, g8, h8⟩ := fin w7 ([b &&& 255] ++ [0] ++ m_segs (sz 2).toInt nm sy sp t) (by simp; omega) (by simp only [List.append_assoc] at h7 ⊢; exact h7)
    refine ⟨w8, g8, ?_⟩
    rw [← e147] at h8
    simp only [List.append_assoc] at h8 ⊢
    exact h8
  · rw [if_pos hb, if_neg hb]
    obtain ⟨w8, g8, h8⟩ := fin w6 ([b &&& 255] ++ [0]) (by simp) h6'
    refine ⟨w8, g8, ?_⟩
    rw [← e147] at h8
    simp only [List.append_assoc, List.nil_append] at h8 ⊢
    exact h8
/-- the parts at the world w0 -/
def qPx (w0 : PW) (r0 : Nat) (P : List Nat) (pt pb : Nat → Int32) (pl pa pr pn : Nat → Nat) (pk : Nat → Nat) (ln : Nat → Nat → Int32) (lv : Nat → Nat → Nat) (pL : Nat → List Int32) (pf : Nat → Nat → Int32) : Prop :=
  ∀ k x : Nat, P[k]? = some x → qP w0 x (pt k) (pb k) (pl k) (pa k) (pr k) (pn k) (pk k) (ln k) (pL k) (pf k) ∧ (x ≠ 10 ∧ x ≠ r0) ∧ (pl k ≠ 10 ∧ pl k ≠ r0) ∧ (pa k ≠ 10 ∧ pa k ≠ r0) ∧ (pr k ≠ 10 ∧ pr k ≠ r0) ∧ ∀ i, ln k i = Int32.ofNat (lv k i) ∧ lv k i ≤ 300
def m_parts (many : Int) (nm sy sp : Nat → Int32) (pt pb : Nat → Int32) (pk : Nat → Nat) (lv : Nat → Nat → Nat) (pL : Nat → List Int32) : Nat → Nat → List Int32
  | 0, _ => []
  | n + 1, i => m_part many nm sy sp (pt i) (pb i) (pk i) (lv i) (pL i) ++ m_parts many nm sy sp pt pb pk lv pL n (i + 1)
theorem c_469 (a k : Nat) : a + 469 ≤ a + 469 * (k + 1) + 2 := by omega
theorem c_469b {a b k : Nat} (h : a + 469 * (k + 1) + 2 ≤ 20000) (hb : b ≤ 469) : a + b + 469 * k + 2 ≤ 20000 := by omega
theorem qV.st27 {pt pb : Nat → Int32} {pl pa pr pn : Nat → Nat} {pk : Nat → Nat} {ln : Nat → Nat → Int32} {lv : Nat → Nat → Nat} {pL : Nat → List Int32} {pf : Nat → Nat → Int32} (hn1 : 1 ≤ (sz 2).toInt) (hn4 : (sz 2).toInt ≤ 4) (hl : qL w0 7 e P) (hr7 : 7 ≠ r0) (he : ∀ y : Nat, .ref y = e → y ≠ 10 ∧ y ≠ r0) (hP : qPx w0 r0 P pt pb pl pa pr pn pk ln lv pL pf) {A : List Int32} : ∀ (k i F : Nat) (w : PW) (Y : List Int32), qV w0 r0 n0 tw th sz dp nm sy sp w (A ++ (b4 0 ++ (b4 1785737827 ++ Y))) → k < F → i + k = P.length → (A ++ (b4 0 ++ (b4 1785737827 ++ Y))).length + 469 * k + 2 ≤ 20000 → ∃ w', fWriter_streamBox_27 F 9 1 7 (Int32.ofNat A.length) (Int32.ofNat i) w = some (.inl none, w') ∧ qV w0 r0 n0 tw th sz dp nm sy sp w' (A ++ m_box 1785737827 (Y ++ (m_parts (sz 2).toInt nm sy sp pt pb pk lv pL k i ++ [255, 217])))
  | 0, i, F + 1, w, Y, h, _, hi, hL => by
    have hlw : qL w 7 e P := h.list hl ⟨by decide, hr7⟩ he (fun x hx => by
      obtain ⟨k, hk⟩ := List.getElem?_of_mem hx
      exact (hP k x hk).2.1)
    obtain ⟨fs, hlo⟩ := hlw.obj
    rw [fWriter_streamBox_27, hlo, Option.bind_some, hlw.size, q_call, q_kI, if_pos (by rw [show i = P.length by omega]; exact q_lei.mpr (Int.le_refl _)), h.O, Option.bind_some, m_parts, List.nil_append]
    obtain ⟨w5, g5, h5⟩ := h.code 217 (by omega)
    rw [g5, q_call, q_kV, h5.O, Option.bind_some]
    rw [show A ++ (b4 0 ++ (b4 1785737827 ++ Y)) ++ [255, 217 &&& 255] = A ++ (b4 0 ++ (b4 1785737827 ++ (Y ++ [255, 217]))) by rw [show (217 : Int32) &&& 255 = 217 by decide]; simp only [List.append_assoc]] at h5
    obtain ⟨w6, g6, h6⟩ := h5.close
    rw [g6, q_call, q_kV]
    exact ⟨w6, rfl, h6⟩
  | k + 1, i, F + 1, w, Y, h, hF, hi, hL => by
    have hlw : qL w 7 e P := h.list hl ⟨by decide, hr7⟩ he (fun x hx => by
      obtain ⟨k, hk⟩ := List.getElem?_of_mem hx
      exact (hP k x hk).2.1)
    have h40 : P.length ≤ 40 := hl.choose_spec.2.1
    obtain ⟨fs, hlo⟩ := hlw.obj
    obtain ⟨x0, hx⟩ : ∃ x0, P[i]? = some x0 := ⟨P[i]'(by omega), List.getElem?_eq_getElem (by omega)⟩
    obtain ⟨q1, c1, c2, c3, c4, hv⟩ := hP i x0 hx
    have hpl := m_part_len (nm := nm) (sy := sy) (sp := sp) (sz 2).toInt hn4 (pt i) (pb i) (pk i) q1.2.2.2 (lv i) (pL i) q1.2.2.1.2.2.2.1
    have ox : w.1[x0]? = some (.inr (8, [.int (pt i), .int (pb i), .ref (pl i), .ref (pa i), .int (Int32.ofNat (pk i))])) := by rw [h.keep c1.1 c1.2 (q_lt_len q1.1), q1.1]
    rw [fWriter_streamBox_27, hlo, Option.bind_some, hlw.size, q_call, q_kI, if_neg (fun hh => by have := (q_le (m := P.length) (n := i) (by omega) (by omega)).mp hh; omega), hlo, Option.bind_some, hlw.get i _ hx, q_call, q_kR, q_obj ox, Option.bind_some, h.O, Option.bind_some]
    obtain ⟨w1, g1, h1⟩ := h.onePart hn1 hn4 q1 c1 c2 c3 c4 hv (Nat.le_trans (c_469 _ _) hL)
    rw [g1, q_call, q_kV, q_let, show Int32.ofNat i + 1 = Int32.ofNat (i + 1) from (Int32.ofNat_add i 1).symm]
    have el : A ++ (b4 0 ++ (b4 1785737827 ++ Y)) ++ m_part (sz 2).toInt nm sy sp (pt i) (pb i) (pk i) (lv i) (pL i) = A ++ (b4 0 ++ (b4 1785737827 ++ (Y ++ m_part (sz 2).toInt nm sy sp (pt i) (pb i) (pk i) (lv i) (pL i)))) := by simp only [List.append_assoc]
    rw [el] at h1
    obtain ⟨w2, g2, h2⟩ := qV.st27 hn1 hn4 hl hr7 he hP k (i + 1) F w1 _ h1 (by omega) (by omega) (by rw [← el, List.length_append]; exact c_469b hL hpl)
    refine ⟨w2, g2, ?_⟩
    rw [m_parts]
    simp only [List.append_assoc] at h2 ⊢
    exact h2
end
section
variable {w0 w : PW} {r0 n0 : Nat} {tw th : Int32} {sz dp nm sy sp : Nat → Int32} {L : List Int32} {e : Value} {P : List Nat} {rd : Int32}
/-- a stream with parts -/
def m_str (tw th : Int32) (sz dp nm sy sp : Nat → Int32) (pt pb : Nat → Int32) (pk : Nat → Nat) (lv : Nat → Nat → Nat) (pL : Nat → List Int32) (n : Nat) : List Int32 := [255, 79] ++ (m_sizes tw th sz dp ++ (m_segs (sz 2).toInt nm sy sp (-1) ++ (m_parts (sz 2).toInt nm sy sp pt pb pk lv pL n 0 ++ [255, 217])))
theorem c_hp {a b c n : Nat} (h : a + 200 + 469 * n ≤ 20000) (hb : b ≤ 4) (hc : c ≤ 110) : a + 8 + 2 + (40 + 3 * b) + c + 469 * n + 2 ≤ 20000 := by omega
theorem qV.stream {pt pb : Nat → Int32} {pl pa pr pn : Nat → Nat} {pk : Nat → Nat} {ln : Nat → Nat → Int32} {lv : Nat → Nat → Nat} {pL : Nat → List Int32} {pf : Nat → Nat → Int32} (h : qV w0 r0 n0 tw th sz dp nm sy sp w L) (hn1 : 1 ≤ (sz 2).toInt) (hn4 : (sz 2).toInt ≤ 4) (hl : qL w0 7 e P) (hr7 : 7 ≠ r0) (he : ∀ y : Nat, .ref y = e → y ≠ 10 ∧ y ≠ r0) (hP : qPx w0 r0 P pt pb pl pa pr pn pk ln lv pL pf) (hL : L.length + 200 + 469 * P.length ≤ 20000) : ∃ w', fWriter_streamBox 9 1 7 w = some (.inl none, w') ∧ qV w0 r0 n0 tw th sz dp nm sy sp w' (L ++ m_box 1785737827 (m_str tw th sz dp nm sy sp pt pb pk lv pL P.length)) := by
  unfold fWriter_streamBox
  have hml := m_segs_len (nm := nm) (sy := sy) (sp := sp) (sz 2).toInt hn4 (-1)
  rw [h.O, Option.bind_some]
  obtain ⟨w1, g1, h1⟩ := h.openBox 1785737827 (by omega)
  rw [g1, q_call, q_kI, h1.O, Option.bind_some]
  obtain ⟨w2, g2, h2⟩ := h1.code 79 (by simp [b4_len]; omega)
  rw [g2, q_call, q_kV, h2.O, Option.bind_some]
  obtain ⟨w3, g3, h3⟩ := h2.sizes hn1 hn4 (by simp [b4_len]; omega)
  rw [g3, q_call, q_kV, h3.O, Option.bind_some]
  obtain ⟨w4, g4, h4⟩ := h3.segments hn1 hn4 (-1) (by simp only [List.length_append, b4_len, m_sizes_len, List.length_cons, List.length_nil]; omega)
  rw [g4, q_call, q_kV]
  have e79 : (79 : Int32) &&& 255 = 79 := by decide
  rw [e79, show L ++ (b4 0 ++ b4 1785737827) ++ [255, 79] ++ m_sizes tw th sz dp ++ m_segs (sz 2).toInt nm sy sp (-1) = L ++ (b4 0 ++ (b4 1785737827 ++ ([255, 79] ++ (m_sizes tw th sz dp ++ m_segs (sz 2).toInt nm sy sp (-1))))) by simp only [List.append_assoc]] at h4
  have h40 : P.length ≤ 40 := hl.choose_spec.2.1
  obtain ⟨w5, g5, h5⟩ := qV.st27 hn1 hn4 hl hr7 he hP P.length 0 FUEL w4 _ h4 (by show _ < 1000000; omega) (by omega) (by
    have := c_hp (a := L.length) (b := (sz 2).toInt.toNat) (c := (m_segs (sz 2).toInt nm sy sp (-1)).length) (n := P.length) hL (by omega) hml
    simp only [List.length_append, b4_len, m_sizes_len, List.length_cons, List.length_nil]
    omega)
  refine ⟨w5, g5, ?_⟩
  unfold m_str
  simp only [List.append_assoc] at h5 ⊢
  exact h5
/-- the whole file -/
def m_file (tw th : Int32) (sz dp nm sy sp : Nat → Int32) (bi bk : Nat → Int32) (bL : Nat → List Int32) (n : Nat) (pt pb : Nat → Int32) (pk : Nat → Nat) (lv : Nat → Nat → Nat) (pL : Nat → List Int32) (m : Nat) : List Int32 := m_head sz dp (m_mb bi bk bL 1 n 0) ++ (m_mb bi bk bL 0 n 0 ++ m_box 1785737827 (m_str tw th sz dp nm sy sp pt pb pk lv pL m))
theorem qW_write {r n : Nat} {f : Nat → Int32} {e8 : Value} {Q : List Nat} {bi bk : Nat → Int32} {ba br bn : Nat → Nat} {bL : Nat → List Int32} {bf : Nat → Nat → Int32} {pt pb : Nat → Int32} {pl pa pr pn : Nat → Nat} {pk : Nat → Nat} {ln : Nat → Nat → Int32} {lv : Nat → Nat → Nat} {pL : Nat → List Int32} {pf : Nat → Nat → Int32} (ho : qCo w rd) (h9 : w.1[9]? = some (.inr (9, [.ref 10]))) (hb : qB w 10 r 20000 n L f) (hs : qS w 1 tw th sz dp nm sy sp) (hr : r = 11 ∨ 67 ≤ r) (hn1 : 1 ≤ (sz 2).toInt) (hn4 : (sz 2).toInt ≤ 4) (hl : qL w 7 e P) (he : ∀ y : Nat, .ref y = e → y ≠ 10 ∧ y ≠ r) (hP : qPx w r P pt pb pl pa pr pn pk ln lv pL pf) (hl8 : qL w 8 e8 Q) (he8 : ∀ y : Nat, .ref y = e8 → y ≠ 10 ∧ y ≠ r) (hB : qBx w r Q bi bk ba br bn bL bf) (hQ : Q.length ≤ 8) :
    ∃ w', fW_write 0 w = some (.inl (some (.int (Int32.ofNat (m_file tw th sz dp nm sy sp bi bk bL Q.length pt pb pk lv pL P.length).length))), w') ∧ ∃ w0, qE 10 w w0 ∧ qV w0 r n tw th sz dp nm sy sp w' (m_file tw th sz dp nm sy sp bi bk bL Q.length pt pb pk lv pL P.length) := by
  unfold fW_write
  rw [q_getR (k := 3) ho rfl, Option.bind_some, q_obj h9, Option.bind_some]
  obtain ⟨w0, g0, b0, F0⟩ := hb.begin h9
  have h90 := F0.at h9 (by decide)
  have ho0 : qCo w0 rd := F0.at ho (by decide)
  have hs0 : qS w0 1 tw th sz dp nm sy sp := hs.keep (fun x h1 h2 => F0.2.1 x (by omega))
  have mP : ∀ x ∈ P, x ≠ 10 ∧ x ≠ r := fun x hx => by
    obtain ⟨k, hk⟩ := List.getElem?_of_mem hx
    exact (hP k x hk).2.1
  have hl0 : qL w0 7 e P := hl.keep (fun y hy => F0.2.1 y (by
    rcases hy with h | h | h
    · omega
    · exact (he y h).1
    · exact (mP y h).1))
  have mQ : ∀ x ∈ Q, x ≠ 10 ∧ x ≠ r := fun x hx => by
    obtain ⟨k, hk⟩ := List.getElem?_of_mem hx
    exact (hB k x hk).2.2.1
  have hl80 : qL w0 8 e8 Q := hl8.keep (fun y hy => F0.2.1 y (by
    rcases hy with h | h | h
    · omega
    · exact (he8 y h).1
    · exact (mQ y h).1))
  have hB0 : qBx w0 r Q bi bk ba br bn bL bf := fun k x hx => by
    obtain ⟨o1, b1, c1, c2, c3⟩ := hB k x hx
    exact ⟨F0.at o1 c1.1, b1.keep (F0.2.1 _ c2.1) (F0.2.1 _ c3.1), c1, c2, c3⟩
  have hP0 : qPx w0 r P pt pb pl pa pr pn pk ln lv pL pf := fun k x hx => by
    obtain ⟨⟨o1, o2, b1, b2⟩, c1, c2, c3, c4, c5⟩ := hP k x hx
    exact ⟨⟨F0.at o1 c1.1, F0.at o2 c2.1, b1.keep (F0.2.1 _ c3.1) (F0.2.1 _ c4.1), b2⟩, c1, c2, c3, c4, c5⟩
  have hv0 : qV w0 r n tw th sz dp nm sy sp w0 [] := ⟨b0.bs, h90, hs0, hr⟩
  rw [g0, q_call, q_kV, q_getR (k := 3) ho0 rfl, Option.bind_some, q_getR (k := 0) ho0 rfl, Option.bind_some, q_getR (k := 2) ho0 rfl, Option.bind_some, q_obj h90, Option.bind_some]
  have l0 : 0 < w0.1.length := q_lt_len ho0
  have co : ∀ (w' : PW) (L' : List Int32), qV w0 r n tw th sz dp nm sy sp w' L' → qCo w' rd := fun w' L' h' => by
    unfold qCo
    rw [h'.keep (by decide) (by omega) l0]
    exact ho0
  have hlen40 : ∀ k, k < Q.length → (bL k).length ≤ 40 := fun k hk => (hB k _ (List.getElem?_eq_getElem hk)).2.1.2.2.2.1
  have hmb : ∀ ins k i, i + k = Q.length → (m_mb bi bk bL ins k i).length ≤ 48 * k := by
    intro ins k
    induction k with
    | zero => intro i _; exact Nat.le_refl _
    | succ k ih =>
      intro i hi
      rw [m_mb, List.length_append]
      have := ih (i + 1) (by omega)
      have := hlen40 i (by omega)
      split
      · rw [m_box_len]; omega
      · simp; omega
  have hmb1 := hmb 1 Q.length 0 (by omega)
  have hmb0 := hmb 0 Q.length 0 (by omega)
  have h40 : P.length ≤ 40 := hl.choose_spec.2.1
  obtain ⟨w1, g1, h1⟩ := hv0.headBoxes hn1 hn4 hl80 (by omega) he8 hB0
  rw [g1, q_call, q_kV, q_getR (k := 3) (co w1 _ h1) rfl, Option.bind_some, q_getR (k := 2) (co w1 _ h1) rfl, Option.bind_some, h1.O, Option.bind_some]
  unfold fWriter_madeBoxes
  obtain ⟨w2, g2, h2⟩ := qV.mb2 hl80 (by omega) he8 hB0 0 Q.length 0 FUEL w1 _ h1 (by show _ < 1000000; omega) (by omega) (by rw [m_head_len]; omega)
  rw [show fWriter_madeBoxes_2 FUEL 9 8 0 0 w1 = _ from g2, q_call, q_kV, q_getR (k := 3) (co w2 _ h2) rfl, Option.bind_some, q_getR (k := 0) (co w2 _ h2) rfl, Option.bind_some, q_getR (k := 1) (co w2 _ h2) rfl, Option.bind_some, h2.O, Option.bind_some]
  obtain ⟨w3, g3, h3⟩ := h2.stream hn1 hn4 hl0 (by omega) he hP0 (by rw [List.length_append, m_head_len]; omega)
  rw [List.append_assoc] at h3
  rw [g3, q_call, q_kV, q_getR (k := 3) (co w3 _ h3) rfl, Option.bind_some, h3.R, Option.bind_some, h3.C, Option.bind_some]
  exact ⟨w3, rfl, w0, F0, h3⟩
end
/-- the reference's boxes -/
def qRb (g : Nat → Nat → Int32) (n : Nat) (bi bk : Nat → Int32) (bL : Nat → List Int32) : Prop := ∀ k, k < n → g 48 k = bi k ∧ (bi k = 0 ∨ bi k = 1) ∧ g 49 k = bk k ∧ g 50 k = Int32.ofNat (bL k).length ∧ (bL k).length ≤ 40 ∧ ∀ j (hj : j < (bL k).length), g 51 (40 * k + j) = (bL k)[j] ∧ (bL k)[j] &&& 255 = (bL k)[j]
section
variable {w0 w : PW} {z0 : Nat → Int32} {g0 : Nat → Nat → Int32} {F : List Int32} {tw th : Int32} {sz dp nm sy sp : Nat → Int32} {bi bk : Nat → Int32} {bL : Nat → List Int32} {n : Nat}
theorem q_of_le {m n : Nat} (hm : m < 2147483648) (hn : n < 2147483648) : (Int32.ofNat m ≤ Int32.ofNat n) ↔ m ≤ n := q_le hm hn
theorem q_ofmul (a b c : Nat) : Int32.ofNat a * Int32.ofNat b + Int32.ofNat c = Int32.ofNat (a * b + c) := by
  rw [show Int32.ofNat (a * b + c) = Int32.ofNat (a * b) + Int32.ofNat c from Int32.ofNat_add _ _, show Int32.ofNat (a * b) = Int32.ofNat a * Int32.ofNat b from Int32.ofNat_mul _ _]
theorem qU.bx25 (hB : qRb g0 n bi bk bL) (hn : n ≤ 8) (p : Nat) (hp : p < n) : ∀ (m i Fu : Nat) (w : PW) (F : List Int32), qU w0 z0 g0 w F → m < Fu → i + m = (bL p).length → F.length + m ≤ 40000 → ∃ w', fD_layBox_25 Fu 37 (Int32.ofNat p) (Int32.ofNat i) w = some (.inl none, w') ∧ qU w0 z0 g0 w' (F ++ (bL p).drop i)
  | 0, i, Fu + 1, w, F, h, _, hi, hF => by
    obtain ⟨-, -, -, e4, e5, -⟩ := hB p hp
    rw [fD_layBox_25, h.R 17 50 (fun _ => rfl), Option.bind_some, h.ld 50 0 p rfl (by omega) (by omega) (by show p < 8; omega) (by decide) (by decide), Option.bind_some, e4, if_pos ((q_of_le (by omega) (by omega)).mpr (by omega)), List.drop_of_length_le (by omega), List.append_nil]
    exact ⟨w, rfl, h⟩
  | m + 1, i, Fu + 1, w, F, h, hm, hi, hF => by
    obtain ⟨-, -, -, e4, e5, e6⟩ := hB p hp
    obtain ⟨e7, e8⟩ := e6 i (by omega)
    obtain ⟨f0, o0⟩ := h.O
    rw [fD_layBox_25, h.R 17 50 (fun _ => rfl), Option.bind_some, h.ld 50 0 p rfl (by omega) (by omega) (by show p < 8; omega) (by decide) (by decide), Option.bind_some, e4, if_neg (fun hh => by have := (q_of_le (by omega) (by omega)).mp hh; omega), h.R 18 51 (fun _ => rfl), Option.bind_some, show (40 : Int32) * Int32.ofNat p + Int32.ofNat i = Int32.ofNat (40 * p + i) from q_ofmul 40 p i, h.ld 51 0 (40 * p + i) rfl (by omega) (by omega) (by show _ < 320; omega) (by decide) (by decide), Option.bind_some, e7, o0, Option.bind_some]
    obtain ⟨w1, g1, h1⟩ := h.lay ((bL p)[i]'(by omega)) (by omega)
    rw [g1, q_call, q_kV, q_let, show Int32.ofNat i + 1 = Int32.ofNat (i + 1) from (Int32.ofNat_add i 1).symm]
    obtain ⟨w2, g2, h2⟩ := qU.bx25 hB hn p hp m (i + 1) Fu w1 _ h1 (by omega) (by omega) (by simp; omega)
    refine ⟨w2, g2, ?_⟩
    rw [e8, List.append_assoc, List.singleton_append, List.getElem_cons_drop] at h2
    exact h2
theorem qU.layBox (h : qU w0 z0 g0 w F) (hB : qRb g0 n bi bk bL) (hn : n ≤ 8) (p : Nat) (hp : p < n) (hF : F.length + 48 ≤ 40000) : ∃ w', fD_layBox 37 (Int32.ofNat p) w = some (.inl none, w') ∧ qU w0 z0 g0 w' (F ++ m_box (bk p) (bL p)) := by
  obtain ⟨-, -, e3, e4, e5, -⟩ := hB p hp
  unfold fD_layBox
  obtain ⟨f0, o0⟩ := h.O
  rw [h.R 17 50 (fun _ => rfl), Option.bind_some, h.ld 50 0 p rfl (by omega) (by omega) (by show p < 8; omega) (by decide) (by decide), Option.bind_some, e4, o0, Option.bind_some, show (8 : Int32) + Int32.ofNat (bL p).length = Int32.ofNat (8 + (bL p).length) from (Int32.ofNat_add 8 _).symm]
  obtain ⟨w1, g1, h1⟩ := h.layFour (Int32.ofNat (8 + (bL p).length)) (by omega)
  obtain ⟨f1, o1⟩ := h1.O
  rw [g1, q_call, q_kV, h1.R 16 49 (fun _ => rfl), Option.bind_some, h1.ld 49 0 p rfl (by omega) (by omega) (by show p < 8; omega) (by decide) (by decide), Option.bind_some, e3, o1, Option.bind_some]
  obtain ⟨w2, g2, h2⟩ := h1.layFour (bk p) (by simp [b4_len]; omega)
  rw [g2, q_call, q_kV]
  obtain ⟨w3, g3, h3⟩ := qU.bx25 hB hn p hp (bL p).length 0 FUEL w2 _ h2 (by show _ < 1000000; omega) (by omega) (by simp [b4_len]; omega)
  refine ⟨w3, g3, ?_⟩
  unfold m_box
  rw [List.drop_zero] at h3
  simp only [List.append_assoc] at h3 ⊢
  exact h3
theorem m_mb_ins (hB : qRb g0 n bi bk bL) (ins : Int32) : ∀ m i, i + m = n → (m_mb bi bk bL ins m i).length ≤ 48 * m
  | 0, _, _ => Nat.le_refl _
  | m + 1, i, hi => by
    rw [m_mb, List.length_append]
    have := m_mb_ins hB ins m (i + 1) (by omega)
    have := (hB i (by omega)).2.2.2.2.1
    split
    · rw [m_box_len]; omega
    · simp; omega
theorem qU.wr23g {K : Nat → Int32 → PW → PX} (hz : z0 14 = Int32.ofNat n) (hB : qRb g0 n bi bk bL) (hn : n ≤ 8) (a ins : Int32) (ha : a = 0 ∧ ins = 1 ∨ a = 1 ∧ ins = 0) : ∀ (m i Fu : Nat) (w : PW) (F : List Int32), qU w0 z0 g0 w F → m < Fu → i + m = n → F.length + 48 * m ≤ 40000 → ∃ w', fD_write_23 K Fu 37 a (Int32.ofNat i) w = K 37 (a + 1) w' ∧ qU w0 z0 g0 w' (F ++ m_mb bi bk bL ins m i)
  | 0, i, Fu + 1, w, F, h, _, hi, hF => by
    rw [fD_write_23, h.I 14 (fun _ => rfl) (by decide), Option.bind_some, hz, if_pos ((q_of_le (by omega) (by omega)).mpr (by omega)), q_let, m_mb, List.append_nil]
    exact ⟨w, rfl, h⟩
  | m + 1, i, Fu + 1, w, F, h, hm, hi, hF => by
    obtain ⟨e1, e2, -, -, e5, -⟩ := hB i (by omega)
    obtain ⟨f0, o0⟩ := h.O
    rw [fD_write_23, h.I 14 (fun _ => rfl) (by decide), Option.bind_some, hz, if_neg (fun hh => by have := (q_of_le (by omega) (by omega)).mp hh; omega), h.R 15 48 (fun _ => rfl), Option.bind_some, h.ld 48 2 i rfl (by omega) (by omega) (by show i < 8; omega) (by decide) (by decide), Option.bind_some, e1]
    have es : (if ¬ a = 0 then fD_write_46 K (fD_write_23 K Fu) 37 a (Int32.ofNat i) 0 (bi i) w else fD_write_46 K (fD_write_23 K Fu) 37 a (Int32.ofNat i) 1 (bi i) w) = fD_write_46 K (fD_write_23 K Fu) 37 a (Int32.ofNat i) ins (bi i) w := by
      rcases ha with ⟨h1, h2⟩ | ⟨h1, h2⟩
      · rw [h1, h2, if_neg (by decide)]
      · rw [h1, h2, if_pos (by decide)]
    rw [es, fD_write_46, m_mb, show Int32.ofNat i + 1 = Int32.ofNat (i + 1) from (Int32.ofNat_add i 1).symm]
    by_cases hb : bi i = ins
    · rw [if_neg (fun hh => hh hb), if_pos hb, o0, Option.bind_some]
      obtain ⟨w1, g1, h1⟩ := h.layBox hB hn i (by omega) (by omega)
      rw [g1, q_call, q_kV, q_let]
      obtain ⟨w2, g2, h2⟩ := qU.wr23g (K := K) hz hB hn a ins ha m (i + 1) Fu w1 _ h1 (by omega) (by omega) (by rw [List.length_append, m_box_len]; omega)
      refine ⟨w2, g2, ?_⟩
      rw [List.append_assoc] at h2
      exact h2
    · rw [if_pos hb, if_neg hb, q_let, List.nil_append]
      exact qU.wr23g (K := K) hz hB hn a ins ha m (i + 1) Fu w F h (by omega) (by omega) (by omega)
theorem qU.h73 (k : qR tw th sz dp nm sy sp g0) (hz : z0 14 = Int32.ofNat n) (hB : qRb g0 n bi bk bL) (hn : n ≤ 8) : ∀ (m i c Fu : Nat) (w : PW) (F : List Int32), qU w0 z0 g0 w F → m < Fu → i + m = n → F.length + 30 ≤ 40000 → ∃ w', fD_layHeads_73 Fu 37 (Int32.ofNat c) 0 (Int32.ofNat i) w = some (.inl none, w') ∧ qU w0 z0 g0 w' (F ++ (b4 (Int32.ofNat (c + (m_mb bi bk bL 1 m i).length)) ++ (b4 1785737832 ++ (b4 22 ++ (b4 1768449138 ++ (b4 (sz 1) ++ (b4 (sz 0) ++ (b2 (sz 2) ++ ([(m_deep dp (sz 2).toInt.toNat 0 0 - 1) &&& 255] ++ ([7] ++ ([0] ++ [0])))))))))))
  | 0, i, c, Fu + 1, w, F, h, _, hi, hF => by
    have hn4 := k.2.2.2.2.1
    rw [fD_layHeads_73, h.I 14 (fun _ => rfl) (by decide), Option.bind_some, hz, if_pos ((q_of_le (by omega) (by omega)).mpr (by omega)), m_mb, List.length_nil, Nat.add_zero]
    exact qU.h114 k (Int32.ofNat c) (sz 2).toInt.toNat 0 FUEL 0 w F h (by show _ < 1000000; omega) (by omega) hF
  | m + 1, i, c, Fu + 1, w, F, h, hm, hi, hF => by
    obtain ⟨e1, e2, -, e4, e5, -⟩ := hB i (by omega)
    rw [fD_layHeads_73, h.I 14 (fun _ => rfl) (by decide), Option.bind_some, hz, if_neg (fun hh => by have := (q_of_le (by omega) (by omega)).mp hh; omega), h.R 15 48 (fun _ => rfl), Option.bind_some, h.ld 48 2 i rfl (by omega) (by omega) (by show i < 8; omega) (by decide) (by decide), Option.bind_some, e1, m_mb]
    have ei : Int32.ofNat i + 1 = Int32.ofNat (i + 1) := (Int32.ofNat_add i 1).symm
    rcases e2 with e2 | e2
    · rw [e2, if_pos rfl, fD_layHeads_104, q_let, q_let, ei, show Int32.ofNat c + 0 = Int32.ofNat c from (Int32.ofNat_add c 0).symm, if_neg (by decide), List.nil_append]
      exact qU.h73 k hz hB hn m (i + 1) c Fu w F h (by omega) (by omega) hF
    · rw [e2, if_neg (by decide), h.R 17 50 (fun _ => rfl), Option.bind_some, h.ld 50 0 i rfl (by omega) (by omega) (by show i < 8; omega) (by decide) (by decide), Option.bind_some, e4, fD_layHeads_104, q_let, q_let, ei, if_pos rfl]
      have ec : Int32.ofNat c + (8 + Int32.ofNat (bL i).length) = Int32.ofNat (c + (8 + (bL i).length)) := by
        rw [show Int32.ofNat (c + (8 + (bL i).length)) = Int32.ofNat c + Int32.ofNat (8 + (bL i).length) from Int32.ofNat_add _ _, show Int32.ofNat (8 + (bL i).length) = 8 + Int32.ofNat (bL i).length from Int32.ofNat_add 8 _]
      rw [ec, List.length_append, m_box_len]
      have := qU.h73 k hz hB hn m (i + 1) (c + (8 + (bL i).length)) Fu w F h (by omega) (by omega) hF
      rw [Nat.add_assoc c] at this
      exact this
end
section
variable {w0 w : PW} {z0 : Nat → Int32} {g0 : Nat → Nat → Int32} {F : List Int32} {tw th : Int32} {sz dp nm sy sp : Nat → Int32} {bi bk : Nat → Int32} {bL : Nat → List Int32} {n : Nat}
/-- the heads, ahead of the boxes inside -/
def m_hd (sz dp : Nat → Int32) (c : Nat) : List Int32 := m_box 1783636000 (b4 218793738) ++ (m_box 1718909296 (b4 1785737760 ++ (b4 0 ++ b4 1785737760)) ++ (b4 (Int32.ofNat (30 + c)) ++ (b4 1785737832 ++ m_box 1768449138 (m_ihdr sz dp))))
theorem m_head_hd (B : List Int32) : m_head sz dp B = m_hd sz dp B.length ++ B := by
  unfold m_head m_hd
  rw [show m_box 1785737832 (m_box 1768449138 (m_ihdr sz dp) ++ B) = b4 (Int32.ofNat (30 + B.length)) ++ (b4 1785737832 ++ (m_box 1768449138 (m_ihdr sz dp) ++ B)) by
    unfold m_box
    simp only [List.length_append, b4_len, m_ihdr_len]
    rw [show 8 + (4 + (4 + 14) + B.length) = 30 + B.length by omega]]
  simp only [List.append_assoc]
theorem m_hd_len (c : Nat) : (m_hd sz dp c).length = 62 := rfl
theorem qU.heads (h : qU w0 z0 g0 w []) (k : qR tw th sz dp nm sy sp g0) (hz : z0 14 = Int32.ofNat n) (hB : qRb g0 n bi bk bL) (hn : n ≤ 8) (hd : ∀ i, i < 4 → 1 ≤ (dp i).toInt) : ∃ w', fD_layHeads 37 w = some (.inl none, w') ∧ qU w0 z0 g0 w' (m_hd sz dp (m_mb bi bk bL 1 n 0).length) := by
  unfold fD_layHeads
  have hn4 := k.2.2.2.2.1
  obtain ⟨f0, o0⟩ := h.O
  rw [o0, Option.bind_some]
  obtain ⟨w1, g1, h1⟩ := h.layFour 12 (by simp)
  obtain ⟨f1, o1⟩ := h1.O
  rw [g1, q_call, q_kV, o1, Option.bind_some]
  obtain ⟨w2, g2, h2⟩ := h1.layFour 1783636000 (by simp [b4_len])
  obtain ⟨f2, o2⟩ := h2.O
  rw [g2, q_call, q_kV, o2, Option.bind_some]
  obtain ⟨w3, g3, h3⟩ := h2.lay 13 (by simp [b4_len])
  obtain ⟨f3, o3⟩ := h3.O
  rw [g3, q_call, q_kV, o3, Option.bind_some]
  obtain ⟨w4, g4, h4⟩ := h3.lay 10 (by simp [b4_len])
  obtain ⟨f4, o4⟩ := h4.O
  rw [g4, q_call, q_kV, o4, Option.bind_some]
  obtain ⟨w5, g5, h5⟩ := h4.lay 135 (by simp [b4_len])
  obtain ⟨f5, o5⟩ := h5.O
  rw [g5, q_call, q_kV, o5, Option.bind_some]
  obtain ⟨w6, g6, h6⟩ := h5.lay 10 (by simp [b4_len])
  obtain ⟨f6, o6⟩ := h6.O
  rw [g6, q_call, q_kV, o6, Option.bind_some]
  obtain ⟨w7, g7, h7⟩ := h6.layFour 20 (by simp [b4_len])
  obtain ⟨f7, o7⟩ := h7.O
  rw [g7, q_call, q_kV, o7, Option.bind_some]
  obtain ⟨w8, g8, h8⟩ := h7.layFour 1718909296 (by simp [b4_len])
  obtain ⟨f8, o8⟩ := h8.O
  rw [g8, q_call, q_kV, o8, Option.bind_some]
  obtain ⟨w9, g9, h9⟩ := h8.layFour 1785737760 (by simp [b4_len])
  obtain ⟨f9, o9⟩ := h9.O
  rw [g9, q_call, q_kV, o9, Option.bind_some]
  obtain ⟨wA, gA, hA⟩ := h9.layFour 0 (by simp [b4_len])
  obtain ⟨fA, oA⟩ := hA.O
  rw [gA, q_call, q_kV, oA, Option.bind_some]
  obtain ⟨wB, gB, hB'⟩ := hA.layFour 1785737760 (by simp [b4_len])
  rw [gB, q_call, q_kV]
  obtain ⟨wC, gC, hC⟩ := qU.h73 k hz hB hn n 0 30 FUEL wB _ hB' (by show _ < 1000000; omega) (by omega) (by simp [b4_len])
  refine ⟨wC, gC, ?_⟩
  have e1 : m_deep dp (sz 2).toInt.toNat 0 0 = m_deep dp (sz 2).toInt.toNat 0 1 := by
    refine m_deep_le _ _ _ _ (fun _ => ?_) (fun hh => by omega)
    have h8 := hd 0 (by omega)
    have e0' : (0 : Int32).toInt = 0 := rfl
    have e1' : (1 : Int32).toInt = 1 := rfl
    unfold p_max
    by_cases hq : (1 : Int32) < dp 0
    · rw [if_pos hq, if_pos (by rw [q_lti] at *; omega)]
    · rw [if_neg hq, if_pos (by rw [q_lti]; omega)]
      apply q_i32
      rw [q_lti] at hq
      omega
  rw [e1] at hC
  have e2 : [] ++ b4 12 ++ b4 1783636000 ++ [(13 : Int32) &&& 255] ++ [(10 : Int32) &&& 255] ++ [(135 : Int32) &&& 255] ++ [(10 : Int32) &&& 255] ++ b4 20 ++ b4 1718909296 ++ b4 1785737760 ++ b4 0 ++ b4 1785737760 = m_box 1783636000 (b4 218793738) ++ m_box 1718909296 (b4 1785737760 ++ (b4 0 ++ b4 1785737760)) := by decide
  rw [e2, List.append_assoc] at hC
  have e4 : (m_box 1768449138 (m_ihdr sz dp)).length = 22 := rfl
  unfold m_hd m_box m_ihdr
  have e3 : ([0] ++ [0] : List Int32) = b2 0 := by decide
  rw [e3] at hC
  unfold m_box at hC
  simp only [List.append_assoc, List.append_nil] at hC ⊢
  exact hC
end
theorem q_4set {A B : List Int32} {x0 x1 x2 x3 : Int32} (y0 y1 y2 y3 : Int32) (m : Nat) (hm : m = A.length) : ((((A ++ (x0 :: x1 :: x2 :: x3 :: B)).set m y0).set (m + 1) y1).set (m + 2) y2).set (m + 3) y3 = A ++ (y0 :: y1 :: y2 :: y3 :: B) := by
  subst hm
  rw [List.set_append_right _ _ (by omega), List.set_append_right _ _ (by omega), List.set_append_right _ _ (by omega), List.set_append_right _ _ (by omega)]
  simp
theorem q_2set {A B : List Int32} {x0 x1 : Int32} (y0 y1 : Int32) (m : Nat) (hm : m = A.length) : ((A ++ (x0 :: x1 :: B)).set m y0).set (m + 1) y1 = A ++ (y0 :: y1 :: B) := by
  subst hm
  rw [List.set_append_right _ _ (by omega), List.set_append_right _ _ (by omega)]
  simp
theorem q_ll300 : ∀ v : Nat, v ≤ 300 → (¬ (0 : Int32) < p_ishr (Int32.ofNat v) 28 ∧ ¬ (0 : Int32) < p_ishr (Int32.ofNat v) 21 ∧ ¬ (0 : Int32) < p_ishr (Int32.ofNat v) 14 ∧ (((0 : Int32) < p_ishr (Int32.ofNat v) 7) ↔ ¬ v < 128) ∧ (((p_ishr (Int32.ofNat v) 7) &&& 127) ||| 128) &&& 255 = Int32.ofNat (128 + v / 128) ∧ (((p_ishr (Int32.ofNat v) 0) &&& 127) ||| 0) &&& 255 = Int32.ofNat (v % 128)) := by decide +kernel
section
variable {w0 w : PW} {z0 : Nat → Int32} {g0 : Nat → Nat → Int32} {F : List Int32}
theorem qU.st (h : qU w0 z0 g0 w F) (i : Nat) (hi : i < F.length) (v : Int32) : ∃ w', p_ast w 52 0 (Int32.ofNat i) v = some w' ∧ qU w0 z0 g0 w' (F.set i v) := by
  obtain ⟨z, g, k1, k2, k3, k4, k5, k6, k7⟩ := h
  obtain ⟨w1, g1, q1, F1⟩ := k1.stn 52 0 i v rfl (by omega) (by omega) (by show _ < 40000; omega) (by decide)
  refine ⟨w1, g1, z, _, q1, k2.tr F1, k3, fun k hk => by rw [ug_ne _ _ _ hk, k4 k hk], by rw [k5]; simp, ?_, by simpa using k7⟩
  intro j hj
  rw [ug_self]
  unfold upd
  rw [List.length_set] at hj
  by_cases e : j = i
  · subst e
    rw [if_pos rfl, List.getElem_set_self]
  · rw [if_neg e, List.getElem_set_ne (fun k => e k.symm)]
    exact k6 j hj
theorem qU.ll46 {K : Nat → Int32 → Int32 → Int32 → PW → PX} (h : qU w0 z0 g0 w F) (p l2 i : Int32) (v : Nat) (hv : v ≤ 300) (hF : F.length + 2 ≤ 40000) : ∃ w', fD_layLengths_46 K FUEL 37 p l2 i (Int32.ofNat v) 28 w = K 37 p l2 (i + 1) w' ∧ qU w0 z0 g0 w' (F ++ m_len v) := by
  obtain ⟨a1, a2, a3, a4, a5, a6⟩ := q_ll300 v hv
  obtain ⟨f0, o0⟩ := h.O
  have last : ∀ (n : Nat) (w : PW) (F : List Int32), qU w0 z0 g0 w F → F.length + 1 ≤ 40000 → ∃ w', fD_layLengths_46 K (n + 2) 37 p l2 i (Int32.ofNat v) 0 w = K 37 p l2 (i + 1) w' ∧ qU w0 z0 g0 w' (F ++ [Int32.ofNat (v % 128)]) := by
    intro n w F h hF
    obtain ⟨f0, o0⟩ := h.O
    obtain ⟨w1, g1, h1⟩ := h.lay ((p_ishr (Int32.ofNat v) 0 &&& 127) ||| 0) (by omega)
    have e64 : ∀ K2, fD_layLengths_64 K K2 37 p l2 i (Int32.ofNat v) 0 w = K2 37 p l2 i (Int32.ofNat v) (-7) w1 := fun K2 => by
      unfold fD_layLengths_64 fD_layLengths_85
      rw [if_pos (by decide), o0, Option.bind_some, g1, q_call, q_kV, q_let]
      rfl
    rw [a6] at h1
    have en : fD_layLengths_46 K (n + 1) 37 p l2 i (Int32.ofNat v) (-7) w1 = K 37 p l2 (i + 1) w1 := by
      rw [fD_layLengths_46, if_pos (by decide), q_let]
    refine ⟨w1, ?_, h1⟩
    rw [show n + 2 = (n + 1) + 1 from rfl, fD_layLengths_46, if_neg (by decide)]
    by_cases hp : (0 : Int32) < p_ishr (Int32.ofNat v) 0
    · rw [if_pos hp, e64, en]
    · rw [if_neg hp, if_neg (fun hh => hh rfl), e64, en]
  rw [show FUEL = 999994 + 2 + 1 + 1 + 1 + 1 from rfl]
  rw [fD_layLengths_46, if_neg (by decide), if_neg a1, if_pos (by decide), q_let, show (28 : Int32) + -7 = 21 from rfl]
  rw [fD_layLengths_46, if_neg (by decide), if_neg a2, if_pos (by decide), q_let, show (21 : Int32) + -7 = 14 from rfl]
  rw [fD_layLengths_46, if_neg (by decide), if_neg a3, if_pos (by decide), q_let, show (14 : Int32) + -7 = 7 from rfl]
  rw [fD_layLengths_46, if_neg (by decide)]
  unfold m_len
  by_cases hs : v < 128
  · rw [if_neg (fun hh => a4.mp hh hs), if_pos (by decide), q_let, show (7 : Int32) + -7 = 0 from rfl, if_pos hs]
    obtain ⟨w1, g1, h1⟩ := last 999994 w F h (by omega)
    refine ⟨w1, g1, ?_⟩
    rw [Nat.mod_eq_of_lt hs] at h1
    exact h1
  · rw [if_pos (a4.mpr hs), if_neg hs]
    unfold fD_layLengths_64 fD_layLengths_85
    obtain ⟨w1, g1, h1⟩ := h.lay ((p_ishr (Int32.ofNat v) 7 &&& 127) ||| 128) (by omega)
    rw [if_neg (by decide), o0, Option.bind_some, g1, q_call, q_kV, q_let, show (7 : Int32) + -7 = 0 from rfl]
    rw [a5] at h1
    obtain ⟨w2, g2, h2⟩ := last 999994 w1 _ h1 (by simp; omega)
    refine ⟨w2, g2, ?_⟩
    rw [List.append_assoc] at h2
    exact h2
theorem q_b2v : ∀ v : Nat, v ≤ 100 → p_ishr (Int32.ofNat v) 8 = p_ushr (Int32.ofNat v) 8 &&& 255 ∧ Int32.ofNat v &&& 255 = p_ushr (Int32.ofNat v) 0 &&& 255 := by decide +kernel
/-- the lengths of a part's packets -/
theorem qU.ll19 {A : List Int32} (p m : Nat) (hp : p < 40) (hm : m ≤ 20) (hg : g0 44 p = Int32.ofNat m) (lv : Nat → Nat) (hv : ∀ i, i < m → g0 45 (20 * p + i) = Int32.ofNat (lv i) ∧ lv i ≤ 300) : ∀ (k i Fu : Nat) (w : PW) (Y : List Int32), qU w0 z0 g0 w (A ++ ([255, 88] ++ (b2 0 ++ Y))) → k < Fu → i + k = m → A.length + 4 + Y.length + 2 * k ≤ 39000 → Y.length + 2 * k ≤ 50 → ∃ w', fD_layLengths_19 Fu 37 (Int32.ofNat p) (Int32.ofNat A.length) (Int32.ofNat i) w = some (.inl none, w') ∧ qU w0 z0 g0 w' (A ++ ([255, 88] ++ (b2 (Int32.ofNat (2 + (Y ++ m_lens lv k i).length)) ++ (Y ++ m_lens lv k i))))
  | 0, i, Fu + 1, w, Y, h, _, hi, hA, hY => by
    have hll : (A ++ ([255, 88] ++ (b2 0 ++ Y))).length = A.length + (4 + Y.length) := by simp [b2_len]; omega
    rw [fD_layLengths_19, h.R 10 44 (fun _ => rfl), Option.bind_some, h.ld 44 0 p rfl (by omega) (by omega) (by show p < 40; omega) (by decide) (by decide), Option.bind_some, hg, if_pos ((q_of_le (by omega) (by omega)).mpr (by omega)), h.C, Option.bind_some, q_let]
    have ev : Int32.ofNat (A ++ ([255, 88] ++ (b2 0 ++ Y))).length - Int32.ofNat A.length - 2 = Int32.ofNat (2 + Y.length) := by
      rw [hll, show Int32.ofNat (A.length + (4 + Y.length)) = Int32.ofNat A.length + Int32.ofNat (2 + (2 + Y.length)) by rw [show 4 + Y.length = 2 + (2 + Y.length) by omega]; exact Int32.ofNat_add _ _, show Int32.ofNat (2 + (2 + Y.length)) = 2 + Int32.ofNat (2 + Y.length) from Int32.ofNat_add 2 _]
      grind
    obtain ⟨w1, g1, h1⟩ := h.st (A.length + 2) (by rw [hll]; omega) (p_ishr (Int32.ofNat (2 + Y.length)) 8)
    obtain ⟨w2, g2, h2⟩ := h1.st (A.length + 3) (by rw [List.length_set, hll]; omega) (Int32.ofNat (2 + Y.length) &&& 255)
    rw [ev, h.R 19 52 (fun _ => rfl), Option.bind_some, show Int32.ofNat A.length + 2 = Int32.ofNat (A.length + 2) from (Int32.ofNat_add _ 2).symm, g1, Option.bind_some, h1.R 19 52 (fun _ => rfl), Option.bind_some, show Int32.ofNat A.length + 3 = Int32.ofNat (A.length + 3) from (Int32.ofNat_add _ 3).symm, g2, Option.bind_some]
    refine ⟨w2, rfl, ?_⟩
    obtain ⟨b1, b2'⟩ := q_b2v (2 + Y.length) (by omega)
    have es := q_2set (A := A ++ [255, 88]) (B := Y) (x0 := p_ushr 0 8 &&& 255) (x1 := p_ushr 0 0 &&& 255) (p_ishr (Int32.ofNat (2 + Y.length)) 8) (Int32.ofNat (2 + Y.length) &&& 255) (A.length + 2) (by simp)
    rw [show A ++ ([255, 88] ++ (b2 0 ++ Y)) = A ++ [255, 88] ++ ((p_ushr 0 8 &&& 255) :: (p_ushr 0 0 &&& 255) :: Y) by rw [List.append_assoc]; rfl, es, b1, b2', List.append_assoc] at h2
    rw [m_lens, List.append_nil]
    exact h2
  | k + 1, i, Fu + 1, w, Y, h, hk, hi, hA, hY => by
    have hll : (A ++ ([255, 88] ++ (b2 0 ++ Y))).length = A.length + (4 + Y.length) := by simp [b2_len]; omega
    obtain ⟨v1, v2⟩ := hv i (by omega)
    rw [fD_layLengths_19, h.R 10 44 (fun _ => rfl), Option.bind_some, h.ld 44 0 p rfl (by omega) (by omega) (by show p < 40; omega) (by decide) (by decide), Option.bind_some, hg, if_neg (fun hh => by have := (q_of_le (by omega) (by omega)).mp hh; omega), h.R 11 45 (fun _ => rfl), Option.bind_some, show (20 : Int32) * Int32.ofNat p + Int32.ofNat i = Int32.ofNat (20 * p + i) from q_ofmul 20 p i, h.ld 45 0 (20 * p + i) rfl (by omega) (by omega) (by show _ < 800; omega) (by decide) (by decide), Option.bind_some, v1]
    obtain ⟨w1, g1, h1⟩ := h.ll46 (K := fD_layLengths_19 Fu) (Int32.ofNat p) (Int32.ofNat A.length) (Int32.ofNat i) (lv i) v2 (by rw [hll]; omega)
    have hml := m_len_len (lv i)
    have hml2 : (m_len (lv i)).length ≤ 2 := by rw [hml]; split <;> omega
    rw [g1, show Int32.ofNat i + 1 = Int32.ofNat (i + 1) from (Int32.ofNat_add i 1).symm]
    rw [show A ++ ([255, 88] ++ (b2 0 ++ Y)) ++ m_len (lv i) = A ++ ([255, 88] ++ (b2 0 ++ (Y ++ m_len (lv i)))) by simp only [List.append_assoc]] at h1
    obtain ⟨w2, g2, h2⟩ := qU.ll19 p m hp hm hg lv hv k (i + 1) Fu w1 (Y ++ m_len (lv i)) h1 (by omega) (by omega) (by rw [List.length_append]; omega) (by rw [List.length_append]; omega)
    refine ⟨w2, g2, ?_⟩
    rw [m_lens]
    rw [List.append_assoc] at h2
    exact h2
theorem qU.layLengths (h : qU w0 z0 g0 w F) (p m : Nat) (hp : p < 40) (hm : m ≤ 20) (hg : g0 44 p = Int32.ofNat m) (lv : Nat → Nat) (hv : ∀ i, i < m → g0 45 (20 * p + i) = Int32.ofNat (lv i) ∧ lv i ≤ 300) (hF : F.length + 45 ≤ 39000) : ∃ w', fD_layLengths 37 (Int32.ofNat p) w = some (.inl none, w') ∧ qU w0 z0 g0 w' (F ++ m_plens lv m) := by
  unfold fD_layLengths
  obtain ⟨f0, o0⟩ := h.O
  rw [h.C, Option.bind_some, o0, Option.bind_some]
  obtain ⟨w1, g1, h1⟩ := h.layMark 88 0 (by omega)
  obtain ⟨f1, o1⟩ := h1.O
  rw [g1, q_call, q_kV, o1, Option.bind_some]
  obtain ⟨w2, g2, h2⟩ := h1.lay 0 (by simp [b2_len]; omega)
  rw [g2, q_call, q_kV]
  rw [show F ++ ([255, 88 &&& 255] ++ b2 0) ++ [0 &&& 255] = F ++ ([255, 88] ++ (b2 0 ++ [0])) by rw [show (88 : Int32) &&& 255 = 88 by decide, show (0 : Int32) &&& 255 = 0 by decide]; simp only [List.append_assoc]] at h2
  obtain ⟨w3, g3, h3⟩ := qU.ll19 p m hp hm hg lv hv m 0 FUEL w2 [0] h2 (by show _ < 1000000; omega) (by omega) (by simp; omega) (by simp; omega)
  refine ⟨w3, g3, ?_⟩
  unfold m_plens
  rw [show 2 + ([(0 : Int32)] ++ m_lens lv m 0).length = 3 + (m_lens lv m 0).length by simp; omega] at h3
  exact h3
end
