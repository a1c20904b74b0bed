section
variable {w0 w : PW} {r0 n0 : Nat} {tw th : Int32} {sz dp nm sy sp : Nat → Int32} {L : List Int32} {e : Value} {P : List Nat}
theorem qB.keep {w w' : PW} {a r mo n : Nat} {L : List Int32} {f : Nat → Int32} (h : qB w a r mo n L f) (h1 : w'.1[a]? = w.1[a]?) (h2 : w'.1[r]? = w.1[r]?) : qB w' a r mo n L f := ⟨by rw [h1, h.1], by rw [h2, h.2.1], h.2.2⟩
theorem qB.b255 {w : PW} {a r mo n : Nat} {L : List Int32} {f : Nat → Int32} (h : qB w a r mo n L f) (i : Nat) (hi : i < L.length) : L[i] &&& 255 = L[i] := by
  rw [← h.2.2.2.2.2.2.2.2 i hi, q_and255]
theorem qV.all2 {a s mo n : Nat} {X : List Int32} {f : Nat → Int32} (hX : qB w0 a s mo n X f) (ha : a ≠ 10 ∧ a ≠ r0) (hs : s ≠ 10 ∧ s ≠ r0) : ∀ (k i F : Nat) (w : PW) (L : List Int32), qV w0 r0 n0 tw th sz dp nm sy sp w L → k < F → i + k = X.length → L.length + k ≤ 20000 → ∃ w', fWriter_appendAll_2 F 9 a (Int32.ofNat i) w = some (.inl none, w') ∧ qV w0 r0 n0 tw th sz dp nm sy sp w' (L ++ X.drop i)
  | 0, i, F + 1, w, L, h, _, hi, hL => by
    have hb : qB w a s mo n X f := hX.keep (h.keep ha.1 ha.2 (q_lt_len hX.o)) (h.keep hs.1 hs.2 (q_lt_len hX.d))
    rw [fWriter_appendAll_2, q_getI (k := 2) hb.o rfl, Option.bind_some, if_pos (by rw [show i = X.length by omega]; exact q_lei.mpr (Int.le_refl _)), List.drop_eq_nil_of_le (by omega), List.append_nil]
    exact ⟨w, rfl, h⟩
  | k + 1, i, F + 1, w, L, h, hF, hi, hL => by
    have hb : qB w a s mo n X f := hX.keep (h.keep ha.1 ha.2 (q_lt_len hX.o)) (h.keep hs.1 hs.2 (q_lt_len hX.d))
    have hm : X.length ≤ 20000 := by
      have h1 := hb.2.2.2.1
      have h2 := hb.2.2.2.2.1
      omega
    obtain ⟨fs, ho⟩ := h.B
    rw [fWriter_appendAll_2, q_getI (k := 2) hb.o rfl, Option.bind_some, if_neg (fun hh => by have := (q_le (m := X.length) (n := i) (by omega) (by omega)).mp hh; omega), h.R, Option.bind_some, q_obj hb.o, Option.bind_some, hb.get, q_call, q_kI, ho, Option.bind_some]
    have gi : (if Int32.ofNat i < 0 then (-1 : Int32) else X[(Int32.ofNat i).toNatClampNeg]?.getD (-1)) = X[i] := by
      rw [if_neg (show ¬ Int32.ofNat i < 0 from fun h => absurd ((q_lt (m := i) (n := 0) (by omega) (by omega)).mp h) (Nat.not_lt_zero _)), q_tno (by omega), List.getElem?_eq_getElem (by omega)]
      rfl
    rw [gi]
    obtain ⟨w1, g1, h1⟩ := h.app X[i] (by omega)
    rw [g1, q_call, q_kI, q_let, show Int32.ofNat i + 1 = Int32.ofNat (i + 1) from (Int32.ofNat_add i 1).symm]
    rw [hX.b255 i (by omega)] at h1
    obtain ⟨w2, g2, h2⟩ := qV.all2 hX ha hs k (i + 1) F w1 _ h1 (by omega) (by omega) (by simp; omega)
    refine ⟨w2, g2, ?_⟩
    rw [List.append_assoc] at h2
    rw [List.drop_eq_getElem_cons (by omega)]
    exact h2
theorem qV.appendAll {a s mo n : Nat} {X : List Int32} {f : Nat → Int32} (h : qV w0 r0 n0 tw th sz dp nm sy sp w L) (hX : qB w0 a s mo n X f) (ha : a ≠ 10 ∧ a ≠ r0) (hs : s ≠ 10 ∧ s ≠ r0) (hL : L.length + X.length ≤ 20000) : ∃ w', fWriter_appendAll 9 a w = some (.inl none, w') ∧ qV w0 r0 n0 tw th sz dp nm sy sp w' (L ++ X) := by
  have := qV.all2 hX ha hs X.length 0 FUEL w L h (by show _ < 1000000; omega) (by omega) hL
  rw [List.drop_zero] at this
  exact this
/-- the made boxes at the world w0 -/
def qBx (w0 : PW) (r0 : Nat) (P : List Nat) (bi bk : Nat → Int32) (ba br bn : Nat → Nat) (bL : Nat → List Int32) (bf : Nat → Nat → Int32) : Prop :=
  ∀ k x : Nat, P[k]? = some x → w0.1[x]? = some (.inr (4, [.int (bi k), .int (bk k), .ref (ba k)])) ∧ qB w0 (ba k) (br k) 40 (bn k) (bL k) (bf k) ∧ (x ≠ 10 ∧ x ≠ r0) ∧ (ba k ≠ 10 ∧ ba k ≠ r0) ∧ (br k ≠ 10 ∧ br k ≠ r0)
def m_mb (bi bk : Nat → Int32) (bL : Nat → List Int32) (ins : Int32) : Nat → Nat → List Int32
  | 0, _ => []
  | n + 1, i => (if bi i = ins then m_box (bk i) (bL i) else []) ++ m_mb bi bk bL ins n (i + 1)
theorem m_mb_len {bi bk : Nat → Int32} {bL : Nat → List Int32} (hb : ∀ k, (bL k).length ≤ 40) (ins : Int32) : ∀ n i, (m_mb bi bk bL ins n i).length ≤ 48 * n
  | 0, _ => Nat.le_refl _
  | n + 1, i => by
    rw [m_mb, List.length_append]
    have := m_mb_len hb (bi := bi) (bk := bk) ins n (i + 1)
    split
    · rw [m_box_len]
      have := hb i
      omega
    · simp; omega
theorem qV.list {a : Nat} (h : qV w0 r0 n0 tw th sz dp nm sy sp w L) (hl : qL w0 a e P) (ha : a ≠ 10 ∧ a ≠ r0) (he : ∀ y : Nat, .ref y = e → y ≠ 10 ∧ y ≠ r0) (hP : ∀ x ∈ P, x ≠ 10 ∧ x ≠ r0) : qL w a e P := by
  have le : ∀ y : Nat, .ref y = e → y < w0.1.length := fun y hy => by
    rcases hl.choose_spec.2.2.2 with ⟨x1, -⟩ | ⟨r, n, f, x1, hr, -⟩
    · rw [x1] at hy; cases hy
    · rw [x1] at hy
      cases hy
      exact q_lt_len hr
  exact hl.keep (fun y hy => by
    rcases hy with k | k | k
    · rw [k]
      exact h.keep ha.1 ha.2 (q_lt_len hl.choose_spec.1)
    · exact h.keep (he y k).1 (he y k).2 (le y k)
    · exact h.keep (hP y k).1 (hP y k).2 (q_lt_len (p_elt_some (hl.choose_spec.2.2.1 y k)).choose_spec.choose_spec.1))
theorem qV.mb2 {bi bk : Nat → Int32} {ba br bn : Nat → Nat} {bL : Nat → List Int32} {bf : Nat → Nat → Int32} (hl : qL w0 8 e P) (hr8 : 8 ≠ r0) (he : ∀ y : Nat, .ref y = e → y ≠ 10 ∧ y ≠ r0) (hB : qBx w0 r0 P bi bk ba br bn bL bf) (ins : Int32) : ∀ (k i F : Nat) (w : PW) (L : List Int32), qV w0 r0 n0 tw th sz dp nm sy sp w L → k < F → i + k = P.length → L.length + 48 * k ≤ 20000 → ∃ w', fWriter_madeBoxes_2 F 9 8 ins (Int32.ofNat i) w = some (.inl none, w') ∧ qV w0 r0 n0 tw th sz dp nm sy sp w' (L ++ m_mb bi bk bL ins k i)
  | 0, i, F + 1, w, L, h, _, hi, hL => by
    have hlw : qL w 8 e P := h.list hl ⟨by decide, hr8⟩ he (fun x hx => by
      obtain ⟨k, hk⟩ := List.getElem?_of_mem hx
      exact (hB k x hk).2.2.1)
    obtain ⟨fs, hlo⟩ := hlw.obj
    rw [fWriter_madeBoxes_2, hlo, Option.bind_some, hlw.size, q_call, q_kI, if_pos (by rw [show i = P.length by omega]; exact q_lei.mpr (Int.le_refl _)), m_mb, List.append_nil]
    exact ⟨w, rfl, h⟩
  | k + 1, i, F + 1, w, L, h, hF, hi, hL => by
    have hlw : qL w 8 e P := h.list hl ⟨by decide, hr8⟩ he (fun x hx => by
      obtain ⟨k, hk⟩ := List.getElem?_of_mem hx
      exact (hB k x hk).2.2.1)
    have h40 : P.length ≤ 40 := hl.choose_spec.2.1
    obtain ⟨fs, hlo⟩ := hlw.obj
    have hx : P[i]? = some P[i] := List.getElem?_eq_getElem (by omega)
    obtain ⟨o1, b1, c1, c2, c3⟩ := hB i _ hx
    have keep : ∀ (w' : PW) (L' : List Int32), qV w0 r0 n0 tw th sz dp nm sy sp w' L' → w'.1[P[i]]? = some (.inr (4, [.int (bi i), .int (bk i), .ref (ba i)])) := fun w' L' h' => by rw [h'.keep c1.1 c1.2 (q_lt_len o1), o1]
    have e1 : Int32.ofNat i + 1 = Int32.ofNat (i + 1) := (Int32.ofNat_add i 1).symm
    rw [fWriter_madeBoxes_2, hlo, Option.bind_some, hlw.size, q_call, q_kI, if_neg (fun hh => by have := (q_le (m := P.length) (n := i) (by omega) (by omega)).mp hh; omega), hlo, Option.bind_some, hlw.get i _ hx, q_call, q_kR, q_obj (keep w L h), Option.bind_some, q_getI (k := 0) (keep w L h) rfl, Option.bind_some, m_mb]
    simp only [q_let, e1]
    by_cases hbi : bi i = ins
    · rw [if_neg (not_not_intro hbi), if_pos hbi, q_getI (k := 1) (keep w L h) rfl, Option.bind_some, h.O, Option.bind_some]
      have hlen : (bL i).length ≤ 40 := b1.2.2.2.1
      obtain ⟨w1, g1, h1⟩ := h.openBox (bk i) (by omega)
      rw [g1, q_call, q_kI, q_getR (k := 2) (keep w1 _ h1) rfl, Option.bind_some, h1.O, Option.bind_some]
      obtain ⟨w2, g2, h2⟩ := h1.appendAll b1 c2 c3 (by simp [b4_len]; omega)
      rw [g2, q_call, q_kV, h2.O, Option.bind_some]
      rw [List.append_assoc, List.append_assoc] at h2
      obtain ⟨w3, g3, h3⟩ := h2.close
      rw [g3, q_call, q_kV]
      obtain ⟨w4, g4, h4⟩ := qV.mb2 hl hr8 he hB ins k (i + 1) F w3 _ h3 (by omega) (by omega) (by rw [List.length_append, m_box_len]; omega)
      rw [List.append_assoc] at h4
      exact ⟨w4, g4, h4⟩
    · rw [if_pos hbi, if_neg hbi, List.nil_append]
      exact qV.mb2 hl hr8 he hB ins k (i + 1) F w L h (by omega) (by omega) (by omega)
/-- the head's numbers -/
def m_deep (dp : Nat → Int32) : Nat → Nat → Int32 → Int32
  | 0, _, d => d
  | n + 1, i, d => m_deep dp n (i + 1) (p_max d (dp i))
def m_ihdr (sz dp : Nat → Int32) : List Int32 := b4 (sz 1) ++ (b4 (sz 0) ++ (b2 (sz 2) ++ ([(m_deep dp (sz 2).toInt.toNat 0 1 - 1) &&& 255] ++ ([7] ++ b2 0))))
theorem m_ihdr_len (sz dp : Nat → Int32) : (m_ihdr sz dp).length = 14 := rfl
theorem q_valD (c : Nat) : q_val sz dp nm sy sp 3 (-1) (Int32.ofNat c) = dp (p_max 0 (Int32.ofNat c)).toNatClampNeg := rfl
theorem q_max0 {c : Nat} (hc : c < 2147483648) : p_max 0 (Int32.ofNat c) = Int32.ofNat c := by
  unfold p_max
  by_cases h : 0 < Int32.ofNat c
  · rw [if_pos h]
  · rw [if_neg h]
    have : ¬ 0 < c := fun k => h ((q_lt (m := 0) (n := c) (by omega) hc).mpr k)
    rw [show c = 0 by omega]
    rfl
theorem qV.pic4 (hn1 : 1 ≤ (sz 2).toInt) (hn4 : (sz 2).toInt ≤ 4) : ∀ (k i F : Nat) (d : Int32) (w : PW) (L : List Int32), qV w0 r0 n0 tw th sz dp nm sy sp w L → k < F → (i + k : Int) = (sz 2).toInt → L.length + 22 ≤ 20000 → ∃ w', fWriter_pictureHeader_4 F 9 1 d (Int32.ofNat i) w = some (.inl none, w') ∧ qV w0 r0 n0 tw th sz dp nm sy sp w' (L ++ m_box 1768449138 (b4 (sz 1) ++ (b4 (sz 0) ++ (b2 (sz 2) ++ ([(m_deep dp k i d - 1) &&& 255] ++ ([7] ++ b2 0))))))
  | 0, i, F + 1, d, w, L, h, _, hi, hL => by
    have s2 := h.S.size 2 (by decide) (by decide)
    rw [fWriter_pictureHeader_4, q_getR (k := 0) h.S.1 rfl, Option.bind_some, s2, Option.bind_some, if_pos (by rw [q_lei, q_ofi (by omega)]; show (sz 2).toInt ≤ _; omega), h.O, Option.bind_some, m_deep]
    obtain ⟨w1, g1, h1⟩ := h.openBox 1768449138 (by omega)
    obtain ⟨f1, o1⟩ := h1.B
    rw [g1, q_call, q_kI, h1.R, Option.bind_some, q_getR (k := 0) h1.S.1 rfl, Option.bind_some, h1.S.size 1 (by decide) (by decide), Option.bind_some, o1, Option.bind_some]
    obtain ⟨w2, g2, h2⟩ := h1.ap4 (sz 1) (by simp [b4_len]; omega)
    obtain ⟨f2, o2⟩ := h2.B
    rw [show sz (1 : Int32).toNatClampNeg = sz 1 from rfl, g2, q_call, q_kV, h2.R, Option.bind_some, q_getR (k := 0) h2.S.1 rfl, Option.bind_some, h2.S.size 0 (by decide) (by decide), Option.bind_some, o2, Option.bind_some]
    obtain ⟨w3, g3, h3⟩ := h2.ap4 (sz 0) (by simp [b4_len]; omega)
    obtain ⟨f3, o3⟩ := h3.B
    rw [show sz (0 : Int32).toNatClampNeg = sz 0 from rfl, g3, q_call, q_kV, h3.R, Option.bind_some, q_getR (k := 0) h3.S.1 rfl, Option.bind_some, h3.S.size 2 (by decide) (by decide), Option.bind_some, o3, Option.bind_some]
    obtain ⟨w4, g4, h4⟩ := h3.ap2 (sz 2) (by simp [b4_len]; omega)
    obtain ⟨f4, o4⟩ := h4.B
    rw [show sz (2 : Int32).toNatClampNeg = sz 2 from rfl, g4, q_call, q_kV, h4.R, Option.bind_some, o4, Option.bind_some]
    obtain ⟨w5, g5, h5⟩ := h4.app (d - 1) (by simp [b4_len, b2_len]; omega)
    obtain ⟨f5, o5⟩ := h5.B
    rw [g5, q_call, q_kI, h5.R, Option.bind_some, o5, Option.bind_some]
    obtain ⟨w6, g6, h6⟩ := h5.app 7 (by simp [b4_len, b2_len]; omega)
    obtain ⟨f6, o6⟩ := h6.B
    rw [g6, q_call, q_kI, h6.R, Option.bind_some, o6, Option.bind_some]
    obtain ⟨w7, g7, h7⟩ := h6.ap2 0 (by simp [b4_len, b2_len]; omega)
    rw [g7, q_call, q_kV, h7.O, Option.bind_some]
    simp only [List.append_assoc] at h7
    obtain ⟨w8, g8, h8⟩ := h7.close
    rw [g8, q_call, q_kV]
    exact ⟨w8, rfl, h8⟩
  | k + 1, i, F + 1, d, w, L, h, hF, hi, hL => by
    have s2 := h.S.size 2 (by decide) (by decide)
    obtain ⟨fs, hso⟩ := h.S.obj
    rw [fWriter_pictureHeader_4, q_getR (k := 0) h.S.1 rfl, Option.bind_some, s2, Option.bind_some, if_neg (by rw [q_lei, q_ofi (by omega)]; show ¬ (sz 2).toInt ≤ _; omega), hso, Option.bind_some, h.S.valueOf 3 (-1) (Int32.ofNat i) (by decide) (by decide) (fun _ => (q_lt (m := i) (n := 4) (by omega) (by omega)).mpr (by omega)), q_call, q_kI, q_valD, q_max0 (by omega), q_tno (by omega), m_deep]
    simp only [q_let]
    rw [show Int32.ofNat i + 1 = Int32.ofNat (i + 1) from (Int32.ofNat_add i 1).symm]
    exact qV.pic4 hn1 hn4 k (i + 1) F _ w L h (by omega) (by omega) hL
theorem qV.picture (h : qV w0 r0 n0 tw th sz dp nm sy sp w L) (hn1 : 1 ≤ (sz 2).toInt) (hn4 : (sz 2).toInt ≤ 4) (hL : L.length + 22 ≤ 20000) : ∃ w', fWriter_pictureHeader 9 1 w = some (.inl none, w') ∧ qV w0 r0 n0 tw th sz dp nm sy sp w' (L ++ m_box 1768449138 (m_ihdr sz dp)) :=
  qV.pic4 hn1 hn4 (sz 2).toInt.toNat 0 FUEL 1 w L h (by show _ < 1000000; omega) (by omega) hL
end
