section
variable {w0 w : PW} {r0 n0 : Nat} {tw th : Int32} {sz dp nm sy sp : Nat → Int32} {L : List Int32} {e : Value} {P : List Nat} {rd : Int32}
/-- a stream without parts -/
def m_str0 (tw th : Int32) (sz dp nm sy sp : Nat → Int32) : List Int32 := [255, 79] ++ (m_sizes tw th sz dp ++ (m_segs (sz 2).toInt nm sy sp (-1) ++ [255, 217]))
theorem qV.stream0 (h : qV w0 r0 n0 tw th sz dp nm sy sp w L) (hn1 : 1 ≤ (sz 2).toInt) (hn4 : (sz 2).toInt ≤ 4) (hl : qL w0 7 e []) (hr7 : 7 ≠ r0) (he : ∀ y : Nat, .ref y = e → y ≠ 10 ∧ y ≠ r0) (hL : L.length + 200 ≤ 20000) : ∃ w', fWriter_streamBox 9 1 7 w = some (.inl none, w') ∧ qV w0 r0 n0 tw th sz dp nm sy sp w' (L ++ m_box 1785737827 (m_str0 tw th sz dp nm sy sp)) := by
  unfold fWriter_streamBox
  have hml := m_segs_len (nm := nm) (sy := sy) (sp := sp) (sz 2).toInt hn4 (-1)
  rw [h.O, Option.bind_some]
  obtain ⟨w1, g1, h1⟩ := h.openBox 1785737827 (by omega)
  rw [g1, q_call, q_kI, h1.O, Option.bind_some]
  obtain ⟨w2, g2, h2⟩ := h1.code 79 (by simp [b4_len]; omega)
  rw [g2, q_call, q_kV, h2.O, Option.bind_some]
  obtain ⟨w3, g3, h3⟩ := h2.sizes hn1 hn4 (by simp [b4_len]; omega)
  rw [g3, q_call, q_kV, h3.O, Option.bind_some]
  obtain ⟨w4, g4, h4⟩ := h3.segments hn1 hn4 (-1) (by simp only [List.length_append, b4_len, m_sizes_len, List.length_cons, List.length_nil]; omega)
  rw [g4, q_call, q_kV]
  have hlw : qL w4 7 e [] := h4.list hl ⟨by decide, hr7⟩ he (fun x hx => absurd hx (by simp))
  obtain ⟨fs, hlo⟩ := hlw.obj
  rw [show FUEL = 999999 + 1 from rfl, fWriter_streamBox_27, hlo, Option.bind_some, hlw.size, q_call, q_kI, if_pos (by decide), h4.O, Option.bind_some]
  obtain ⟨w5, g5, h5⟩ := h4.code 217 (by simp only [List.length_append, b4_len, m_sizes_len, List.length_cons, List.length_nil]; omega)
  rw [g5, q_call, q_kV, h5.O, Option.bind_some]
  rw [show L ++ (b4 0 ++ b4 1785737827) ++ [255, 79 &&& 255] ++ m_sizes tw th sz dp ++ m_segs (sz 2).toInt nm sy sp (-1) ++ [255, 217 &&& 255] = L ++ (b4 0 ++ (b4 1785737827 ++ m_str0 tw th sz dp nm sy sp)) by unfold m_str0; simp only [List.append_assoc]; rfl] at h5
  obtain ⟨w6, g6, h6⟩ := h5.close
  rw [g6, q_call, q_kV]
  exact ⟨w6, rfl, h6⟩
/-- the whole file, no part made -/
def m_file0 (tw th : Int32) (sz dp nm sy sp : Nat → Int32) (bi bk : Nat → Int32) (bL : Nat → List Int32) (n : Nat) : List Int32 := m_head sz dp (m_mb bi bk bL 1 n 0) ++ (m_mb bi bk bL 0 n 0 ++ m_box 1785737827 (m_str0 tw th sz dp nm sy sp))
theorem qB.begin {w : PW} {r n : Nat} {L : List Int32} {f : Nat → Int32} (h : qB w 10 r 20000 n L f) (h9 : w.1[9]? = some (.inr (9, [.ref 10]))) : ∃ w', fWriter_begin 9 w = some (.inl none, w') ∧ qB w' 10 r 20000 n [] f ∧ qE 10 w w' := by
  have hne := h.ne
  obtain ⟨ho, hd, h1, h2, h3, h4, h5, h6, h7⟩ := h
  unfold fWriter_begin
  obtain ⟨w1, g1, s1, F1⟩ := o_put (k := 2) ho (by simp) (.int 0)
  rw [q_getR (k := 0) h9 rfl, Option.bind_some, g1, Option.bind_some]
  exact ⟨w1, rfl, ⟨s1, F1.at hd hne.symm, by simp, by simp, h3, h4, h5, h6, fun i hi => absurd hi (Nat.not_lt_zero i)⟩, F1⟩
theorem qW_write0 {r n : Nat} {f : Nat → Int32} {e8 : Value} {Q : List Nat} {bi bk : Nat → Int32} {ba br bn : Nat → Nat} {bL : Nat → List Int32} {bf : Nat → Nat → Int32} (ho : qCo w rd) (h9 : w.1[9]? = some (.inr (9, [.ref 10]))) (hb : qB w 10 r 20000 n L f) (hs : qS w 1 tw th sz dp nm sy sp) (hr : r = 11 ∨ 67 ≤ r) (hn1 : 1 ≤ (sz 2).toInt) (hn4 : (sz 2).toInt ≤ 4) (hl : qL w 7 e []) (he : ∀ y : Nat, .ref y = e → y ≠ 10 ∧ y ≠ r) (hl8 : qL w 8 e8 Q) (he8 : ∀ y : Nat, .ref y = e8 → y ≠ 10 ∧ y ≠ r) (hB : qBx w r Q bi bk ba br bn bL bf) :
    ∃ w', fW_write 0 w = some (.inl (some (.int (Int32.ofNat (m_file0 tw th sz dp nm sy sp bi bk bL Q.length).length))), w') ∧ ∃ w0, qE 10 w w0 ∧ qV w0 r n tw th sz dp nm sy sp w' (m_file0 tw th sz dp nm sy sp bi bk bL Q.length) := by
  unfold fW_write
  rw [q_getR (k := 3) ho rfl, Option.bind_some, q_obj h9, Option.bind_some]
  obtain ⟨w0, g0, b0, F0⟩ := hb.begin h9
  have h90 := F0.at h9 (by decide)
  have ho0 : qCo w0 rd := F0.at ho (by decide)
  have hs0 : qS w0 1 tw th sz dp nm sy sp := hs.keep (fun x h1 h2 => F0.2.1 x (by omega))
  have hl0 : qL w0 7 e [] := hl.keep (fun y hy => F0.2.1 y (by
    rcases hy with h | h | h
    · omega
    · exact (he y h).1
    · exact absurd h (by simp)))
  have mQ : ∀ x ∈ Q, x ≠ 10 ∧ x ≠ r := fun x hx => by
    obtain ⟨k, hk⟩ := List.getElem?_of_mem hx
    exact (hB k x hk).2.2.1
  have hl80 : qL w0 8 e8 Q := hl8.keep (fun y hy => F0.2.1 y (by
    rcases hy with h | h | h
    · omega
    · exact (he8 y h).1
    · exact (mQ y h).1))
  have hB0 : qBx w0 r Q bi bk ba br bn bL bf := fun k x hx => by
    obtain ⟨o1, b1, c1, c2, c3⟩ := hB k x hx
    exact ⟨F0.at o1 c1.1, b1.keep (F0.2.1 _ c2.1) (F0.2.1 _ c3.1), c1, c2, c3⟩
  have hv0 : qV w0 r n tw th sz dp nm sy sp w0 [] := ⟨b0.bs, h90, hs0, hr⟩
  rw [g0, q_call, q_kV, q_getR (k := 3) ho0 rfl, Option.bind_some, q_getR (k := 0) ho0 rfl, Option.bind_some, q_getR (k := 2) ho0 rfl, Option.bind_some, q_obj h90, Option.bind_some]
  have l0 : 0 < w0.1.length := q_lt_len ho0
  have co : ∀ (w' : PW) (L' : List Int32), qV w0 r n tw th sz dp nm sy sp w' L' → qCo w' rd := fun w' L' h' => by
    unfold qCo
    rw [h'.keep (by decide) (by omega) l0]
    exact ho0
  have hq40 : Q.length ≤ 40 := hl8.choose_spec.2.1
  have hlen40 : ∀ k, k < Q.length → (bL k).length ≤ 40 := fun k hk => (hB k _ (List.getElem?_eq_getElem hk)).2.1.2.2.2.1
  have hmb : ∀ ins k i, i + k = Q.length → (m_mb bi bk bL ins k i).length ≤ 48 * k := by
    intro ins k
    induction k with
    | zero => intro i _; exact Nat.le_refl _
    | succ k ih =>
      intro i hi
      rw [m_mb, List.length_append]
      have := ih (i + 1) (by omega)
      have := hlen40 i (by omega)
      split
      · rw [m_box_len]; omega
      · simp; omega
  have hmb1 := hmb 1 Q.length 0 (by omega)
  have hmb0 := hmb 0 Q.length 0 (by omega)
  obtain ⟨w1, g1, h1⟩ := hv0.headBoxes hn1 hn4 hl80 (by omega) he8 hB0
  rw [g1, q_call, q_kV, q_getR (k := 3) (co w1 _ h1) rfl, Option.bind_some, q_getR (k := 2) (co w1 _ h1) rfl, Option.bind_some, h1.O, Option.bind_some]
  unfold fWriter_madeBoxes
  obtain ⟨w2, g2, h2⟩ := qV.mb2 hl80 (by omega) he8 hB0 0 Q.length 0 FUEL w1 _ h1 (by show _ < 1000000; omega) (by omega) (by rw [m_head_len]; omega)
  rw [show fWriter_madeBoxes_2 FUEL 9 8 0 0 w1 = _ from g2, q_call, q_kV, q_getR (k := 3) (co w2 _ h2) rfl, Option.bind_some, q_getR (k := 0) (co w2 _ h2) rfl, Option.bind_some, q_getR (k := 1) (co w2 _ h2) rfl, Option.bind_some, h2.O, Option.bind_some]
  obtain ⟨w3, g3, h3⟩ := h2.stream0 hn1 hn4 hl0 (by omega) he (by rw [List.length_append, m_head_len]; omega)
  rw [List.append_assoc] at h3
  rw [g3, q_call, q_kV, q_getR (k := 3) (co w3 _ h3) rfl, Option.bind_some, h3.R, Option.bind_some, h3.C, Option.bind_some]
  exact ⟨w3, rfl, w0, F0, h3⟩
end
