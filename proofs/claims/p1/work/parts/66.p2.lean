/-- numbers in two and in four bytes -/
def b2 (v : Int32) : List Int32 := [p_ushr v 8 &&& 255, p_ushr v 0 &&& 255]
def b4 (v : Int32) : List Int32 := [p_ushr v 24 &&& 255, p_ushr v 16 &&& 255, p_ushr v 8 &&& 255, p_ushr v 0 &&& 255]
/-- the class writing: since w0 only out has changed, which holds L -/
def qV (w0 : PW) (r0 n0 : Nat) (tw th : Int32) (sz dp nm sy sp : Nat → Int32) (w : PW) (L : List Int32) : Prop := qBS 10 w0 r0 n0 20000 w L ∧ w0.1[9]? = some (.inr (9, [.ref 10])) ∧ qS w0 1 tw th sz dp nm sy sp ∧ (r0 = 11 ∨ 67 ≤ r0)
section
variable {w0 w : PW} {r0 n0 : Nat} {tw th : Int32} {sz dp nm sy sp : Nat → Int32} {L : List Int32}
theorem qV.keep (h : qV w0 r0 n0 tw th sz dp nm sy sp w L) {x : Nat} (h1 : x ≠ 10) (h2 : x ≠ r0) (hx : x < w0.1.length) : w.1[x]? = w0.1[x]? := by
  obtain ⟨⟨r, n, f, -, hF, -⟩, -⟩ := h
  exact hF.2.1 x hx (by rintro (e | e); exact h1 e; exact h2 e)
theorem qV.n9 (h : qV w0 r0 n0 tw th sz dp nm sy sp w L) : w.1[9]? = some (.inr (9, [.ref 10])) := by
  have hr := h.2.2.2
  rw [h.keep (by decide) (by omega) (q_lt_len h.2.1), h.2.1]
theorem qV.R (h : qV w0 r0 n0 tw th sz dp nm sy sp w L) : p_getR w 9 9 0 = some 10 := q_getR h.n9 rfl
theorem qV.O (h : qV w0 r0 n0 tw th sz dp nm sy sp w L) : p_obj w 9 9 = some [.ref 10] := q_obj h.n9
theorem qV.B (h : qV w0 r0 n0 tw th sz dp nm sy sp w L) : ∃ fs, p_obj w 10 2 = some fs := h.1.obj
theorem qV.C (h : qV w0 r0 n0 tw th sz dp nm sy sp w L) : p_getI w 10 2 2 = some (Int32.ofNat L.length) := h.1.count
theorem qV.S (h : qV w0 r0 n0 tw th sz dp nm sy sp w L) : qS w 1 tw th sz dp nm sy sp := by
  have hr := h.2.2.2
  have l6 : 6 < w0.1.length := q_lt_len h.2.2.1.2.2.2.2.2.1
  exact h.2.2.1.keep (fun x h1 h2 => h.keep (by omega) (by omega) (by omega))
theorem qV.len (h : qV w0 r0 n0 tw th sz dp nm sy sp w L) : L.length ≤ 20000 := by
  obtain ⟨⟨r, n, f, hb, -⟩, -⟩ := h
  exact hb.2.2.2.1
theorem qV.app (h : qV w0 r0 n0 tw th sz dp nm sy sp w L) (b : Int32) (hL : L.length < 20000) : ∃ w', fBytes_append 10 b w = some (.inl (some (.int 1)), w') ∧ qV w0 r0 n0 tw th sz dp nm sy sp w' (L ++ [b &&& 255]) := by
  obtain ⟨v, w', g1, hv, k1⟩ := h.1.append b
  rw [hv, if_pos hL] at g1
  unfold q_app at k1
  rw [if_pos hL] at k1
  exact ⟨w', g1, k1, h.2⟩
theorem q_app_lt {mo : Nat} {L : List Int32} {b : Int32} (h : L.length < mo) : q_app mo L b = L ++ [b &&& 255] := if_pos h
theorem qV.ap2 (h : qV w0 r0 n0 tw th sz dp nm sy sp w L) (v : Int32) (hL : L.length + 2 ≤ 20000) : ∃ w', fBytes_appendNumber 10 v 2 w = some (.inl none, w') ∧ qV w0 r0 n0 tw th sz dp nm sy sp w' (L ++ b2 v) := by
  obtain ⟨w', g1, k1⟩ := h.1.apn2 v
  refine ⟨w', g1, ?_, h.2⟩
  have : q_apn 20000 v L [8, 0] = L ++ b2 v := by
    simp only [q_apn]
    rw [q_app_lt (L := L) (by omega), q_app_lt (L := L ++ [p_ushr v 8 &&& 255]) (by simp; omega), List.append_assoc]
    rfl
  rw [← this]
  exact k1
theorem qV.ap4 (h : qV w0 r0 n0 tw th sz dp nm sy sp w L) (v : Int32) (hL : L.length + 4 ≤ 20000) : ∃ w', fBytes_appendNumber 10 v 4 w = some (.inl none, w') ∧ qV w0 r0 n0 tw th sz dp nm sy sp w' (L ++ b4 v) := by
  obtain ⟨w', g1, k1⟩ := h.1.apn4 v
  refine ⟨w', g1, ?_, h.2⟩
  have : q_apn 20000 v L [24, 16, 8, 0] = L ++ b4 v := by
    simp only [q_apn]
    rw [q_app_lt (L := L) (by omega), q_app_lt (L := L ++ [p_ushr v 24 &&& 255]) (by simp; omega), q_app_lt (L := L ++ [p_ushr v 24 &&& 255] ++ [p_ushr v 16 &&& 255]) (by simp; omega), q_app_lt (L := L ++ [p_ushr v 24 &&& 255] ++ [p_ushr v 16 &&& 255] ++ [p_ushr v 8 &&& 255]) (by simp; omega), List.append_assoc, List.append_assoc, List.append_assoc]
    rfl
  rw [← this]
  exact k1
theorem b2_len (v : Int32) : (b2 v).length = 2 := rfl
theorem b4_len (v : Int32) : (b4 v).length = 4 := rfl
theorem qV.code (h : qV w0 r0 n0 tw th sz dp nm sy sp w L) (c : Int32) (hL : L.length + 2 ≤ 20000) : ∃ w', fWriter_code 9 c w = some (.inl none, w') ∧ qV w0 r0 n0 tw th sz dp nm sy sp w' (L ++ [255, c &&& 255]) := by
  unfold fWriter_code
  obtain ⟨fs, ho⟩ := h.B
  rw [h.R, Option.bind_some, ho, Option.bind_some]
  obtain ⟨w1, g1, h1⟩ := h.app 255 (by omega)
  obtain ⟨fs1, ho1⟩ := h1.B
  rw [g1, q_call, q_kI, h1.R, Option.bind_some, ho1, Option.bind_some]
  obtain ⟨w2, g2, h2⟩ := h1.app c (by simp; omega)
  rw [g2, q_call, q_kI]
  refine ⟨w2, rfl, ?_⟩
  rw [List.append_assoc] at h2
  exact h2
theorem qV.openBox (h : qV w0 r0 n0 tw th sz dp nm sy sp w L) (k : Int32) (hL : L.length + 8 ≤ 20000) : ∃ w', fWriter_openBox 9 k w = some (.inl (some (.int (Int32.ofNat L.length))), w') ∧ qV w0 r0 n0 tw th sz dp nm sy sp w' (L ++ (b4 0 ++ b4 k)) := by
  unfold fWriter_openBox
  obtain ⟨fs, ho⟩ := h.B
  rw [h.R, Option.bind_some, h.C, Option.bind_some, Option.bind_some, ho, Option.bind_some]
  obtain ⟨w1, g1, h1⟩ := h.ap4 0 (by omega)
  obtain ⟨fs1, ho1⟩ := h1.B
  rw [g1, q_call, q_kV, h1.R, Option.bind_some, ho1, Option.bind_some]
  obtain ⟨w2, g2, h2⟩ := h1.ap4 k (by rw [List.length_append, b4_len]; omega)
  rw [g2, q_call, q_kV]
  rw [List.append_assoc] at h2
  exact ⟨w2, rfl, h2⟩
theorem q_sb {L : List Int32} {i : Int32} {b : Int32} (j : Nat) (hj : j < 2147483648) (hi : i = Int32.ofNat j) : q_setb L i b = L.set j (b &&& 255) := by
  subst hi
  unfold q_setb
  rw [if_neg (show ¬ Int32.ofNat j < 0 from fun h => absurd ((q_lt (m := j) (n := 0) hj (by omega)).mp h) (Nat.not_lt_zero _)), q_tno hj]
theorem q_set4_at {A B : List Int32} {x0 x1 x2 x3 : Int32} (hA : A.length ≤ 30000) (v : Int32) : q_set4 (A ++ (x0 :: x1 :: x2 :: x3 :: B)) (Int32.ofNat A.length) v = A ++ (b4 v ++ B) := by
  have e : ∀ k : Nat, Int32.ofNat A.length + Int32.ofNat k = Int32.ofNat (A.length + k) := fun k => (Int32.ofNat_add _ _).symm
  unfold q_set4
  rw [q_sb (A.length + 0) (by omega) (show Int32.ofNat A.length + 0 = _ from e 0), q_sb (A.length + 1) (by omega) (show Int32.ofNat A.length + 1 = _ from e 1), q_sb (A.length + 2) (by omega) (show Int32.ofNat A.length + 2 = _ from e 2), q_sb (A.length + 3) (by omega) (show Int32.ofNat A.length + 3 = _ from e 3)]
  rw [List.set_append_right _ _ (by omega), List.set_append_right _ _ (by omega), List.set_append_right _ _ (by omega), List.set_append_right _ _ (by omega)]
  simp only [Nat.add_sub_cancel_left]
  rfl
theorem qV.closeBox {A : List Int32} {B : List Int32} {x0 x1 x2 x3 : Int32} (h : qV w0 r0 n0 tw th sz dp nm sy sp w (A ++ (x0 :: x1 :: x2 :: x3 :: B))) : ∃ w', fWriter_closeBox 9 (Int32.ofNat A.length) w = some (.inl none, w') ∧ qV w0 r0 n0 tw th sz dp nm sy sp w' (A ++ (b4 (Int32.ofNat (4 + B.length)) ++ B)) := by
  have hl := h.len
  have hl2 : (A ++ (x0 :: x1 :: x2 :: x3 :: B)).length = A.length + (4 + B.length) := by simp; omega
  unfold fWriter_closeBox
  obtain ⟨fs, ho⟩ := h.B
  rw [h.R, Option.bind_some, Option.bind_some, h.C, Option.bind_some, ho, Option.bind_some]
  obtain ⟨w1, g1, k1⟩ := h.1.put4 (Int32.ofNat A.length) (Int32.ofNat (A ++ (x0 :: x1 :: x2 :: x3 :: B)).length - Int32.ofNat A.length)
  rw [g1, q_call, q_kV]
  have e1 : Int32.ofNat (A ++ (x0 :: x1 :: x2 :: x3 :: B)).length - Int32.ofNat A.length = Int32.ofNat (4 + B.length) := by
    rw [hl2, show Int32.ofNat (A.length + (4 + B.length)) = Int32.ofNat A.length + Int32.ofNat (4 + B.length) from Int32.ofNat_add _ _]
    grind
  rw [e1, q_set4_at (by rw [hl2] at hl; omega)] at k1
  exact ⟨w1, rfl, k1, h.2⟩
/-- a box -/
def m_box (k : Int32) (X : List Int32) : List Int32 := b4 (Int32.ofNat (8 + X.length)) ++ (b4 k ++ X)
theorem m_box_len (k : Int32) (X : List Int32) : (m_box k X).length = 8 + X.length := by
  unfold m_box
  simp [b4_len]
  omega
theorem qV.close {A X : List Int32} {k : Int32} (h : qV w0 r0 n0 tw th sz dp nm sy sp w (A ++ (b4 0 ++ (b4 k ++ X)))) : ∃ w', fWriter_closeBox 9 (Int32.ofNat A.length) w = some (.inl none, w') ∧ qV w0 r0 n0 tw th sz dp nm sy sp w' (A ++ m_box k X) := by
  obtain ⟨w1, g1, k1⟩ := qV.closeBox (A := A) (B := b4 k ++ X) (x0 := p_ushr 0 24 &&& 255) (x1 := p_ushr 0 16 &&& 255) (x2 := p_ushr 0 8 &&& 255) (x3 := p_ushr 0 0 &&& 255) h
  refine ⟨w1, g1, ?_⟩
  unfold m_box
  rw [show 8 + X.length = 4 + (b4 k ++ X).length by simp [b4_len]; omega]
  exact k1
end
