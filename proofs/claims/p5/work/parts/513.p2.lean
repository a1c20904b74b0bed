/-- what read answers -/
def s_read (L : List Int32) : Int32 :=
  match (s_find L).1 with
  | some b => -1 - Int32.ofNat b
  | none => match (s_find L).2.2.2 with
    | none => 0
    | some (a, e) => match (s_head L a e).1 with
      | some b => -1 - Int32.ofNat b
      | none => Int32.ofNat (s_pts L e 300 (s_head L a e).2 0)
/-- the reference's state of reading -/
def gRd (z : Nat → Int32) (g : Nat → Nat → Int32) (L : List Int32) (U : List (Nat × Nat)) : Prop := qY g 54 L ∧ (z 27 = Int32.ofNat U.length ∧ ∀ i (hi : i < U.length), g 55 i = Int32.ofNat (U[i]).1 ∧ g 56 i = Int32.ofNat ((U[i]).2 - (U[i]).1 - 8)) ∧ (z 25 = 0 ∨ z 25 = 1) ∧ ∃ n : Nat, z 30 = Int32.ofNat n ∧ n ≤ 300 ∧ (z 25 = 1 → gTl g ∧ ∀ j, j < n → gK g j)
/-- what a read leaves alone in the reference -/
def gR (g g' : Nat → Nat → Int32) : Prop := (∀ k, 43 ≤ k → k ≤ 53 → g' k = g k) ∧ (∀ i, i < 1375 → g' 38 i = g 38 i) ∧ (∀ i, i < 125 → g' 39 i = g 39 i ∧ g' 40 i = g 40 i) ∧ (∀ i, i < 4 → g' 41 i = g 41 i) ∧ (∀ i, i < 5 → g' 42 i = g 42 i) ∧ (g01 g → g01 g')
theorem gR.tr {g g' g'' : Nat → Nat → Int32} (h : gR g g') (k : gR g' g'') : gR g g'' := ⟨fun j a b => (k.1 j a b).trans (h.1 j a b), fun i hi => (k.2.1 i hi).trans (h.2.1 i hi), fun i hi => ⟨(k.2.2.1 i hi).1.trans (h.2.2.1 i hi).1, (k.2.2.1 i hi).2.trans (h.2.2.1 i hi).2⟩, fun i hi => (k.2.2.2.1 i hi).trans (h.2.2.2.1 i hi), fun i hi => (k.2.2.2.2.1 i hi).trans (h.2.2.2.2.1 i hi), fun y => k.2.2.2.2.2 (h.2.2.2.2.2 y)⟩
theorem gF.r {g g' : Nat → Nat → Int32} (h : gF g g') : gR g g' := ⟨fun k a b => h.1 k a (by omega), h.2.1, h.2.2.1, h.2.2.2.1, h.2.2.2.2.1, h.2.2.2.2.2⟩
theorem gR.b {g g' : Nat → Nat → Int32} {x y : Int32} (h : q_bgn g g' x y 125) : gR g g' := by
  obtain ⟨h1, h2, h3, h4, h5, h6⟩ := h
  refine ⟨fun k a b => h1 k (by omega) (by omega) (by omega) (by omega) (by omega), fun i hi => ?_, fun i hi => ⟨?_, ?_⟩, fun i hi => ?_, fun i hi => ?_, fun y j => ⟨?_, ?_⟩⟩
  · rw [h6, if_neg (by omega), if_neg (by omega), if_neg (by omega), if_neg (by omega), if_neg (by omega), if_neg (by omega), if_neg (by omega)]
  · rw [h4, if_neg (by omega)]
  · rw [h5, if_neg (by omega)]
  · rw [h3]
    exact if_neg (by simp; omega)
  · rw [h2]
    simp only [show ¬ (125 = 0) by decide, if_false]
    rw [if_neg (by omega), if_neg (by omega), if_neg (by omega), if_neg (by omega), if_neg (by omega)]
  · rw [h4]
    split
    · split
      · exact Or.inr rfl
      · exact Or.inl rfl
    · exact (y j).1
  · rw [h5]
    split
    · split
      · exact Or.inr rfl
      · exact Or.inl rfl
    · exact (y j).2
section
variable {w0 w : PW} {z0 z : Nat → Int32} {g0 g : Nat → Nat → Int32} {c a e br : Int32} {U : List (Nat × Nat)} {L : List Int32}
theorem qZ.boxes (h : qZ w0 z0 g0 w (-1) [] a e (-1)) (k : qHd z0 g0 L) (hr : ¬ (2 ≤ L.length ∧ nb L 0 = 255 ∧ nb L 1 = 79)) : ∃ w', fD_readBoxes 37 w = some (.inl (some (.int (o1 (s_find L).1))), w') ∧ qZ w0 z0 g0 w' (s_find L).2.1 (s_find L).2.2.1 (oF a (s_find L).2.2.2) (oE e (s_find L).2.2.2) (oN (s_find L).1) := by
  obtain ⟨f0, o0⟩ := h.O
  obtain ⟨v, ev, iv⟩ := h.right k
  have hl := k.2.2.1
  unfold fD_readBoxes s_find
  rw [if_neg hr, o0, Option.bind_some, ev, q_call, q_kI]
  by_cases hs : 12 ≤ L.length ∧ nb4 L 0 = 12 ∧ nb4 L 4 = 1783636000 ∧ nb4 L 8 = 218793738
  · rw [if_pos hs, if_pos (fun y => iv.mp y hs)]
    obtain ⟨w1, e1, h1⟩ := qZ.bx16 k 2600 12 FUEL w (-1) [] h hs.1 (by omega) (by decide) (by simp)
    rw [show fD_readBoxes_16 FUEL 37 12 w = _ from e1]
    exact ⟨w1, rfl, h1⟩
  · rw [if_neg hs, if_neg (not_not_intro (iv.mpr hs)), o0, Option.bind_some]
    obtain ⟨w1, e1, h1⟩ := h.fails 0
    rw [e1, q_call, q_kI]
    exact ⟨w1, rfl, h1⟩
theorem qM.r7 (L : List Int32) (hl : L.length ≤ 20000) (h22 : z 22 = Int32.ofNat L.length) : ∀ (n i F : Nat) (w : PW) (g : Nat → Nat → Int32), qM w z g → qY g 53 L → (∀ j (hj : j < L.length), j < i → g 54 j = L[j]) → i + n = L.length → n < F → ∃ w' g' F', fD_read_7 F 37 (Int32.ofNat i) w = fD_read_7 (F' + 1) 37 (Int32.ofNat L.length) w' ∧ qM w' z g' ∧ qI 37 66 w w' ∧ qY g' 54 L ∧ ∀ k, k ≠ 54 → g' k = g k
  | 0, i, F + 1, w, g, h, hf, hd, hi, _ => by
    have : i = L.length := by omega
    subst this
    exact ⟨w, g, F, rfl, h, qI.rf, fun j hj => hd j hj hj, fun _ _ => rfl⟩
  | n + 1, i, F + 1, w, g, h, hf, hd, hi, hF => by
    rw [fD_read_7, h.I 22 rfl, Option.bind_some, h22, if_neg (fun hh => by have := (q_of_le (by omega) (by omega)).mp hh; omega), h.R 23 54 rfl, Option.bind_some, h.R 21 53 rfl, Option.bind_some, h.ldn 53 0 i rfl (by omega) (by omega) (by show i < 20000; omega) (by decide), Option.bind_some]
    obtain ⟨w1, e1, q1, F1⟩ := h.stn 54 0 i (g 53 i) rfl (by omega) (by omega) (by show i < 20000; omega) (by decide)
    rw [e1, Option.bind_some, q_let, show Int32.ofNat i + 1 = Int32.ofNat (i + 1) from (Int32.ofNat_add i 1).symm]
    obtain ⟨w2, g2, F', r1, r2, r3, r4, r5⟩ := qM.r7 L hl h22 n (i + 1) F w1 _ q1 (fun j hj => by rw [ug_ne _ _ _ (by decide)]; exact hf j hj) (fun j hj hji => by
      rw [ug_self]
      unfold upd
      by_cases e : j = i
      · subst e
        rw [if_pos rfl]
        exact hf j hj
      · rw [if_neg e]
        exact hd j hj (by omega)) (by omega) (by omega)
    exact ⟨w2, g2, F', r1, r2, F1.tr r3, r4, fun k hk => by rw [r5 k hk, ug_ne _ _ _ hk]⟩
/-- what a read leaves -/
def qRe (w : PW) (z : Nat → Int32) (g : Nat → Nat → Int32) (L : List Int32) (r : PX) : Prop := ∃ w' z' g', r = some (.inl (some (.int (s_read L))), w') ∧ qM w' z' g' ∧ qI 37 66 w w' ∧ (∀ j, j ≠ 0 → j ≠ 24 → j ≠ 25 → j ≠ 26 → j ≠ 27 → j ≠ 30 → j ≠ 39 → j ≠ 40 → j ≠ 41 → j ≠ 43 → z' j = z j) ∧ z' 0 = 0 ∧ gR g g' ∧ gRd z' g' L (s_find L).2.2.1
theorem qM.read (h : qM w z g) (hf : qY g 53 L) (h22 : z 22 = Int32.ofNat L.length) (hL : qby L) (hl : L.length ≤ 20000) : qRe w z g L (fD_read 37 w) := by
  unfold fD_read
  obtain ⟨w1, e1, q1, F1⟩ := h.put 0 0 (by omega) rfl
  rw [e1, Option.bind_some]
  have h22' : upd z 0 0 22 = Int32.ofNat L.length := by unfold upd; rw [if_neg (by decide), h22]
  obtain ⟨w2, g2, F', e2, q2, F2, hy2, k2⟩ := qM.r7 L hl h22' L.length 0 FUEL w1 g q1 hf (fun j _ hj => by omega) (by omega) (by show _ < 1000000; omega)
  rw [show fD_read_7 FUEL 37 0 w1 = _ from e2, fD_read_7, q2.I 22 rfl, Option.bind_some, h22', if_pos ((q_of_le (by omega) (by omega)).mpr (Nat.le_refl _)), Option.bind_some]
  obtain ⟨w3, e3, q3, F3⟩ := q2.put 24 (Int32.ofNat L.length) (by omega) rfl
  rw [e3, Option.bind_some, q3.obj, Option.bind_some]
  obtain ⟨w4, g4, e4, q4, B4, F4⟩ := q3.begin 125 (Or.inr rfl)
  rw [show fD_begin 37 125 w3 = _ from e4, q_call, q_kV, q4.R 4 39 rfl, Option.bind_some, q_nar0]
  obtain ⟨w5, e5, q5, F5⟩ := q4.stn 39 2 125 0 rfl (by omega) (by omega) (by decide) (by decide)
  rw [show p_ast w4 39 2 125 0 = _ from e5, Option.bind_some, q5.R 5 40 rfl, Option.bind_some]
  obtain ⟨w6, e6, q6, F6⟩ := q5.stn 40 2 125 0 rfl (by omega) (by omega) (by decide) (by decide)
  rw [show p_ast w5 40 2 125 0 = _ from e6, Option.bind_some]
  obtain ⟨w7, e7, q7, F7⟩ := q6.put 26 (-1) (by omega) rfl
  rw [e7, Option.bind_some]
  obtain ⟨w8, e8, q8, F8⟩ := q7.put 27 0 (by omega) rfl
  rw [e8, Option.bind_some]
  obtain ⟨w9, e9, q9, F9⟩ := q8.put 30 0 (by omega) rfl
  rw [e9, Option.bind_some]
  obtain ⟨wa, ea, qa, Fa⟩ := q9.put 41 (-1) (by omega) rfl
  rw [ea, Option.bind_some]
  obtain ⟨wb, eb, qb, Fb⟩ := qa.put 39 0 (by omega) rfl
  rw [eb, Option.bind_some, qb.I 24 rfl, Option.bind_some]
  obtain ⟨wc, ec, qc, Fc⟩ := qb.put 40 (Int32.ofNat L.length) (by omega) rfl
  rw [show p_put wb 37 10 40 (.int (upd (upd (upd (upd (upd (upd (upd z 0 0) 24 (Int32.ofNat L.length)) 26 (-1)) 27 0) 30 0) 41 (-1)) 39 0 24)) = _ from ec, Option.bind_some]
  -- the state as the finding of the stream begins
  have Fz : qI 37 66 w wc := (((((((((((F1.tr F2).tr F3).tr F4).tr F5).tr F6).tr F7).tr F8).tr F9).tr Fa).tr Fb).tr Fc)
  generalize hg6 : ug (ug g4 39 125 0) 40 125 0 = g6 at *
  generalize hzc : upd (upd (upd (upd (upd (upd (upd (upd z 0 0) 24 (Int32.ofNat L.length)) 26 (-1)) 27 0) 30 0) 41 (-1)) 39 0) 40 (Int32.ofNat L.length) = zc at *
  have z24 : zc 24 = Int32.ofNat L.length := by rw [← hzc]; rfl
  have z26 : zc 26 = -1 := by rw [← hzc]; rfl
  have z27 : zc 27 = 0 := by rw [← hzc]; rfl
  have z30 : zc 30 = 0 := by rw [← hzc]; rfl
  have z39 : zc 39 = 0 := by rw [← hzc]; rfl
  have z40 : zc 40 = Int32.ofNat L.length := by rw [← hzc]; rfl
  have z41 : zc 41 = -1 := by rw [← hzc]; rfl
  have z0' : zc 0 = 0 := by rw [← hzc]; rfl
  have zo : ∀ j, j ≠ 0 → j ≠ 24 → j ≠ 25 → j ≠ 26 → j ≠ 27 → j ≠ 30 → j ≠ 39 → j ≠ 40 → j ≠ 41 → j ≠ 43 → zc j = z j := by
    intro j a b _ c d e f i k _
    rw [← hzc]
    unfold upd
    rw [if_neg i, if_neg f, if_neg k, if_neg e, if_neg d, if_neg c, if_neg b, if_neg a]
  have S6 : gS g4 g6 := by rw [← hg6]; exact (gS.u39 g4 39 125 0 (Or.inl rfl) (by omega) (Or.inl rfl)).tr (gS.u39 _ 40 125 0 (Or.inr rfl) (by omega) (Or.inl rfl))
  have G6 : gR g g6 := by
    have a1 : gR g g2 := ⟨fun k a b => k2 k (by omega), fun i _ => by rw [k2 38 (by decide)], fun i _ => ⟨by rw [k2 39 (by decide)], by rw [k2 40 (by decide)]⟩, fun i _ => by rw [k2 41 (by decide)], fun i _ => by rw [k2 42 (by decide)], fun y j => by rw [k2 39 (by decide), k2 40 (by decide)]; exact y j⟩
    exact (a1.tr (gR.b B4)).tr S6.f.r
  have hy6 : qY g6 54 L := fun i hi => by rw [S6.1 54 (by decide) (by decide) (by decide), B4.1 54 (by decide) (by decide) (by decide) (by decide) (by decide)]; exact hy2 i hi
  have t39 : g6 39 125 = 0 := by rw [← hg6, ug_ne _ _ _ (by decide), ug_self]; exact if_pos rfl
  have t40 : g6 40 125 = 0 := by rw [← hg6, ug_self]; exact if_pos rfl
  have hd : qHd zc g6 L := ⟨hy6, z24, hl, hL⟩
  have hz0 : qZ wc zc g6 wc (-1) [] 0 (Int32.ofNat L.length) (-1) := ⟨zc, g6, qc, qI.rf, fun _ _ _ _ _ _ => rfl, fun _ _ _ => rfl, z26, z27, z39, z40, z41, fun i hi => by cases hi⟩
  have m79 := qc.mark hy6 hL hl 0 L.length 79 (by omega) (Nat.zero_le _) (Nat.le_refl _)
  have ge : p_getI wc 37 10 24 = some (Int32.ofNat L.length) := by rw [qc.I 24 rfl, z24]
  rw [ge, Option.bind_some, qc.obj, Option.bind_some, show fD_isMark 37 0 (Int32.ofNat L.length) 79 wc = _ from m79, q_call, q_kI]
  obtain ⟨u1, u2, u3, u4⟩ := s_find_ok L
  -- the end, nothing read
  have nor : ∀ (wx : PW) (b : Nat), qZ wc zc g6 wx (s_find L).2.1 (s_find L).2.2.1 (oF 0 (s_find L).2.2.2) (oE (Int32.ofNat L.length) (s_find L).2.2.2) (oN (some b)) → s_read L = -1 - Int32.ofNat b → qRe w z g L (fD_read_130 37 0 37 wx) := by
    intro wx b hx hs
    obtain ⟨zx, gx, x1, x2, x3, x4, x5, x6, x7, x8, x9, x10⟩ := hx
    obtain ⟨wy, ey, qy, Fy⟩ := x1.put 25 0 (by omega) rfl
    have f25 : p_getI wy 37 10 25 = some 0 := qy.I 25 rfl
    have f41 : p_getI wy 37 10 41 = some (Int32.ofNat b) := by rw [qy.I 41 rfl]; show some (zx 41) = _; rw [x9]; rfl
    unfold fD_read_130
    rw [if_neg (not_not_intro (Or.inl rfl)), ey, Option.bind_some, f25, Option.bind_some, if_pos rfl, f41, Option.bind_some, ← hs]
    refine ⟨wy, _, gx, rfl, qy, (Fz.tr x2).tr Fy, fun j a1 a2 a3 a4 a5 a6 a7 a8 a9 a10 => ?_, ?_, ?_, ?_, ⟨?_, ?_⟩, Or.inl (if_pos rfl), 0, ?_, by omega, fun y => absurd y ?_⟩
    · unfold upd
      rw [if_neg a3, x3 j a4 a5 a7 a8 a9, zo j a1 a2 a3 a4 a5 a6 a7 a8 a9 a10]
    · show zx 0 = 0
      rw [x3 0 (by decide) (by decide) (by decide) (by decide) (by decide), z0']
    · refine G6.tr ⟨fun k a b => x4 k (by omega) (by omega), fun i _ => by rw [x4 38 (by decide) (by decide)], fun i _ => ⟨by rw [x4 39 (by decide) (by decide)], by rw [x4 40 (by decide) (by decide)]⟩, fun i _ => by rw [x4 41 (by decide) (by decide)], fun i _ => by rw [x4 42 (by decide) (by decide)], fun y j => by rw [x4 39 (by decide) (by decide), x4 40 (by decide) (by decide)]; exact y j⟩
    · intro i hi
      rw [x4 54 (by decide) (by decide)]
      exact hy6 i hi
    · exact x6
    · exact x10
    · show zx 30 = 0
      rw [x3 30 (by decide) (by decide) (by decide) (by decide) (by decide), z30]
    · show ¬ upd zx 25 0 25 = 1
      unfold upd
      rw [if_pos rfl]
      decide
  -- the stream
  have str : ∀ (wx : PW) (a e : Nat), qZ wc zc g6 wx (s_find L).2.1 (s_find L).2.2.1 (Int32.ofNat a) (Int32.ofNat e) (-1) → (s_find L).1 = none → (s_find L).2.2.2 = some (a, e) → a ≤ e → e ≤ L.length → qRe w z g L (fD_read_118 37 37 wx) := by
    intro wx a e hx hs1 hs2 hae heL
    obtain ⟨zx, gx, x1, x2, x3, x4, x5, x6, x7, x8, x9, x10⟩ := hx
    have hyx : qY gx 54 L := fun i hi => by rw [x4 54 (by decide) (by decide)]; exact hy6 i hi
    obtain ⟨wy, zy, gy, y1, y2, y3, y4, y5, y6, y7, y8⟩ := x1.stream hyx hL hl x9 (by rw [x3 30 (by decide) (by decide) (by decide) (by decide) (by decide), z30]) a e x7 x8 hae heL (by rw [x4 39 (by decide) (by decide), t39]) (by rw [x4 40 (by decide) (by decide), t40])
    have Gy : gR g gy := G6.tr (gR.tr ⟨fun k a b => x4 k (by omega) (by omega), fun i _ => by rw [x4 38 (by decide) (by decide)], fun i _ => ⟨by rw [x4 39 (by decide) (by decide)], by rw [x4 40 (by decide) (by decide)]⟩, fun i _ => by rw [x4 41 (by decide) (by decide)], fun i _ => by rw [x4 42 (by decide) (by decide)], fun y j => by rw [x4 39 (by decide) (by decide), x4 40 (by decide) (by decide)]; exact y j⟩ y3.r)
    have Zy : ∀ j, j ≠ 0 → j ≠ 24 → j ≠ 25 → j ≠ 26 → j ≠ 27 → j ≠ 30 → j ≠ 39 → j ≠ 40 → j ≠ 41 → j ≠ 43 → zy j = z j := fun j a1 a2 a3 a4 a5 a6 a7 a8 a9 a10 => by rw [y5 j a6 a7 a9 a10, x3 j a4 a5 a7 a8 a9, zo j a1 a2 a3 a4 a5 a6 a7 a8 a9 a10]
    have U1 : zy 27 = Int32.ofNat (s_find L).2.2.1.length := by rw [y5 27 (by decide) (by decide) (by decide) (by decide), x6]
    have U2 : ∀ i (hi : i < (s_find L).2.2.1.length), gy 55 i = Int32.ofNat ((s_find L).2.2.1[i]).1 ∧ gy 56 i = Int32.ofNat (((s_find L).2.2.1[i]).2 - ((s_find L).2.2.1[i]).1 - 8) := fun i hi => by rw [y3.1 55 (by omega) (by omega), y3.1 56 (by omega) (by omega)]; exact x10 i hi
    have z00 : zy 0 = 0 := by rw [y5 0 (by decide) (by decide) (by decide) (by decide), x3 0 (by decide) (by decide) (by decide) (by decide) (by decide), z0']
    unfold fD_read_118
    rw [x1.obj, Option.bind_some, y1, q_call, q_kI]
    cases hh : (s_head L a e).1 with
    | some b =>
      have er : s_read L = -1 - Int32.ofNat b := by
        unfold s_read
        rw [hs1]
        dsimp only
        rw [hs2]
        dsimp only
        rw [hh]
      obtain ⟨wv, ev, qv, Fv⟩ := y2.put 25 0 (by omega) rfl
      have f25 : p_getI wv 37 10 25 = some 0 := qv.I 25 rfl
      have f41 : p_getI wv 37 10 41 = some (Int32.ofNat b) := by rw [qv.I 41 rfl]; show some (zy 41) = _; rw [y6, hh]; rfl
      rw [show o1 (some b) = 0 from rfl, if_pos rfl]
      unfold fD_read_130
      rw [if_neg (not_not_intro (Or.inl rfl)), ev, Option.bind_some, f25, Option.bind_some, if_pos rfl, f41, Option.bind_some, ← er]
      refine ⟨wv, _, gy, rfl, qv, ((Fz.tr x2).tr y4).tr Fv, fun j a1 a2 a3 a4 a5 a6 a7 a8 a9 a10 => ?_, z00, Gy, y3.y hyx, ⟨U1, U2⟩, Or.inl (if_pos rfl), 0, ?_, by omega, fun y => absurd y ?_⟩
      · unfold upd
        rw [if_neg a3]
        exact Zy j a1 a2 a3 a4 a5 a6 a7 a8 a9 a10
      · show zy 30 = 0
        exact y8 (by rw [hh]; exact fun y => by cases y)
      · show ¬ upd zy 25 0 25 = 1
        unfold upd
        rw [if_pos rfl]
        decide
    | none =>
      obtain ⟨v1, v2, v3, v4⟩ := y7 hh
      have er : s_read L = Int32.ofNat (s_pts L e 300 (s_head L a e).2 0) := by
        unfold s_read
        rw [hs1]
        dsimp only
        rw [hs2]
        dsimp only
        rw [hh]
      obtain ⟨wv, ev, qv, Fv⟩ := y2.put 25 1 (by omega) rfl
      have f25 : p_getI wv 37 10 25 = some 1 := qv.I 25 rfl
      have f30 : p_getI wv 37 10 30 = some (s_read L) := by rw [qv.I 30 rfl]; show some (zy 30) = _; rw [v2, er]
      rw [show o1 none = 1 from rfl, if_neg (show ¬ (1 : Int32) = 0 by decide)]
      unfold fD_read_130
      rw [if_neg (not_not_intro (Or.inr rfl)), ev, Option.bind_some, f25, Option.bind_some, if_neg (show ¬ (1 : Int32) = 0 by decide), f30, Option.bind_some]
      refine ⟨wv, _, gy, rfl, qv, ((Fz.tr x2).tr y4).tr Fv, fun j a1 a2 a3 a4 a5 a6 a7 a8 a9 a10 => ?_, z00, Gy, y3.y hyx, ⟨U1, U2⟩, Or.inr (if_pos rfl), _, v2, v3, fun _ => ⟨v1, v4⟩⟩
      unfold upd
      rw [if_neg a3]
      exact Zy j a1 a2 a3 a4 a5 a6 a7 a8 a9 a10
  by_cases hr : 2 ≤ L.length ∧ nb L 0 = 255 ∧ nb L 1 = 79
  · rw [if_pos (show 0 + 2 ≤ L.length ∧ nb L 0 = 255 ∧ nb L (0 + 1) = 79 from ⟨by omega, hr.2.1, hr.2.2⟩), if_pos (show ¬ (1 : Int32) = 0 by decide)]
    have ef : s_find L = (none, -1, [], some (0, L.length)) := by unfold s_find; rw [if_pos hr]
    refine str wc 0 L.length ?_ (by rw [ef]) (by rw [ef]) (Nat.zero_le _) (Nat.le_refl _)
    rw [ef]
    exact hz0
  · rw [if_neg (show ¬ (0 + 2 ≤ L.length ∧ nb L 0 = 255 ∧ nb L (0 + 1) = 79) from fun y => hr ⟨by omega, y.2.1, y.2.2⟩), if_neg (show ¬ ¬ (0 : Int32) = 0 from not_not_intro rfl), qc.obj, Option.bind_some]
    obtain ⟨wx, ex, hx⟩ := hz0.boxes hd hr
    rw [ex, q_call, q_kI]
    cases hs : (s_find L).1 with
    | some b =>
      rw [show o1 (some b) = 0 from rfl, if_pos rfl]
      rw [hs] at hx
      refine nor wx b hx ?_
      unfold s_read
      rw [hs]
    | none =>
      obtain ⟨a, e, hs2, hae, heL⟩ := u3 hs
      rw [show o1 none = 1 from rfl, if_neg (show ¬ (1 : Int32) = 0 by decide)]
      rw [hs, hs2] at hx
      refine str wx a e ?_ hs hs2 hae heL
      exact hx
end
/-- an answer that leaves all but the code -/
def qAn (w : PW) (z : Nat → Int32) (g : Nat → Nat → Int32) (r : PX) : Prop := ∃ w' v c, r = some (.inl (some (.int v)), w') ∧ qM w' (upd z 0 c) g ∧ qI 37 66 w w'
theorem q_inN (x : Int32) (n : Nat) (hn : n ≤ 20000) (w : PW) : fD_in (Int32.toInt64 x) 0 (Int32.toInt64 (Int32.ofNat n) - 1) w = some (.inl (some (.int (if 0 ≤ x.toInt ∧ x.toInt < n then 1 else 0))), w) := by
  rw [q_in, q_64, q_sub1 (by rw [q_ofi (by omega)]; omega), q_ofi (by omega), q_e0]
  by_cases h : 0 ≤ x.toInt ∧ x.toInt < n
  · rw [if_pos h, if_pos (by omega)]
  · rw [if_neg h, if_neg (by omega)]
section
variable {w : PW} {z : Nat → Int32} {g : Nat → Nat → Int32} {L : List Int32} {U : List (Nat × Nat)} {tw th : Int32} {sz dp nm sy sp : Nat → Int32}
theorem qM.t12 (h : qM w z g) (k : qR tw th sz dp nm sy sp g) {n : Nat} (h30 : z 30 = Int32.ofNat n) (hn : n ≤ 300) (what : Int32) : ∀ (m i F : Nat) (a b : Int32), i + m = n → m < F → ∃ v, fD_told_12 F 37 what a b (Int32.ofNat i) w = some (.inl (some (.int v)), w) := by
  have e62 : ∀ a b : Int32, ∃ v, fD_told_62 37 what a b w = some (.inl (some (.int v)), w) := by
    intro a b
    unfold fD_told_62
    split
    · rw [h.obj, Option.bind_some, h.tiles k, q_call, q_kI]
      exact ⟨_, rfl⟩
    · split
      · rw [h.I 8 rfl, Option.bind_some]; exact ⟨_, rfl⟩
      · split
        · rw [h.I 14 rfl, Option.bind_some]; exact ⟨_, rfl⟩
        · split
          · rw [h.I 20 rfl, Option.bind_some]; exact ⟨_, rfl⟩
          · split
            · rw [h.I 22 rfl, Option.bind_some]; exact ⟨_, rfl⟩
            · split
              · rw [h.I 25 rfl, Option.bind_some]
                split
                · exact ⟨_, rfl⟩
                · rw [h.I 30 rfl, Option.bind_some]; exact ⟨_, rfl⟩
              · split
                · rw [h.I 27 rfl, Option.bind_some]; exact ⟨_, rfl⟩
                · split
                  · exact ⟨_, rfl⟩
                  · split
                    · exact ⟨_, rfl⟩
                    · exact ⟨_, rfl⟩
  intro m
  induction m with
  | zero =>
    intro i F a b hi hF
    obtain ⟨F, rfl⟩ : ∃ F', F = F' + 1 := ⟨F - 1, by omega⟩
    rw [fD_told_12, h.I 30 rfl, Option.bind_some, h30, if_pos ((q_of_le (by omega) (by omega)).mpr (by omega))]
    exact e62 a b
  | succ m ih =>
    intro i F a b hi hF
    obtain ⟨F, rfl⟩ : ∃ F', F = F' + 1 := ⟨F - 1, by omega⟩
    rw [fD_told_12, h.I 30 rfl, Option.bind_some, h30, if_neg (fun hh => by have := (q_of_le (by omega) (by omega)).mp hh; omega), h.I 25 rfl, Option.bind_some]
    by_cases c : z 25 = 0
    · rw [if_pos c]
      exact e62 a b
    · rw [if_neg c, h.R 36 62 rfl, Option.bind_some, h.ldn 62 2 i rfl (by omega) (by omega) (by show i < 300; omega) (by decide), Option.bind_some]
      have go : ∀ s : Int32, ∃ v, fD_told_44 (fD_told_12 F) 37 what b (Int32.ofNat i) s a w = some (.inl (some (.int v)), w) := by
        intro s
        unfold fD_told_44
        rw [q_let, h.R 35 61 rfl, Option.bind_some, h.ldn 61 0 i rfl (by omega) (by omega) (by show i < 300; omega) (by decide), Option.bind_some, q_let, q_let, show Int32.ofNat i + 1 = Int32.ofNat (i + 1) from (Int32.ofNat_add i 1).symm]
        exact ih (i + 1) F _ _ (by omega) (by omega)
      by_cases d : g 62 i = 0
      · rw [if_pos d]; exact go 0
      · rw [if_neg d]; exact go 1
theorem qM.told (h : qM w z g) (k : qR tw th sz dp nm sy sp g) (hr : gRd z g L U) (what : Int32) : qAn w z g (fD_told 37 what w) := by
  obtain ⟨-, -, -, n, h30, hn, -⟩ := hr
  obtain ⟨w1, e1, q1, F1⟩ := h.put 0 0 (by omega) rfl
  unfold fD_told
  rw [e1, Option.bind_some]
  obtain ⟨v, ev⟩ := q1.t12 k (n := n) (show upd z 0 0 30 = _ from h30) hn what n 0 FUEL 0 0 (by omega) (by show _ < 1000000; omega)
  rw [show fD_told_12 FUEL 37 what 0 0 0 w1 = _ from ev]
  exact ⟨w1, v, 0, rfl, q1, F1⟩
theorem qM.part33 (h : qM w z g) (i what s : Int32) (hs : s = 0 ∧ 0 ≤ i.toInt ∧ i.toInt < 300 ∨ 0 < s.toInt) : qAn w z g (fD_part_33 37 i what s 37 w) := by
  obtain ⟨w1, e1, q1, F1⟩ := h.put 0 s (by omega) rfl
  have e0 : (0 : Int32).toInt = 0 := rfl
  unfold fD_part_33
  have gI : p_getI w1 37 10 0 = some s := by rw [q1.I 0 rfl]; rfl
  rw [e1, Option.bind_some, gI, Option.bind_some]
  have fin : ∀ v : Int32, qAn w z g (some (.inl (some (.int v)), w1)) := fun v => ⟨w1, v, s, rfl, q1, F1⟩
  rcases hs with ⟨hs, i0, i1⟩ | hs
  · have ei := q_on i i0
    rw [if_pos (by rw [hs, q_lei]; omega)]
    have l : ∀ r t, mT r = t → 57 ≤ r → r ≤ 63 → ∃ v, p_ald w1 r t i = some v := fun r t ht r1 r2 => by
      have hml : mL r = 300 := by
        have : r = 57 ∨ r = 58 ∨ r = 59 ∨ r = 60 ∨ r = 61 ∨ r = 62 ∨ r = 63 := by omega
        rcases this with e | e | e | e | e | e | e <;> subst e <;> rfl
      have := q1.ldn r t i.toInt.toNat ht (by omega) (by omega) (by rw [hml]; omega) (by rw [hml]; omega)
      rw [← ei] at this
      exact ⟨_, this⟩
    split
    · obtain ⟨v, ev⟩ := l 57 0 rfl (by omega) (by omega)
      rw [q1.R 31 57 rfl, Option.bind_some, ev, Option.bind_some]; exact fin _
    · split
      · obtain ⟨v, ev⟩ := l 58 0 rfl (by omega) (by omega)
        rw [q1.R 32 58 rfl, Option.bind_some, ev, Option.bind_some]; exact fin _
      · split
        · obtain ⟨v, ev⟩ := l 60 0 rfl (by omega) (by omega)
          rw [q1.R 34 60 rfl, Option.bind_some, ev, Option.bind_some]; exact fin _
        · split
          · obtain ⟨v, ev⟩ := l 61 0 rfl (by omega) (by omega)
            rw [q1.R 35 61 rfl, Option.bind_some, ev, Option.bind_some]; exact fin _
          · split
            · obtain ⟨v, ev⟩ := l 62 2 rfl (by omega) (by omega)
              rw [q1.R 36 62 rfl, Option.bind_some, ev, Option.bind_some]
              split <;> exact fin _
            · split
              · obtain ⟨v, ev⟩ := l 63 2 rfl (by omega) (by omega)
                rw [q1.R 37 63 rfl, Option.bind_some, ev, Option.bind_some]
                split <;> exact fin _
              · exact fin _
  · rw [if_neg (by rw [q_lei]; omega)]
    exact fin _
theorem qM.part (h : qM w z g) (hr : gRd z g L U) (i what : Int32) : qAn w z g (fD_part 37 i what w) := by
  obtain ⟨-, -, -, n, h30, hn, -⟩ := hr
  unfold fD_part
  rw [h.I 25 rfl, Option.bind_some]
  by_cases c : z 25 = 0
  · rw [if_neg (not_not_intro c)]
    exact h.part33 i what 1 (Or.inr (by decide))
  · rw [if_pos c, h.I 30 rfl, Option.bind_some, h30, q_inN i n (by omega), q_call, q_kI]
    by_cases d : 0 ≤ i.toInt ∧ i.toInt < n
    · rw [if_pos d, if_pos (show ¬ (1 : Int32) = 0 by decide)]
      exact h.part33 i what 0 (Or.inl ⟨rfl, d.1, by omega⟩)
    · rw [if_neg d, if_neg (show ¬ ¬ (0 : Int32) = 0 from not_not_intro rfl)]
      exact h.part33 i what 2 (Or.inr (by decide))
theorem qM.pb51 (h : qM w z g) (i b s : Int32) (hs : 0 < s.toInt) : qAn w z g (fD_partByte_51 37 i b s 37 w) := by
  obtain ⟨w1, e1, q1, F1⟩ := h.put 0 s (by omega) rfl
  have e0 : (0 : Int32).toInt = 0 := rfl
  have gI : p_getI w1 37 10 0 = some s := by rw [q1.I 0 rfl]; rfl
  unfold fD_partByte_51
  rw [e1, Option.bind_some, gI, Option.bind_some, if_neg (by rw [q_lei]; omega)]
  exact ⟨w1, 0, s, rfl, q1, F1⟩
theorem qM.partByte (h : qM w z g) (hr : gRd z g L U) (i b : Int32) : qAn w z g (fD_partByte 37 i b w) := by
  obtain ⟨-, -, h25, n, h30, hn, hk⟩ := hr
  unfold fD_partByte
  rw [h.I 25 rfl, Option.bind_some]
  by_cases c : z 25 = 0
  · rw [if_neg (not_not_intro c)]
    exact h.pb51 i b 1 (by decide)
  · rw [if_pos c, h.I 30 rfl, Option.bind_some, h30, q_inN i n (by omega), q_call, q_kI]
    by_cases d : 0 ≤ i.toInt ∧ i.toInt < n
    · have ei := q_on i d.1
      obtain ⟨bb, k1, k2, k3⟩ := (hk (h25.resolve_left c)).2 i.toInt.toNat (by omega)
      have l60 : p_ald w 60 0 i = some (Int32.ofNat bb) := by
        rw [← k1]
        conv => lhs; rw [ei]
        exact h.ldn 60 0 i.toInt.toNat rfl (by omega) (by omega) (by show _ < 300; omega) (by decide)
      rw [if_pos d, if_neg (show ¬ (1 : Int32) = 0 by decide), h.R 34 60 rfl, Option.bind_some, l60, Option.bind_some, q_inN b bb k2, q_call, q_kI]
      by_cases f : 0 ≤ b.toInt ∧ b.toInt < bb
      · rw [if_pos f, if_pos (show ¬ (1 : Int32) = 0 by decide)]
        obtain ⟨a, a1, a2⟩ := k3.resolve_left (by omega)
        have eb := q_on b f.1
        obtain ⟨w1, e1, q1, F1⟩ := h.put 0 0 (by omega) rfl
        have gI : p_getI w1 37 10 0 = some 0 := by rw [q1.I 0 rfl]; rfl
        have l59 : p_ald w1 59 0 i = some (Int32.ofNat a) := by
          rw [← a1]
          conv => lhs; rw [ei]
          exact q1.ldn 59 0 i.toInt.toNat rfl (by omega) (by omega) (by show _ < 300; omega) (by decide)
        have es : Int32.ofNat a + b = Int32.ofNat (a + b.toInt.toNat) := by
          conv => lhs; rw [eb]
          exact (Int32.ofNat_add _ _).symm
        unfold fD_partByte_51
        rw [e1, Option.bind_some, gI, Option.bind_some, if_pos (by decide), q1.R 23 54 rfl, Option.bind_some, q1.R 33 59 rfl, Option.bind_some, l59, Option.bind_some, es, q1.ldn 54 0 (a + b.toInt.toNat) rfl (by omega) (by omega) (by show _ < 20000; omega) (by decide), Option.bind_some]
        exact ⟨w1, _, 0, rfl, q1, F1⟩
      · rw [if_neg f, if_neg (show ¬ ¬ (0 : Int32) = 0 from not_not_intro rfl)]
        exact h.pb51 i b 2 (by decide)
    · rw [if_neg d, if_pos rfl]
      exact h.pb51 i b 2 (by decide)
end
/-- where at may read -/
def aOk (what t c : Int32) : Prop := (0 ≤ what.toInt ∧ what.toInt ≤ 2) ∨ (what = 3 ∧ 0 ≤ c.toInt ∧ c.toInt < 4) ∨ what = 11 ∨ (4 ≤ what.toInt ∧ what.toInt ≤ 5 ∧ 0 ≤ t.toInt ∧ t.toInt < 24) ∨ (6 ≤ what.toInt ∧ what.toInt ≤ 10 ∧ 0 ≤ t.toInt ∧ t.toInt < 24 ∧ 0 ≤ c.toInt ∧ c.toInt < 4)
section
variable {w : PW} {z : Nat → Int32} {g : Nat → Nat → Int32} {L : List Int32} {U : List (Nat × Nat)}
theorem qM.has2 (h : qM w z g) (hg : g01 g) (P : Nat) (hP : P < 250) (what : Int32) (hw : what.toInt ≤ 10) : ∃ v, fD_has 37 (Int32.ofNat P) what w = some (.inl (some (.int v)), w) := by
  unfold fD_has
  rw [q_isStep hw, q_call, q_kI]
  by_cases h9 : 9 ≤ what.toInt
  · rw [if_pos h9, if_neg (show ¬ (1 : Int32) = 0 by decide), h.R 5 40 rfl, Option.bind_some, h.ldn 40 2 P rfl (by omega) (by omega) (by show _ < 250; omega) (by decide), Option.bind_some, q_retZ01 (hg P).2]
    exact ⟨_, rfl⟩
  · rw [if_neg h9, if_pos rfl, h.R 4 39 rfl, Option.bind_some, h.ldn 39 2 P rfl (by omega) (by omega) (by show _ < 250; omega) (by decide), Option.bind_some, q_retZ01 (hg P).1]
    exact ⟨_, rfl⟩
theorem qM.f52 (h : qM w z g) (hg : g01 g) (what c : Int32) (hw : what.toInt ≤ 10) (hc : c = -1 ∨ (0 ≤ c.toInt ∧ c.toInt < 4)) : ∃ P : Nat, 125 ≤ P ∧ P < 250 ∧ fD_force_52 37 125 what c w = some (.inl (some (.int (Int32.ofNat P))), w) := by
  unfold fD_force_52
  rcases hc with e | ⟨c0, c1⟩
  · subst e
    rw [if_pos (by decide)]
    exact ⟨125, by omega, by omega, rfl⟩
  · have ec := q_on c c0
    rw [if_neg (by rw [q_lti]; show ¬ c.toInt < 0; omega), q_placeOf, q_call, q_kI, h.obj, Option.bind_some]
    have ep : (125 : Int32) + q_pl (-1) c = Int32.ofNat (125 + 5 * 0 + c.toInt.toNat + 1) := by
      conv => lhs; rw [ec]
      exact q_plN (by decide) _
    rw [ep]
    obtain ⟨v, ev⟩ := h.has2 hg (125 + 5 * 0 + c.toInt.toNat + 1) (by omega) what hw
    rw [ev, q_call, q_kI]
    by_cases hv : v = 0
    · rw [if_pos hv]
      exact ⟨125, by omega, by omega, rfl⟩
    · rw [if_neg hv, q_placeOf, q_call, q_kI, ep]
      exact ⟨_, by omega, by omega, rfl⟩
theorem qM.force2 (h : qM w z g) (hg : g01 g) (what t c : Int32) (hw : what.toInt ≤ 10) (t0 : 0 ≤ t.toInt) (t1 : t.toInt < 24) (hc : c = -1 ∨ (0 ≤ c.toInt ∧ c.toInt < 4)) : ∃ P : Nat, 125 ≤ P ∧ P < 250 ∧ fD_force 37 125 what t c w = some (.inl (some (.int (Int32.ofNat P))), w) := by
  have et := q_on t t0
  have e1 : t + 1 = Int32.ofNat (t.toInt.toNat + 1) := by
    conv => lhs; rw [et]
    exact (Int32.ofNat_add _ 1).symm
  have em : (125 : Int32) + q_pl t (-1) = Int32.ofNat (125 + 5 * (t.toInt.toNat + 1)) := q_plN1 e1
  have ep : ∃ P : Nat, 125 ≤ P ∧ P < 250 ∧ (125 : Int32) + q_pl t c = Int32.ofNat P := by
    rcases hc with e | ⟨c0, c1⟩
    · subst e
      exact ⟨_, by omega, by omega, em⟩
    · refine ⟨125 + 5 * (t.toInt.toNat + 1) + c.toInt.toNat + 1, by omega, by omega, ?_⟩
      conv => lhs; rw [q_on c c0]
      exact q_plN e1 _
  obtain ⟨P, p1, p2, ep⟩ := ep
  obtain ⟨v, ev⟩ := h.has2 hg P p2 what hw
  have f52 := h.f52 hg what c hw hc
  unfold fD_force
  rw [q_placeOf, q_call, q_kI, h.obj, Option.bind_some, ep, ev, q_call, q_kI]
  by_cases hv : v = 0
  · rw [if_pos hv, if_neg (by rw [q_lti]; show ¬ t.toInt < 0; omega), q_placeOf, q_call, q_kI, h.obj, Option.bind_some, em]
    obtain ⟨v2, ev2⟩ := h.has2 hg (125 + 5 * (t.toInt.toNat + 1)) (by omega) what hw
    rw [ev2, q_call, q_kI]
    by_cases hv2 : v2 = 0
    · rw [if_pos hv2]
      exact f52
    · rw [if_neg hv2, q_placeOf, q_call, q_kI, em]
      exact ⟨_, by omega, by omega, rfl⟩
  · rw [if_neg hv, q_placeOf, q_call, q_kI, ep]
    exact ⟨P, p1, p2, rfl⟩
theorem qM.a219 (h : qM w z g) (hg : g01 g) {w0 : PW} {z0 : Nat → Int32} (what t c : Int32) (h4 : 4 ≤ what.toInt) (hw : what.toInt ≤ 10) (t0 : 0 ≤ t.toInt) (t1 : t.toInt < 24) (hc : c = -1 ∨ (0 ≤ c.toInt ∧ c.toInt < 4)) : ∃ v, fD_at_219 what c t what 125 37 37 w = some (.inl (some (.int v)), w) := by
  obtain ⟨P, p1, p2, ep⟩ := h.force2 hg what t c hw t0 t1 hc
  have e10 : (10 : Int32).toInt = 10 := rfl
  have e0 : (0 : Int32).toInt = 0 := rfl
  unfold fD_at_219
  rw [h.obj, Option.bind_some, ep, q_call, q_kI, h.obj, Option.bind_some, h.mget (Int32.ofNat P) what (by rw [q_lei, q_ofi (by omega)]; omega) (by rw [q_lti, q_ofi (by omega)]; show (P : Int) < 250; omega) (by rw [q_lei]; omega) (by rw [q_lei]; omega), q_call, q_kI]
  exact ⟨_, rfl⟩
theorem qM.a145 (h : qM w z g) (hg : g01 g) (what t c s : Int32) (hs : (s = 0 ∧ aOk what t c) ∨ 0 < s.toInt) : qAn w z g (fD_at_145 37 what t c s 37 w) := by
  obtain ⟨w1, e1, q1, F1⟩ := h.put 0 s (by omega) rfl
  have e0 : (0 : Int32).toInt = 0 := rfl
  have e3 : (3 : Int32).toInt = 3 := rfl
  have e5 : (5 : Int32).toInt = 5 := rfl
  have e11 : (11 : Int32).toInt = 11 := rfl
  have gI : p_getI w1 37 10 0 = some s := by rw [q1.I 0 rfl]; rfl
  have fin : ∀ v : Int32, qAn w z g (some (.inl (some (.int v)), w1)) := fun v => ⟨w1, v, s, rfl, q1, F1⟩
  unfold fD_at_145
  rw [e1, Option.bind_some, gI, Option.bind_some]
  rcases hs with ⟨hs, ok⟩ | hs
  · rw [if_pos (by rw [hs, q_lei]; omega)]
    rcases ok with ⟨a0, a1⟩ | ⟨a0, a1, a2⟩ | a0 | ⟨a0, a1, a2, a3⟩ | ⟨a0, a1, a2, a3, a4, a5⟩
    · rw [if_neg (by rw [q_lei]; omega), q1.R 7 42 rfl, Option.bind_some]
      have es : (5 : Int32) + what = Int32.ofNat (5 + what.toInt.toNat) := by
        conv => lhs; rw [q_on what a0]
        exact (Int32.ofNat_add 5 _).symm
      rw [es, q1.ldn 42 0 (5 + what.toInt.toNat) rfl (by omega) (by omega) (by show _ < 10; omega) (by decide), Option.bind_some]
      exact fin _
    · subst a0
      have es : (4 : Int32) + c = Int32.ofNat (4 + c.toInt.toNat) := by
        conv => lhs; rw [q_on c a1]
        exact (Int32.ofNat_add 4 _).symm
      rw [if_pos (by decide), if_pos rfl]
      unfold fD_at_182
      rw [if_neg (not_not_intro rfl), q1.R 6 41 rfl, Option.bind_some, es, q1.ldn 41 0 (4 + c.toInt.toNat) rfl (by omega) (by omega) (by show _ < 8; omega) (by decide), Option.bind_some]
      exact fin _
    · subst a0
      rw [if_pos (by decide), if_neg (by decide), if_neg (not_not_intro rfl)]
      unfold fD_at_182
      rw [if_pos (by decide), q1.I 26 rfl, Option.bind_some]
      exact fin _
    · rw [if_pos (by rw [q_lei]; omega), if_neg (fun y => by rw [y] at a0; omega), if_pos (fun y => by rw [y] at a1; omega), if_pos (by rw [q_lei]; omega)]
      obtain ⟨v, ev⟩ := q1.a219 hg (w0 := w) (z0 := z) what t (-1) a0 (by omega) a2 a3 (Or.inl rfl)
      rw [ev]
      exact fin _
    · rw [if_pos (by rw [q_lei]; omega), if_neg (fun y => by rw [y] at a0; omega), if_pos (fun y => by rw [y] at a1; omega), if_neg (by rw [q_lei]; omega)]
      obtain ⟨v, ev⟩ := q1.a219 hg (w0 := w) (z0 := z) what t c (by omega) a1 a2 a3 (Or.inr ⟨a4, a5⟩)
      rw [ev]
      exact fin _
  · rw [if_neg (by rw [q_lei]; omega)]
    exact fin _
theorem qM.a121 (h : qM w z g) (hg : g01 g) (what t c : Int32) (b : Bool) (hb : z 25 ≠ 0 → b = true → aOk what t c) : qAn w z g (fD_at_121 37 what t c (if b = true then 1 else 0) w) := by
  unfold fD_at_121
  rw [h.I 25 rfl, Option.bind_some]
  by_cases c0 : z 25 = 0
  · rw [if_neg (not_not_intro c0)]
    exact h.a145 hg what t c 1 (Or.inr (by decide))
  · rw [if_pos c0]
    cases b
    · rw [if_neg (show ¬ ¬ (if false = true then (1 : Int32) else 0) = 0 from not_not_intro rfl)]
      exact h.a145 hg what t c 2 (Or.inr (by decide))
    · rw [if_pos (show ¬ (if true = true then (1 : Int32) else 0) = 0 by decide)]
      exact h.a145 hg what t c 0 (Or.inl ⟨rfl, hb c0 rfl⟩)
theorem qM.a49 (h : qM w z g) (hg : g01 g) (hT : z 25 = 1 → gTl g) (h25 : z 25 = 0 ∨ z 25 = 1) (what t c : Int32) (ot oc : Bool) (H : 0 ≤ what.toInt → what.toInt ≤ 11 → (ot = true → 0 ≤ t.toInt ∧ t.toInt < 24) → (oc = true → 0 ≤ c.toInt ∧ c.toInt < 4) → aOk what t c) : qAn w z g (fD_at_49 37 what t c (if ot = true then 1 else 0) (if oc = true then 1 else 0) w) := by
  unfold fD_at_49
  rw [h.I 25 rfl, Option.bind_some]
  have no := h.a121 hg what t c false (fun _ y => by cases y)
  by_cases c0 : z 25 = 0
  · rw [if_pos c0]
    exact no
  · have gT := hT (h25.resolve_left c0)
    have i0 : (0 : Int64).toInt = 0 := rfl
    have i11 : (11 : Int64).toInt = 11 := rfl
    rw [if_neg c0, q_in, q_call, q_kI, q_64, i0, i11]
    by_cases c1 : 0 ≤ what.toInt ∧ what.toInt ≤ 11
    · rw [if_pos c1, if_neg (show ¬ (1 : Int32) = 0 by decide)]
      have a92 : (ot = true → 0 ≤ t.toInt ∧ t.toInt < 24) → qAn w z g (fD_at_92 37 what t c (if oc = true then 1 else 0) w) := by
        intro ht
        unfold fD_at_92
        cases oc
        · rw [if_pos (show (if false = true then (1 : Int32) else 0) = 0 from rfl)]
          exact h.a121 hg what t c true (fun _ _ => H c1.1 c1.2 ht (fun y => by cases y))
        · have l7 : p_ald w 42 0 7 = some (g 42 7) := h.ldn 42 0 7 rfl (by omega) (by omega) (by decide) (by decide)
          have gm := gT.2.2.1
          have e7 := q_on (g 42 7) (by omega)
          have inn := q_inN c (g 42 7).toInt.toNat (by omega) w
          rw [← e7] at inn
          rw [if_neg (show ¬ (if true = true then (1 : Int32) else 0) = 0 by decide), h.R 7 42 rfl, Option.bind_some, l7, Option.bind_some, inn, q_call, q_kI]
          by_cases c2 : 0 ≤ c.toInt ∧ c.toInt < (g 42 7).toInt.toNat
          · rw [if_pos c2, if_neg (show ¬ (1 : Int32) = 0 by decide)]
            exact h.a121 hg what t c true (fun _ _ => H c1.1 c1.2 ht (fun _ => ⟨c2.1, by omega⟩))
          · rw [if_neg c2, if_pos rfl]
            exact no
      cases ot
      · rw [if_pos (show (if false = true then (1 : Int32) else 0) = 0 from rfl)]
        exact a92 (fun y => by cases y)
      · obtain ⟨v, ev, v1, v2⟩ := h.tiles5 gT
        have e7 := q_on v (by omega)
        have inn := q_inN t v.toInt.toNat (by omega) w
        rw [← e7] at inn
        rw [if_neg (show ¬ (if true = true then (1 : Int32) else 0) = 0 by decide), h.obj, Option.bind_some, ev, q_call, q_kI, inn, q_call, q_kI]
        by_cases c2 : 0 ≤ t.toInt ∧ t.toInt < v.toInt.toNat
        · rw [if_pos c2, if_neg (show ¬ (1 : Int32) = 0 by decide)]
          exact a92 (fun _ => ⟨c2.1, by omega⟩)
        · rw [if_neg c2, if_pos rfl]
          exact no
    · rw [if_neg c1, if_pos rfl]
      exact no
theorem qM.at (h : qM w z g) (hg : g01 g) (hr : gRd z g L U) (what t c : Int32) : qAn w z g (fD_at 37 what t c w) := by
  obtain ⟨-, -, h25, n, h30, hn, hk⟩ := hr
  have hT : z 25 = 1 → gTl g := fun y => (hk y).1
  have e3 : (3 : Int32).toInt = 3 := rfl
  have e4 : (4 : Int32).toInt = 4 := rfl
  have e5 : (5 : Int32).toInt = 5 := rfl
  have e11 : (11 : Int32).toInt = 11 := rfl
  have a26 : ∀ ot : Bool, (ot = true ↔ (4 ≤ what.toInt ∧ what.toInt ≤ 10)) → qAn w z g (fD_at_26 37 what t c (if ot = true then 1 else 0) w) := by
    intro ot hot
    unfold fD_at_26
    by_cases c1 : what = 3
    · rw [if_pos c1]
      exact h.a49 hg hT h25 what t c ot true (fun _ _ _ y => Or.inr (Or.inl ⟨c1, (y rfl).1, (y rfl).2⟩))
    · have n3 : what.toInt ≠ 3 := fun y => c1 (q_i32 y)
      rw [if_neg c1]
      by_cases c2 : what ≤ 5
      · rw [if_pos c2]
        rw [q_lei] at c2
        refine h.a49 hg hT h25 what t c ot false (fun y1 y2 y3 _ => ?_)
        by_cases c3 : what.toInt ≤ 2
        · exact Or.inl ⟨y1, c3⟩
        · have := y3 (hot.mpr ⟨by omega, by omega⟩)
          exact Or.inr (Or.inr (Or.inr (Or.inl ⟨by omega, by omega, this.1, this.2⟩)))
      · rw [if_neg c2]
        rw [q_lei] at c2
        by_cases c3 : (11 : Int32) ≤ what
        · rw [if_pos c3]
          rw [q_lei] at c3
          exact h.a49 hg hT h25 what t c ot false (fun y1 y2 _ _ => Or.inr (Or.inr (Or.inl (q_i32 (by omega)))))
        · rw [if_neg c3]
          rw [q_lei] at c3
          refine h.a49 hg hT h25 what t c ot true (fun y1 y2 y3 y4 => ?_)
          have a := y3 (hot.mpr ⟨by omega, by omega⟩)
          have b := y4 rfl
          exact Or.inr (Or.inr (Or.inr (Or.inr ⟨by omega, by omega, a.1, a.2, b.1, b.2⟩)))
  have a11 : ¬ (5 < what.toInt ∧ what.toInt < 11) → qAn w z g (fD_at_11 37 what t c w) := by
    intro hn
    unfold fD_at_11
    by_cases c1 : what = 4
    · rw [if_pos c1]
      exact a26 true ⟨fun _ => by rw [c1]; decide, fun _ => rfl⟩
    · rw [if_neg c1]
      have n4 : what.toInt ≠ 4 := fun y => c1 (q_i32 y)
      by_cases c2 : what = 5
      · rw [if_neg (not_not_intro c2)]
        exact a26 true ⟨fun _ => by rw [c2]; decide, fun _ => rfl⟩
      · rw [if_pos c2]
        have n5 : what.toInt ≠ 5 := fun y => c2 (q_i32 y)
        exact a26 false ⟨(fun y => by cases y), (fun y => by omega)⟩
  unfold fD_at
  by_cases c1 : what ≤ 5
  · rw [if_pos c1]
    rw [q_lei] at c1
    exact a11 (by omega)
  · rw [if_neg c1]
    rw [q_lei] at c1
    by_cases c2 : what < 11
    · rw [if_pos c2]
      rw [q_lti] at c2
      exact a26 true ⟨fun _ => ⟨by omega, by omega⟩, fun _ => rfl⟩
    · rw [if_neg c2]
      rw [q_lti] at c2
      exact a11 (by omega)
end
/-- whose cell it is: what a call leaves alone, by fixed cells and by owners -/
def qDf (fx tg : Nat → Prop) (T T' : Nat → Nat) (w w' : PW) : Prop := w.1.length ≤ w'.1.length ∧ (∀ x, x < w.1.length → (x < 67 → ¬ fx x) → (67 ≤ x → ¬ tg (T x)) → w'.1[x]? = w.1[x]?) ∧ ∀ x, x < w.1.length → T' x = T x
/-- bytes at a fixed cell -/
def jB (w : PW) (T : Nat → Nat) (a : Nat) (L : List Int32) (n : Nat) : Prop := ∃ r f, qB w a r 20000 n L f ∧ (r = a + 1 ∨ 67 ≤ r) ∧ (67 ≤ r → T r = a)
/-- one part -/
def jP1 (w : PW) (T : Nat → Nat) (k x : Nat) (t b : Int32) (pk : Nat) (lv : Nat → Nat) (L : List Int32) : Prop := ∃ l a r nn ln f, qP w x t b l a r nn pk ln L f ∧ (∀ i, ln i = Int32.ofNat (lv i) ∧ lv i ≤ L.length ∧ (pk ≤ i → lv i = 0)) ∧ (67 ≤ x ∧ T x = 1000 + 10 * k) ∧ (67 ≤ l ∧ T l = 1001 + 10 * k) ∧ (67 ≤ a ∧ T a = 1002 + 10 * k) ∧ (67 ≤ r ∧ T r = 1003 + 10 * k)
def jP (w : PW) (T : Nat → Nat) (n : Nat) (pt : Nat → Int32) (pk : Nat → Nat) (lv : Nat → Nat → Nat) (pL : Nat → List Int32) : Prop := ∃ e P, qL w 7 e P ∧ P.length = n ∧ (∀ y : Nat, .ref y = e → 67 ≤ y ∧ T y = 7) ∧ ∀ k x, P[k]? = some x → jP1 w T k x (pt k) (Int32.ofNat (q_cnt pt (pt k) k 0)) (pk k) (lv k) (pL k)
/-- one box -/
def jX1 (w : PW) (T : Nat → Nat) (k x : Nat) (i c : Int32) (L : List Int32) : Prop := ∃ (a r nn : Nat) (f : Nat → Int32), w.1[x]? = some (.inr (4, [.int i, .int c, .ref a])) ∧ qB w a r 40 nn L f ∧ (i = 0 ∨ i = 1) ∧ (67 ≤ x ∧ T x = 2000 + 10 * k) ∧ (67 ≤ a ∧ T a = 2001 + 10 * k) ∧ (67 ≤ r ∧ T r = 2002 + 10 * k)
def jX (w : PW) (T : Nat → Nat) (n : Nat) (bi bk : Nat → Int32) (bL : Nat → List Int32) : Prop := ∃ e P, qL w 8 e P ∧ P.length = n ∧ n ≤ 8 ∧ (∀ y : Nat, .ref y = e → 67 ≤ y ∧ T y = 8) ∧ ∀ k x, P[k]? = some x → jX1 w T k x (bi k) (bk k) (bL k)
/-- what was read -/
def jR (w : PW) (T : Nat → Nat) (U : List (Nat × Nat)) (n4 n6 : Nat) (rd : Int32) : Prop := ∃ tr hr szr dpr nmr syr spr co fr en pa he r4 r6 f4 f6 ml ct, qS w 16 tr hr szr dpr nmr syr spr ∧ qRd w co fr en (Int32.ofNat ml) (Int32.ofNat ct) pa he r4 n4 r6 n6 (uA U) (uB U) f4 f6 ∧ (67 ≤ r4 → T r4 = 23) ∧ (67 ≤ r6 → T r6 = 25) ∧ ml ≤ 200 ∧ ct ≤ 300 ∧ (rd = 1 → (szr 2).toInt ≤ 4)
section
variable {fx tg : Nat → Prop} {T T' : Nat → Nat} {w w' : PW}
theorem qDf.at (D : qDf fx tg T T' w w') {x : Nat} (hx : x < w.1.length) (h : x < 67 ∧ ¬ fx x ∨ 67 ≤ x ∧ ¬ tg (T x)) : w'.1[x]? = w.1[x]? := D.2.1 x hx (fun y => by rcases h with h | h; exact h.2; omega) (fun y => by rcases h with h | h; omega; exact h.2)
theorem qDf.ats (D : qDf fx tg T T' w w') {x : Nat} {c : va_E} (hx : w.1[x]? = some c) (h : x < 67 ∧ ¬ fx x ∨ 67 ≤ x ∧ ¬ tg (T x)) : w'.1[x]? = some c := by rw [D.at (q_lt_len hx) h, hx]
theorem jB.kp {a n : Nat} {L : List Int32} (h : jB w T a L n) (D : qDf fx tg T T' w w') (ha : a + 1 < 67) (h1 : ¬ fx a) (h2 : ¬ fx (a + 1)) (h3 : ¬ tg a) : jB w' T' a L n := by
  obtain ⟨r, f, hb, hr, ht⟩ := h
  refine ⟨r, f, hb.keep (D.at (q_lt_len hb.o) (Or.inl ⟨by omega, h1⟩)) (D.at (q_lt_len hb.d) ?_), hr, fun y => by rw [D.2.2 r (q_lt_len hb.d)]; exact ht y⟩
  rcases hr with e | e
  · subst e
    exact Or.inl ⟨by omega, h2⟩
  · exact Or.inr ⟨e, by rw [ht e]; exact h3⟩
theorem jP1.kp {k x : Nat} {t b : Int32} {pk : Nat} {lv : Nat → Nat} {L : List Int32} (h : jP1 w T k x t b pk lv L) (D : qDf fx tg T T' w w') (ht : ∀ j, 1000 + 10 * k ≤ j → j < 1000 + 10 * k + 10 → ¬ tg j) : jP1 w' T' k x t b pk lv L := by
  obtain ⟨l, a, r, nn, ln, f, hp, hl, hx, h1, h2, h3⟩ := h
  have q1 := q_lt_len hp.1
  have q2 := q_lt_len hp.2.1
  have q3 := q_lt_len hp.2.2.1.o
  have q4 := q_lt_len hp.2.2.1.d
  refine ⟨l, a, r, nn, ln, f, hp.keep (fun y hy => ?_), hl, ?_, ?_, ?_, ?_⟩
  · rcases hy with e | e | e | e <;> subst e
    · exact D.at q1 (Or.inr ⟨hx.1, by rw [hx.2]; exact ht _ (by omega) (by omega)⟩)
    · exact D.at q2 (Or.inr ⟨h1.1, by rw [h1.2]; exact ht _ (by omega) (by omega)⟩)
    · exact D.at q3 (Or.inr ⟨h2.1, by rw [h2.2]; exact ht _ (by omega) (by omega)⟩)
    · exact D.at q4 (Or.inr ⟨h3.1, by rw [h3.2]; exact ht _ (by omega) (by omega)⟩)
  · rw [D.2.2 x q1]; exact hx
  · rw [D.2.2 l q2]; exact h1
  · rw [D.2.2 a q3]; exact h2
  · rw [D.2.2 r q4]; exact h3
theorem p_elt_of8 {x : Nat} {fs : List Value} (h : w.1[x]? = some (.inr (8, fs))) : p_elt w x = true := by
  unfold p_elt
  rw [h]
  rfl
theorem p_elt_of4 {x : Nat} {fs : List Value} (h : w.1[x]? = some (.inr (4, fs))) : p_elt w x = true := by
  unfold p_elt
  rw [h]
  rfl
theorem qL.kp {a : Nat} {e : Value} {P : List Nat} (h : qL w a e P) (D : qDf fx tg T T' w w') (ha : a < 67) (h1 : ¬ fx a) (he : ∀ y : Nat, .ref y = e → 67 ≤ y ∧ T y = a) (h3 : ¬ tg a) (hel : ∀ x ∈ P, p_elt w' x = true) : qL w' a e P := by
  refine h.keep2 (fun y hy => ?_) hel
  have hlt : y < w.1.length := by
    rcases hy with e1 | e1
    · subst e1; obtain ⟨m, hm, -⟩ := h; exact q_lt_len hm
    · obtain ⟨m, hm, h40, hl, hr⟩ := h
      rcases hr with ⟨hr, -⟩ | ⟨r, n, f, hr, hrr, -⟩
      · rw [hr] at e1; cases e1
      · rw [hr] at e1; cases e1; exact q_lt_len hrr
  rcases hy with e1 | e1
  · subst e1; exact D.at hlt (Or.inl ⟨ha, h1⟩)
  · exact D.at hlt (Or.inr ⟨(he y e1).1, by rw [(he y e1).2]; exact h3⟩)
theorem qL.elt {a : Nat} {e : Value} {P : List Nat} (h : qL w a e P) {y : Nat} (hy : .ref y = e) : y < w.1.length := by
  obtain ⟨m, hm, h40, hl, hr⟩ := h
  rcases hr with ⟨hr, -⟩ | ⟨r, n, f, hr, hrr, -⟩
  · rw [hr] at hy; cases hy
  · rw [hr] at hy; cases hy; exact q_lt_len hrr
theorem jP.kp {n : Nat} {pt : Nat → Int32} {pk : Nat → Nat} {lv : Nat → Nat → Nat} {pL : Nat → List Int32} (h : jP w T n pt pk lv pL) (D : qDf fx tg T T' w w') (h1 : ¬ fx 7) (h3 : ¬ tg 7) (ht : ∀ j, 1000 ≤ j → j < 2000 → ¬ tg j) : jP w' T' n pt pk lv pL := by
  obtain ⟨e, P, hl, hn, he, hp⟩ := h
  have h40 : P.length ≤ 40 := hl.choose_spec.2.1
  have hp' : ∀ k x, P[k]? = some x → jP1 w' T' k x (pt k) (Int32.ofNat (q_cnt pt (pt k) k 0)) (pk k) (lv k) (pL k) := fun k x hx => by
    have hk := (List.getElem?_eq_some_iff.mp hx).1
    exact (hp k x hx).kp D (fun j a b => ht j (by omega) (by omega))
  refine ⟨e, P, hl.kp D (by omega) h1 he h3 (fun x hx => ?_), hn, fun y hy => by rw [D.2.2 y (hl.elt hy)]; exact he y hy, hp'⟩
  obtain ⟨k, hk⟩ := List.mem_iff_getElem?.mp hx
  obtain ⟨l, a, r, nn, ln, f, hq, -⟩ := hp' k x hk
  exact p_elt_of8 hq.1
theorem jX1.kp {k x : Nat} {i c : Int32} {L : List Int32} (h : jX1 w T k x i c L) (D : qDf fx tg T T' w w') (ht : ∀ j, 2000 + 10 * k ≤ j → j < 2000 + 10 * k + 10 → ¬ tg j) : jX1 w' T' k x i c L := by
  obtain ⟨a, r, nn, f, hp, hb, hi, hx, h2, h3⟩ := h
  have q1 := q_lt_len hp
  have q3 := q_lt_len hb.o
  have q4 := q_lt_len hb.d
  refine ⟨a, r, nn, f, ?_, hb.keep ?_ ?_, hi, ?_, ?_, ?_⟩
  · exact D.ats hp (Or.inr ⟨hx.1, by rw [hx.2]; exact ht _ (by omega) (by omega)⟩)
  · exact D.at q3 (Or.inr ⟨h2.1, by rw [h2.2]; exact ht _ (by omega) (by omega)⟩)
  · exact D.at q4 (Or.inr ⟨h3.1, by rw [h3.2]; exact ht _ (by omega) (by omega)⟩)
  · rw [D.2.2 x q1]; exact hx
  · rw [D.2.2 a q3]; exact h2
  · rw [D.2.2 r q4]; exact h3
theorem jX.kp {n : Nat} {bi bk : Nat → Int32} {bL : Nat → List Int32} (h : jX w T n bi bk bL) (D : qDf fx tg T T' w w') (h1 : ¬ fx 8) (h3 : ¬ tg 8) (ht : ∀ j, 2000 ≤ j → j < 3000 → ¬ tg j) : jX w' T' n bi bk bL := by
  obtain ⟨e, P, hl, hn, h8, he, hp⟩ := h
  have hp' : ∀ k x, P[k]? = some x → jX1 w' T' k x (bi k) (bk k) (bL k) := fun k x hx => by
    have hk := (List.getElem?_eq_some_iff.mp hx).1
    exact (hp k x hx).kp D (fun j a b => ht j (by omega) (by omega))
  refine ⟨e, P, hl.kp D (by omega) h1 he h3 (fun x hx => ?_), hn, h8, fun y hy => by rw [D.2.2 y (hl.elt hy)]; exact he y hy, hp'⟩
  obtain ⟨k, hk⟩ := List.mem_iff_getElem?.mp hx
  obtain ⟨a, r, nn, f, hq, -⟩ := hp' k x hk
  exact p_elt_of4 hq
theorem jR.kp {U : List (Nat × Nat)} {n4 n6 : Nat} {rd : Int32} (h : jR w T U n4 n6 rd) (D : qDf fx tg T T' w w') (h1 : ∀ x, 16 ≤ x → x < 37 → ¬ fx x) (h2 : ¬ tg 23) (h3 : ¬ tg 25) : jR w' T' U n4 n6 rd := by
  obtain ⟨tr, hr, szr, dpr, nmr, syr, spr, co, fr, en, pa, he, r4, r6, f4, f6, ml, ct, hs, hq, t4, t6, hm, hc, hz⟩ := h
  have l36 : 36 < w.1.length := q_lt_len (hq.2.2.2.2.1.2 36 (by omega) (by omega))
  have l4 := q_lt_len hq.2.1.2.1
  have l6 := q_lt_len hq.2.2.1.2.1
  have sm : ∀ x, 16 ≤ x → x < 37 → w'.1[x]? = w.1[x]? := fun x a b => D.at (by omega) (Or.inl ⟨by omega, h1 x a b⟩)
  refine ⟨tr, hr, szr, dpr, nmr, syr, spr, co, fr, en, pa, he, r4, r6, f4, f6, ml, ct, hs.keep (fun x a b => sm x a (by omega)), hq.keep (fun x hx => ?_), fun y => by rw [D.2.2 r4 l4]; exact t4 y, fun y => by rw [D.2.2 r6 l6]; exact t6 y, hm, hc, hz⟩
  rcases hx with e | e | e
  · exact sm x (by omega) (by omega)
  · subst e
    rcases hq.2.2.2.2.2.1 with e | e
    · exact sm _ (by omega) (by omega)
    · exact D.at l4 (Or.inr ⟨e, by rw [t4 e]; exact h2⟩)
  · subst e
    rcases hq.2.2.2.2.2.2.1 with e | e
    · exact sm _ (by omega) (by omega)
    · exact D.at l6 (Or.inr ⟨e, by rw [t6 e]; exact h3⟩)
end
theorem s_hd_b (L : List Int32) (to many : Nat) : ∀ (f p : Nat) (a b : Bool) (x : Nat), p ≤ to → (s_hd L to many f p a b).1 = some x → x ≤ to
  | 0, p, a, b, x, h, e => by
    injection e with e
    omega
  | f + 1, p, a, b, x, h, e => by
    rw [s_hd] at e
    by_cases k1 : (p + 2 ≤ to ∧ nb L p = 255 ∧ nb L (p + 1) = 144) ∨ (p + 2 ≤ to ∧ nb L p = 255 ∧ nb L (p + 1) = 217)
    · rw [if_pos k1] at e
      by_cases k2 : a = true ∧ b = true
      · rw [if_pos k2] at e; cases e
      · rw [if_neg k2] at e; injection e with e; omega
    · rw [if_neg k1] at e
      cases hs : s_seg L p to with
      | none => rw [hs] at e; injection e with e; omega
      | some y =>
        have := s_seg_le hs
        rw [hs] at e
        dsimp only at e
        by_cases k2 : s_sgmB L many p y = true
        · rw [if_pos k2] at e
          exact s_hd_b L to many f y _ _ x (by omega) e
        · rw [if_neg k2] at e; injection e with e; omega
theorem s_head_b (L : List Int32) (fr to x : Nat) (h : fr ≤ to) (e : (s_head L fr to).1 = some x) : x ≤ to := by
  unfold s_head at e
  by_cases k1 : fr + 2 ≤ to ∧ nb L fr = 255 ∧ nb L (fr + 1) = 79
  · rw [if_pos k1] at e
    by_cases k2 : fr + 2 + 2 ≤ to ∧ nb L (fr + 2) = 255 ∧ nb L (fr + 2 + 1) = 81
    · rw [if_pos k2] at e
      cases hs : s_seg L (fr + 2) to with
      | none => rw [hs] at e; injection e with e; omega
      | some y =>
        have := s_seg_le hs
        rw [hs] at e
        dsimp only at e
        by_cases k3 : s_sizB L (fr + 2) y = true
        · rw [if_pos k3] at e
          exact s_hd_b L to _ _ y _ _ x (by omega) e
        · rw [if_neg k3] at e; injection e with e; omega
    · rw [if_neg k2] at e; injection e with e; omega
  · rw [if_neg k1] at e; injection e with e; omega
theorem s_pts_le (L : List Int32) (to : Nat) : ∀ (f p k : Nat), s_pts L to f p k ≤ k + f
  | 0, p, k => Nat.le_refl _
  | f + 1, p, k => by
    rw [s_pts]
    by_cases c : p + 12 ≤ to ∧ nb L p = 255 ∧ nb L (p + 1) = 144 ∧ (nb4 L (p + 6) = 0 ∨ 14 ≤ nb4 L (p + 6))
    · rw [if_pos c]
      have := s_pts_le L to f (s_nx L p to) (k + 1)
      omega
    · rw [if_neg c]
      omega
section
variable {w : PW} {T : Nat → Nat} {rd : Int32} {Lf Lt : List Int32} {nf nt n4 n6 : Nat} {U : List (Nat × Nat)}
/-- what the class's read leaves -/
def jRe (w : PW) (T : Nat → Nat) (Lf : List Int32) (nt n4 n6 : Nat) (r : PX) : Prop := ∃ w' T' nt' n4' n6' rd', r = some (.inl (some (.int (s_read Lf))), w') ∧ qCo w' rd' ∧ (rd' = 0 ∨ rd' = 1) ∧ jB w' T' 14 Lf nt' ∧ jR w' T' (s_find Lf).2.2.1 n4' n6' rd' ∧ qDf (fun x => x = 0 ∨ (14 ≤ x ∧ x < 37)) (fun t => t = 14 ∨ t = 23 ∨ t = 25) T T' w w' ∧ 3 * w'.2.1 + w.2.2 ≤ 3 * w.2.1 + w'.2.2 ∧ w'.2.2 + 7 * (nt + n4 + n6) ≤ w.2.2 + 7 * (nt' + n4' + n6')
theorem nt_1 {a b c d e f : Nat} (h1 : 3 * c + b ≤ 3 * a + d) (h2 : 3 * e + d ≤ 3 * c + f) : 3 * e + b ≤ 3 * a + f := by omega
theorem nt_2 {a b c p q u v x y : Nat} (h1 : b + 7 * p ≤ a + 7 * q) (h2 : c + 7 * (u + v) ≤ b + 7 * (x + y)) : c + 7 * (p + u + v) ≤ a + 7 * (q + x + y) := by omega
set_option maxHeartbeats 4000000 in
theorem jW_read (hlen : 67 ≤ w.1.length) (ho : qCo w rd) (hf : jB w T 12 Lf nf) (ht : jB w T 14 Lt nt) (hr : jR w T U n4 n6 rd) : jRe w T Lf nt n4 n6 (fW_read 0 w) := by
  obtain ⟨rf, ff, hf, hrf, tf⟩ := hf
  obtain ⟨rt, ft, ht, hrt, tt⟩ := ht
  obtain ⟨tr, hr', szr, dpr, nmr, syr, spr, co, fr, en, pa, he, r4, r6, f4, f6, ml, ct, hs, hR, t4, t6, hml, hct, hz⟩ := hr
  have d4 := hR.2.2.2.2.2.1
  have d6 := hR.2.2.2.2.2.2.1
  have hft : rt ≠ rf := fun e => by
    rcases hrt with a | a
    · rcases hrf with b | b <;> omega
    · rcases hrf with b | b
      · omega
      · have q1 := tt a
        have q2 := tf b
        rw [e, q2] at q1
        exact absurd q1 (by decide)
  have ht4 : rt ≠ r4 := fun e => by
    rcases hrt with a | a
    · rcases d4 with b | b <;> omega
    · rcases d4 with b | b
      · omega
      · have q1 := tt a
        have q2 := t4 b
        rw [e, q2] at q1
        exact absurd q1 (by decide)
  have ht6 : rt ≠ r6 := fun e => by
    rcases hrt with a | a
    · rcases d6 with b | b <;> omega
    · rcases d6 with b | b
      · omega
      · have q1 := tt a
        have q2 := t6 b
        rw [e, q2] at q1
        exact absurd q1 (by decide)
  have lrt := q_lt_len ht.d
  have lr4 := q_lt_len hR.2.1.2.1
  have lr6 := q_lt_len hR.2.2.1.2.1
  unfold fW_read
  rw [q_obj ho, Option.bind_some]
  obtain ⟨w1, pa', syr', spr', g1, o1, R1, s1, K1, c1, l1, y0, p0⟩ := qW_forgetReading ho hR hs
  rw [g1, q_call, q_kV, q_getR (k := 5) o1 rfl, Option.bind_some, q_getR (k := 4) o1 rfl, Option.bind_some]
  have hf1 : qB w1 12 rf 20000 nf Lf ff := hf.keep (K1 12 (by decide) (by omega)) (K1 rf (by omega) (by omega))
  have ht1 : qB w1 14 rt 20000 nt Lt ft := ht.keep (K1 14 (by decide) (by omega)) (K1 rt (by omega) (by omega))
  rw [q_obj ht1.o, Option.bind_some]
  obtain ⟨w2, r2, n2, g, g2, b2, F2, e2, m2, k2⟩ := ht1.copy hf1 (by decide) hft
  rw [g2, q_call, q_kV]
  have kp : ∀ x, x < w1.1.length → x ≠ 14 → x ≠ rt → w2.1[x]? = w1.1[x]? := fun x a b c => q_keepF F2 a (by rintro (h | h); exact b h; exact c h)
  have o2 : qCo w2 0 := by
    unfold qCo
    rw [kp 0 (by omega) (by decide) (by omega)]
    exact o1
  have h22 : w2.1[22]? = some (.inr (1, [.ref 14, .ref 23, .ref 25, .int (-1), .int fr, .int en])) := by rw [kp 22 (by omega) (by decide) (by omega), R1.1]
  have q23 : qN w2 23 r4 n4 [] f4 := R1.2.1.keep (kp 23 (by omega) (by omega) (by omega)) (kp r4 (by omega) (by omega) (by omega))
  have q25 : qN w2 25 r6 n6 [] f6 := R1.2.2.1.keep (kp 25 (by omega) (by omega) (by omega)) (kp r6 (by omega) (by omega) (by omega))
  have x2 : qXS w2 r4 r6 n4 n6 w2 (-1) fr en [] [] := ⟨r4, n4, f4, r6, n6, f6, h22, q23, q25, qF.rf, Or.inl rfl, Or.inl rfl, R1.2.2.2.2.2.2.2, Nat.le_refl _, Nat.le_refl _, Nat.le_refl _⟩
  have r2c : (r2 = 15 ∨ 67 ≤ r2) := by rcases e2 with e | e <;> omega
  have hd : r2 ≠ 22 ∧ r2 ≠ 23 ∧ r2 ≠ 25 ∧ r2 ≠ r4 ∧ r2 ≠ r6 ∧ 14 ≠ r4 ∧ 14 ≠ r6 := by rcases e2 with e | e <;> refine ⟨?_, ?_, ?_, ?_, ?_, ?_, ?_⟩ <;> omega
  rw [q_getR (k := 7) o2 rfl, Option.bind_some, q_obj h22, Option.bind_some]
  obtain ⟨w3, g3, x3⟩ := qXS.find b2 hd x2
  have b3 := x3.by b2 hd
  rw [g3, q_call, q_kI]
  obtain ⟨r, n, f, s, m, gg, X1, X2, X3, X4, X5, X6, X7, X8, X9, X10⟩ := x3
  have lw12 : w1.1.length ≤ w2.1.length := F2.1
  have lw23 : w2.1.length ≤ w3.1.length := X4.1
  have lr2 := q_lt_len b2.d
  have kp3 : ∀ x, x < w2.1.length → x ≠ 22 → x ≠ 23 → x ≠ 25 → x ≠ r4 → x ≠ r6 → w3.1[x]? = w2.1[x]? := fun x a b c d e f => q_keepF X4 a (by rintro (h | h | h | h | h); exact b h; exact c h; exact d h; exact e h; exact f h)
  have kc3 : ∀ x, x < 67 → x ≠ 22 → x ≠ 23 → x ≠ 25 → x ≠ 24 → x ≠ 26 → x ≠ 14 → x ≠ 15 → w3.1[x]? = w1.1[x]? := fun x a b c d e f g h => by
    have m4 : x ≠ r4 := fun q => d4.elim (fun p => e (q.trans p)) (fun p => absurd a (by rw [q]; exact Nat.not_lt.mpr p))
    have m6 : x ≠ r6 := fun q => d6.elim (fun p => f (q.trans p)) (fun p => absurd a (by rw [q]; exact Nat.not_lt.mpr p))
    have mt : x ≠ rt := fun q => hrt.elim (fun p => h (q.trans p)) (fun p => absurd a (by rw [q]; exact Nat.not_lt.mpr p))
    have ll : x < w1.1.length := by rw [l1]; exact Nat.lt_of_lt_of_le a hlen
    rw [kp3 x (Nat.lt_of_lt_of_le ll lw12) b c d m4 m6, kp x ll g mt]
  have sm3 : ∀ x, x < 67 → x ≠ 0 → ¬ (14 ≤ x ∧ x < 37) → w3.1[x]? = w.1[x]? := fun x a b c => by rw [kc3 x a (by omega) (by omega) (by omega) (by omega) (by omega) (by omega) (by omega), K1 x b (by omega)]
  have o3 : qCo w3 0 := by
    unfold qCo
    rw [kp3 0 (by omega) (by omega) (by omega) (by omega) (by omega) (by omega)]
    exact o2
  have s3 : qS w3 16 tr hr' szr dpr nmr syr' spr' := s1.keep (fun x a b => kc3 x (by omega) (by omega) (by omega) (by omega) (by omega) (by omega) (by omega) (by omega))
  have h27 : w3.1[27]? = some (.inr (3, [.ref 14, .ref 16, .int he])) := by rw [kc3 27 (by decide) (by decide) (by decide) (by decide) (by decide) (by decide) (by decide) (by decide), R1.2.2.2.1]
  have pr3 : qPr w3 (Int32.ofNat ml) 0 pa' := ⟨by rw [kc3 28 (by decide) (by decide) (by decide) (by decide) (by decide) (by decide) (by decide) (by decide), R1.2.2.2.2.1.1], fun k j1 j2 => by rw [kc3 k (by omega) (by omega) (by omega) (by omega) (by omega) (by omega) (by omega) (by omega), R1.2.2.2.2.1.2 k j1 j2]⟩
  have hlf : Lf.length ≤ 20000 := b2.2.2.2.1
  have lr := q_lt_len X2.2.1
  have ls := q_lt_len X3.2.1
  have rc : r = 24 ∨ 67 ≤ r := by rcases X5 with e | e <;> omega
  have sc : s = 26 ∨ 67 ≤ s := by rcases X6 with e | e <;> omega
  have nr2 : r ≠ r2 := by
    rcases X5 with q | q
    · rw [q]; exact fun y => hd.2.2.2.1 y.symm
    · exact fun y => absurd lr2 (by rw [← y]; exact Nat.not_lt.mpr q)
  have ns2 : s ≠ r2 := by
    rcases X6 with q | q
    · rw [q]; exact fun y => hd.2.2.2.2.1 y.symm
    · exact fun y => absurd lr2 (by rw [← y]; exact Nat.not_lt.mpr q)
  -- the end
  have fin : ∀ (wz : PW) (rd' : Int32) (v : Int32) (he' tr2 hr2 : Int32) (szr2 dpr2 nmr2 syr2 spr2 : Nat → Int32) (ml2 ct2 : Nat) (pa2 : Nat → Nat → Int32), v = s_read Lf → (rd' = 0 ∨ rd' = 1) → qCo wz rd' → qS wz 16 tr2 hr2 szr2 dpr2 nmr2 syr2 spr2 → wz.1[27]? = some (.inr (3, [.ref 14, .ref 16, .int he'])) → qPr wz (Int32.ofNat ml2) (Int32.ofNat ct2) pa2 → ml2 ≤ 200 → ct2 ≤ 300 → (rd' = 1 → (szr2 2).toInt ≤ 4) → wz.1.length = w3.1.length → wz.2 = w3.2 → (∀ x, x ≠ 0 → (x < 16 ∨ (22 ≤ x ∧ x < 27) ∨ 37 ≤ x) → wz.1[x]? = w3.1[x]?) → jRe w T Lf nt n4 n6 (some (.inl (some (.int v)), wz)) := by
    intro wz rd' v he' tr2 hr2 szr2 dpr2 nmr2 syr2 spr2 ml2 ct2 pa2 hv hrd qo qs q27 qp m2' c2' z2 lz cz kz
    subst hv
    refine ⟨wz, fun x => if w.1.length ≤ x then (if x = r2 then 14 else if x = r then 23 else 25) else T x, n2, n, m, rd', rfl, qo, hrd, ⟨r2, g, b3.keep (kz 14 (by decide) (Or.inl (by decide))) (kz r2 (by omega) (by omega)), by omega, fun y => ?_⟩, ⟨tr2, hr2, szr2, dpr2, nmr2, syr2, spr2, (s_find Lf).2.1, oF 0 (s_find Lf).2.2.2, oE (Int32.ofNat Lf.length) (s_find Lf).2.2.2, pa2, he', r, s, f, gg, ml2, ct2, qs, ⟨?_, X2.keep (kz 23 (by decide) (Or.inr (Or.inl (by decide)))) (kz r (by omega) (by omega)), X3.keep (kz 25 (by decide) (Or.inr (Or.inl (by decide)))) (kz s (by omega) (by omega)), q27, qp, rc, sc, X7⟩, fun y => ?_, fun y => ?_, m2', c2', z2⟩, ⟨by omega, fun x hx a b => ?_, fun x hx => ?_⟩, ?_, ?_⟩
    · dsimp only
      by_cases hq : w.1.length ≤ r2
      · rw [if_pos hq, if_pos rfl]
      · rw [if_neg hq]
        rcases e2 with e | e
        · subst e; exact tt y
        · omega
    · rw [kz 22 (by decide) (Or.inr (Or.inl (by decide)))]; exact X1
    · dsimp only
      by_cases hq : w.1.length ≤ r
      · rw [if_pos hq, if_neg nr2, if_pos rfl]
      · rw [if_neg hq]
        rcases X5 with e | e
        · subst e; exact t4 y
        · omega
    · dsimp only
      by_cases hq : w.1.length ≤ s
      · rw [if_pos hq, if_neg ns2, if_neg (fun e => X7 e.symm)]
      · rw [if_neg hq]
        rcases X6 with e | e
        · subst e; exact t6 y
        · omega
    · by_cases h67 : x < 67
      · have a' := a h67
        rw [kz x (by omega) (by omega), sm3 x h67 (fun e => a' (Or.inl e)) (fun e => a' (Or.inr e))]
      · have b' := b (by omega)
        have n1 : x ≠ rt := fun e => b' (Or.inl (by rw [e]; exact tt (by omega)))
        have n2' : x ≠ r4 := fun e => b' (Or.inr (Or.inl (by rw [e]; exact t4 (by omega))))
        have n3 : x ≠ r6 := fun e => b' (Or.inr (Or.inr (by rw [e]; exact t6 (by omega))))
        rw [kz x (by omega) (by omega), kp3 x (by omega) (by omega) (by omega) (by omega) n2' n3, kp x (by omega) (by omega) n1, K1 x (by omega) (by omega)]
    · dsimp only
      rw [if_neg (by omega)]
    · rw [cz]
      have a1 := F2.2.2
      have a2 := X4.2.2
      rw [c1] at a1
      exact nt_1 a1 a2
    · rw [cz]
      rw [c1] at k2
      exact nt_2 k2 X10
  cases hs1 : (s_find Lf).1 with
  | some b =>
    rw [hs1] at g3
    have hb := (s_find_ok Lf).2.2.2 b hs1
    have er : s_read Lf = -1 - Int32.ofNat b := by
      unfold s_read
      rw [hs1]
    rw [show oN (some b) = Int32.ofNat b from rfl, if_pos (oN_ne (by omega))]
    unfold fW_read_50
    rw [if_neg (oN_ne (by omega))]
    exact fin w3 0 _ he tr hr' szr dpr nmr syr' spr' ml 0 pa' er.symm (Or.inl rfl) o3 s3 h27 pr3 hml (by omega) (fun y => absurd y (by decide)) rfl rfl (fun x _ _ => rfl)
  | none =>
    obtain ⟨a, e, hs2, hae, heL⟩ := (s_find_ok Lf).2.2.1 hs1
    rw [hs2] at X1
    rw [show oN none = -1 from rfl, if_neg (not_not_intro rfl), q_getR (k := 8) o3 rfl, Option.bind_some, q_getR (k := 7) o3 rfl, Option.bind_some, q_getI (k := 4) X1 rfl, Option.bind_some, Option.bind_some, q_getI (k := 5) X1 rfl, Option.bind_some, q_obj h27, Option.bind_some]
    have hH : qHR w3 r2 n2 Lf g he tr hr' szr dpr nmr syr' spr' := ⟨h27, b3, r2c, s3⟩
    obtain ⟨w4, he4, tr4, hr4, szr4, dpr4, nmr4, syr4, spr4, g4, h4, G4, z4⟩ := hH.head a e hae heL y0 p0
    have o4 : qCo w4 0 := by
      unfold qCo
      rw [G4.2.2 0 (by omega)]
      exact o3
    have pr4 : qPr w4 (Int32.ofNat ml) 0 pa' := ⟨by rw [G4.2.2 28 (by omega), pr3.1], fun k j1 j2 => by rw [G4.2.2 k (by omega), pr3.2 k j1 j2]⟩
    rw [show oF 0 (some (a, e)) = Int32.ofNat a from rfl, show oE (Int32.ofNat Lf.length) (some (a, e)) = Int32.ofNat e from rfl, g4, q_call, q_kI]
    unfold fW_read_50
    cases hh : (s_head Lf a e).1 with
    | some b =>
      have er : s_read Lf = -1 - Int32.ofNat b := by
        unfold s_read
        rw [hs1]
        dsimp only
        rw [hs2]
        dsimp only
        rw [hh]
      have hbn : ¬ Int32.ofNat b = -1 := by
        apply oN_ne
        have := s_head_b Lf a e b hae hh
        omega
      rw [show oN (some b) = Int32.ofNat b from rfl, if_neg hbn]
      exact fin w4 0 _ he4 tr4 hr4 szr4 dpr4 nmr4 syr4 spr4 ml 0 pa' er.symm (Or.inl rfl) o4 h4.2.2.2 h4.1 pr4 hml (by omega) (fun y => absurd y (by decide)) G4.1 G4.2.1 (fun x j1 j2 => G4.2.2 x (by omega))
    | none =>
      obtain ⟨z1, z2, z3, z5, z6, z7, z8, z9, z10⟩ := z4 hh
      have er : s_read Lf = Int32.ofNat (s_pts Lf e 300 (s_head Lf a e).2 0) := by
        unfold s_read
        rw [hs1]
        dsimp only
        rw [hs2]
        dsimp only
        rw [hh]
      have X1' : w4.1[22]? = some (.inr (1, [.ref 14, .ref 23, .ref 25, .int (s_find Lf).2.1, .int (oF 0 (some (a, e))), .int (oE (Int32.ofNat Lf.length) (some (a, e)))])) := by rw [G4.2.2 22 (by omega)]; exact X1
      rw [show oN none = -1 from rfl, if_pos rfl, q_getR (k := 9) o4 rfl, Option.bind_some, q_getR (k := 8) o4 rfl, Option.bind_some, q_getI (k := 2) h4.1 rfl, Option.bind_some, q_getR (k := 7) o4 rfl, Option.bind_some, q_getI (k := 5) X1' rfl, Option.bind_some, q_obj pr4.1, Option.bind_some, z1]
      unfold fPartReader_readParts
      obtain ⟨w5, nm5, sy5, sp5, m5, pa5, g5, h5, l5, K5⟩ := qPH.parts e (nb2 Lf (a + 2 + 38)) heL z10 z5.2 300 (s_head Lf a e).2 0 FUEL ml w4 nmr4 syr4 spr4 pa' ⟨h4, pr4⟩ hml z2 (by omega) (by decide)
      rw [show fPartReader_readParts_5 FUEL 28 (oE (Int32.ofNat Lf.length) (some (a, e))) (Int32.ofNat (s_head Lf a e).2) 0 w4 = _ from g5, q_call, q_kV, if_neg (not_not_intro (Or.inr rfl))]
      have o5 : qCo w5 0 := by
        unfold qCo
        rw [K5.2.2 0 (by omega)]
        exact o4
      obtain ⟨w6, g6, s6, F6⟩ := o_put (k := 10) o5 (by simp) (.int 1)
      have o6 : qCo w6 1 := s6
      have pr6 : qPr w6 (Int32.ofNat m5) (Int32.ofNat (s_pts Lf e 300 (s_head Lf a e).2 0)) pa5 := ⟨by rw [F6.2.1 28 (by omega), h5.2.1], fun k j1 j2 => by rw [F6.2.1 k (by omega), h5.2.2 k j1 j2]⟩
      rw [g6, Option.bind_some, q_getR (k := 9) o6 rfl, Option.bind_some, q_getI (k := 12) pr6.1 rfl, Option.bind_some]
      refine fin w6 1 _ he4 tr4 hr4 szr4 dpr4 nm5 sy5 sp5 m5 _ pa5 er.symm (Or.inr rfl) o6 (h5.1.2.2.2.keep (fun x j1 j2 => F6.2.1 x (by omega))) (by rw [F6.2.1 27 (by omega), h5.1.1]) pr6 l5 (by have := s_pts_le Lf e 300 (s_head Lf a e).2 0; omega) (fun _ => by rw [z10, q_ofi (by omega)]; omega) (by rw [F6.1, K5.1, G4.1]) (by rw [F6.2.2, K5.2.1, G4.2.1]) (fun x j1 j2 => by rw [F6.2.1 x j1, K5.2.2 x j2, G4.2.2 x (by omega)])
end
