theorem o_astJ {w : PW} {f : Nat → Int64} (h : w.1[66]? = some (.inl (3, 1, .inr (.inl f)))) (x : Int64) : ∃ w', p_astJ w 66 0 x = some w' ∧ w'.1[66]? = some (.inl (3, 1, .inr (.inl (vp_updL f 0 x)))) ∧ qE 66 w w' := by
  refine ⟨(w.1.set 66 (.inl (3, 1, .inr (.inl (vp_updL f 0 x)))), w.2), ?_, q_set_self h, List.length_set, fun x hx => q_set_ne hx.symm, rfl⟩
  simp only [p_astJ, p_arrJ, h, if_true, Option.bind_some]
  rw [if_neg (by decide)]
  rfl
theorem q_aldJ {w : PW} {f : Nat → Int64} (h : w.1[66]? = some (.inl (3, 1, .inr (.inl f)))) : p_aldJ w 66 0 = some (f 0) := by
  simp only [p_aldJ, p_arrJ, h, if_true, Option.bind_some]
  rw [if_neg (by decide)]
  rfl
section
variable {k : Nat → Nat → Nat → Int32 → PW → PX}
theorem t_tail {zc code b i : Int32} {wz : PW} (hz : zc = code) (h0 : code = 0 → p_aldJ wz 66 0 = some (Int32.toInt64 b)) : (if zc = code then (if ¬ code = 0 then (p_let (i + 5) fun (l : Int32) => k 0 37 66 l wz) else ((p_aldJ wz 66 0).bind fun v => if lg_cmp v (Int32.toInt64 b) = 0 then (p_let (i + 5) fun (l : Int32) => k 0 37 66 l wz) else (p_retZ 0 wz))) else (p_retZ 0 wz)) = k 0 37 66 (i + 5) wz := by
  rw [if_pos hz]
  by_cases hc : code = 0
  · rw [if_neg (not_not_intro hc), h0 hc, Option.bind_some, if_pos ((q_cmp_eq _ _).mpr rfl), q_let]
  · rw [if_pos hc, q_let]
/-- what the store of the answer leaves -/
def qJ (v : Int32) (w w' : PW) : Prop := qE 66 w w' ∧ w'.1[66]? = some (.inl (3, 1, .inr (.inl fun j => if j = 0 then Int32.toInt64 v else 0)))
theorem o_J {w : PW} (h : w.1[66]? = some (.inl (3, 1, .inr (.inl fun _ => 0)))) (v : Int32) : ∃ w', p_astJ w 66 0 (Int32.toInt64 v) = some w' ∧ qJ v w w' := by
  obtain ⟨w', g1, s1, F1⟩ := o_astJ h (Int32.toInt64 v)
  exact ⟨w', g1, F1, s1⟩
theorem qJ.ald {v : Int32} {w w' w2 : PW} (h : qJ v w w') (hk : w2.1[66]? = w'.1[66]?) : p_aldJ w2 66 0 = some (Int32.toInt64 v) := by
  have := q_aldJ (w := w2) (f := fun j => if j = 0 then Int32.toInt64 v else 0) (by rw [hk, h.2])
  exact this
theorem qM.thr {w : PW} {z : Nat → Int32} {g : Nat → Nat → Int32} (h : qM w z g) : fD_thrown 37 w = some (.inl (some (.int (z 0))), w) := by
  unfold fD_thrown
  rw [h.I 0 rfl, Option.bind_some]
theorem qT.M {w w' : PW} {z : Nat → Int32} {g : Nat → Nat → Int32} (h : qT w w') (hM : qM w z g) : qM w' z g := hM.keep (fun x _ _ => by rw [h.1])
/-- room -/
def qRm (w : PW) : Prop := w.2.1 ≤ 500000 ∧ w.2.2 ≤ 500000
theorem qT.rm {w w' : PW} (h : qT w w') (h1 : w.2.1 ≤ 67) (h2 : w.2.2 ≤ 108568) : w'.2.1 ≤ 300 ∧ w'.2.2 ≤ 108600 := by
  obtain ⟨-, a, b⟩ := h
  omega
/-- two sides of a refused call: the class throws (the code is c), the reference says c -/
theorem t_ref {zc b i c : Int32} {w wz : PW} (hz : zc = c) (hc : ¬ c = 0) : (if zc = c then (if ¬ c = 0 then (p_let (i + 5) fun (l : Int32) => k 0 37 66 l wz) else ((p_aldJ wz 66 0).bind fun v => if lg_cmp v (Int32.toInt64 b) = 0 then (p_let (i + 5) fun (l : Int32) => k 0 37 66 l wz) else (p_retZ 0 wz))) else (p_retZ 0 wz)) = k 0 37 66 (i + 5) wz := t_tail hz (fun e => absurd e hc)
variable {w : PW} {x y : Int32} {sy sp : Nat → Int32} {z : Nat → Int32} {g : Nat → Nat → Int32} {xs : Nat → Int32}
theorem sl1 (xs : Nat → Int32) : p_sld (7, xs) (2 + 1) = some (xs 3) := rfl
theorem sl2 (xs : Nat → Int32) : p_sld (7, xs) (2 + 2) = some (xs 4) := rfl
theorem sl3 (xs : Nat → Int32) : p_sld (7, xs) (2 + 3) = some (xs 5) := rfl
theorem sl4 (xs : Nat → Int32) : p_sld (7, xs) (2 + 4) = some (xs 6) := rfl
theorem q_one.z8 (h : q_one w x y sy sp z g) : z 8 = 0 ∧ z 14 = 0 ∧ z 20 = 0 ∧ z 22 = 0 ∧ z 25 = 0 ∧ z 27 = 0 ∧ z 30 = 0 := by
  obtain ⟨-, -, -, hz, -⟩ := h
  refine ⟨?_, ?_, ?_, ?_, ?_, ?_, ?_⟩ <;> rw [hz] <;> rfl
theorem st_y01 {sy : Nat → Int32} {w : PW} {b : Nat} {tw th : Int32} {sz dp nm sp : Nat → Int32} (h : qS w b tw th sz dp nm sy sp) : (∀ i, sy i = 0 ∨ sy i = 1) ∧ ∀ i, sp i = 0 ∨ sp i = 1 := h.2.2.2.2.2.2
/-- set -/
theorem one_set (h : q_one w x y sy sp z g) : ∃ w', fL_law_148 (7, xs) k 0 37 66 2 w = k 0 37 66 (2 + 5) w' ∧ qRm w' := by
  have hz := h.z8
  obtain ⟨⟨hO, hS, h7, -⟩, hM, hR, -, h66, hl, c1, c2⟩ := h
  obtain ⟨m7, l7, -⟩ := h7
  have hW := q_Wset hO hS l7 hR (xs 3) (xs 4) (xs 5) (xs 6)
  have eb : decide (¬ Int32.ofNat ([] : List Nat).length = 0) = decide (0 < z 8) := by rw [hz.1]; rfl
  rw [eb] at hW
  obtain ⟨y01, p01⟩ := st_y01 hS
  unfold fL_law_148
  simp only [sl1, sl2, sl3, sl4, Option.bind_some]
  unfold fL_set
  rw [q_obj hO, Option.bind_some]
  have thr : ∀ (w1 : PW) (c : Int32), (c = 1 ∨ c = 2 ∨ c = 3) → q_sc x y (upd (upd (upd (fun _ => 0) 0 x) 1 y) 2 1) sy sp (decide (0 < z 8)) (xs 3) (xs 4) (xs 5) (xs 6) = c → qT w w1 → ∃ w', ((p_obj w1 37 10).bind fun _ => p_call (fD_set 37 (xs 3) (xs 4) (xs 5) (xs 6) w1) <| p_kI fun v204 w204 => (p_obj w204 37 10).bind fun _ => p_call (fD_thrown 37 w204) <| p_kI fun v210 w210 => if v210 = c then (if ¬ c = 0 then (p_let ((2 : Int32) + (5 : Int32)) fun (l4_1222 : Int32) => k 0 37 66 l4_1222 w210) else ((p_aldJ w210 66 (0 : Int32)).bind fun v227 => if (lg_cmp v227 (Int32.toInt64 v204)) = 0 then (p_let ((2 : Int32) + (5 : Int32)) fun (l4_1222 : Int32) => k 0 37 66 l4_1222 w210) else (p_retZ (0 : Int32) w210))) else (p_retZ (0 : Int32) w210)) = k 0 37 66 (2 + 5) w' ∧ qRm w' := by
    intro w1 c hc hsc hT
    have hM1 := hT.M hM
    obtain ⟨w2, g2, b, e2, q2, F2, -, -⟩ := hM1.set hR y01 p01 (xs 3) (xs 4) (xs 5) (xs 6)
    rw [hM1.obj, Option.bind_some, e2, q_call, q_kI, q2.obj, Option.bind_some, q2.thr, q_call, q_kI]
    refine ⟨w2, t_tail (by show q_sc _ _ _ _ _ _ _ _ _ _ = c; exact hsc) (fun e => by rcases hc with r | r | r <;> rw [r] at e <;> exact absurd e (by decide)), ?_⟩
    have := hT.rm (by omega) (by omega)
    rw [← F2.2.1] at this
    exact ⟨by omega, by omega⟩
  rcases q_sc_v x y (upd (upd (upd (fun _ => 0) 0 x) 1 y) 2 1) sy sp (decide (0 < z 8)) (xs 3) (xs 4) (xs 5) (xs 6) with hc | hc | hc | hc
  · obtain ⟨w1, e1, s1, F1⟩ := hW.2.2.2 hc
    have h661 : w1.1[66]? = some (.inl (3, 1, .inr (.inl fun _ => 0))) := F1.at h66 (by omega)
    obtain ⟨w2, g2, J2⟩ := o_J h661 (q_val (upd (upd (upd (fun _ => 0) 0 x) 1 y) 2 1) (q_all8 (fun _ => 0) 4 0) (q_rst (fun _ => 0) 7 4) sy sp (xs 3) (xs 4) (xs 5))
    rw [e1]
    show ∃ w', p_call ((p_astJ w1 66 0 (Int32.toInt64 _)).bind _) _ = _ ∧ _
    rw [g2, Option.bind_some, q_call, q_kI]
    have hM2 : qM w2 z g := hM.keep (fun u u1 u2 => by rw [J2.1.2.1 u (by omega), F1.2.2 u (by omega)])
    obtain ⟨w3, g3, b, e3, q3, F3, -, t3⟩ := hM2.set hR y01 p01 (xs 3) (xs 4) (xs 5) (xs 6)
    rw [hM2.obj, Option.bind_some, e3, q_call, q_kI, q3.obj, Option.bind_some, q3.thr, q_call, q_kI]
    refine ⟨w3, t_tail (by show q_sc _ _ _ _ _ _ _ _ _ _ = 0; exact hc) (fun _ => ?_), ?_⟩
    · rw [(t3 hc).1]
      exact J2.ald (F3.2.2 66 (by omega))
    · have e1 : w3.2 = w.2 := by rw [F3.2.1, J2.1.2.2, F1.2.1]
      unfold qRm
      rw [e1]
      omega
  · obtain ⟨w1, e1, T1⟩ := hW.1 hc
    rw [e1]
    exact thr w1 1 (Or.inl rfl) hc T1
  · obtain ⟨w1, e1, T1⟩ := hW.2.1 hc
    rw [e1]
    exact thr w1 2 (Or.inr (Or.inl rfl)) hc T1
  · obtain ⟨w1, e1, T1⟩ := hW.2.2.1 hc
    rw [e1]
    exact thr w1 3 (Or.inr (Or.inr rfl)) hc T1
end
