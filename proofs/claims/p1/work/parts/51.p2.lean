theorem q_cell (S : Nat × (Nat → Int32)) (i : Nat) (hS : S.1 ≤ 2562) (hi : i ≤ 2) (w : PW) : fL_cell S (Int32.ofNat i) w = some (.inl (some (.int (if S.1 ≤ i then 0 else S.2 i))), w) := by
  unfold fL_cell p_let p_sld
  simp only [q_le (m := S.1) (n := i) (by omega) (by omega)]
  by_cases h : S.1 ≤ i
  · rw [if_pos h, if_pos h]
  · rw [if_neg h, if_neg h, if_neg (q_inb (q_ge0 i (by omega)) ((q_lt (by omega) (by omega)).mpr (by omega)) (by omega)), Option.bind_some, q_tno (by omega)]
/-- the world as the law's loop begins -/
def q_st0 (w : PW) (x y : Int32) : Prop :=
  w.1.length = 67 ∧ w.2.1 = 67 ∧ w.2.2 = 108568 ∧
  w.1[0]? = some (.inr (0, [.ref 1, .ref 7, .ref 8, .ref 9, .ref 12, .ref 14, .ref 16, .ref 22, .ref 27, .ref 28, .int 0])) ∧
  (∃ nm sy sp, qS w 1 x y (upd (upd (upd (fun _ => 0) 0 x) 1 y) 2 1) (q_all8 (fun _ => 0) 4 0) nm sy sp ∧ nm = q_rst (fun _ => 0) 7 4 ∧ ∀ j, j < 125 → sy j = (if j = 0 then 1 else 0) ∧ sp j = (if j = 0 then 1 else 0)) ∧
  w.1[7]? = some (.inr (11, [.int 0, .retAddr 3, .int 0])) ∧ w.1[8]? = some (.inr (11, [.int 0, .retAddr 3, .int 0])) ∧ w.1[9]? = some (.inr (9, [.ref 10])) ∧
  qB w 10 11 20000 32 [] (fun _ => 0) ∧ qB w 12 13 20000 32 [] (fun _ => 0) ∧ qB w 14 15 20000 32 [] (fun _ => 0) ∧
  qS w 16 1 1 (fun _ => 0) (fun _ => 0) (fun _ => 0) (fun _ => 0) (fun _ => 0) ∧
  w.1[22]? = some (.inr (1, [.ref 14, .ref 23, .ref 25, .int (-1), .int 0, .int 0])) ∧ qN w 23 24 8 [] (fun _ => 0) ∧ qN w 25 26 8 [] (fun _ => 0) ∧
  w.1[27]? = some (.inr (3, [.ref 14, .ref 16, .int 0])) ∧
  w.1[28]? = some (.inr (6, [.ref 14, .ref 16, .ref 27, .ref 29, .ref 30, .ref 31, .ref 32, .ref 33, .ref 34, .ref 35, .ref 36, .int 0, .int 0])) ∧
  (∀ k, 29 ≤ k → k < 34 → w.1[k]? = some (.inl (0, 300, .inl fun _ => 0))) ∧ w.1[34]? = some (.inl (2, 300, .inl fun _ => 0)) ∧ w.1[35]? = some (.inl (0, 24, .inl fun _ => 0)) ∧ w.1[36]? = some (.inl (0, 200, .inl fun _ => 0)) ∧
  (∃ z g, qM w z g ∧ q_bgn (fun _ _ => 0) g x y 0 ∧ ∀ k, z k = if k = 1 then x else if k = 2 then y else 0) ∧
  w.1[66]? = some (.inl (3, 1, .inr (.inl fun _ => 0)))
theorem m_row_at : ∀ j, j < 28 → (m_row 0 0)[j]? = some (.inl (mT (38 + j), mL (38 + j), .inl fun _ => 0))
  | 0, _ => rfl
  | 1, _ => rfl
  | 2, _ => rfl
  | 3, _ => rfl
  | 4, _ => rfl
  | 5, _ => rfl
  | 6, _ => rfl
  | 7, _ => rfl
  | 8, _ => rfl
  | 9, _ => rfl
  | 10, _ => rfl
  | 11, _ => rfl
  | 12, _ => rfl
  | 13, _ => rfl
  | 14, _ => rfl
  | 15, _ => rfl
  | 16, _ => rfl
  | 17, _ => rfl
  | 18, _ => rfl
  | 19, _ => rfl
  | 20, _ => rfl
  | 21, _ => rfl
  | 22, _ => rfl
  | 23, _ => rfl
  | 24, _ => rfl
  | 25, _ => rfl
  | 26, _ => rfl
  | 27, _ => rfl
  | j + 28, h => absurd h (by omega)
theorem q_start (S : Nat × (Nat → Int32)) (hS : S.1 ≤ 2562) : ∃ w, fL_law S ([], 0, 0) = fL_law_43 S FUEL 0 37 66 2 w ∧ q_st0 w (q_near (if S.1 ≤ 0 then 0 else S.2 0)) (q_near (if S.1 ≤ 1 then 0 else S.2 1)) := by
  generalize hx : (if S.1 ≤ 0 then 0 else S.2 0) = x0
  generalize hy : (if S.1 ≤ 1 then 0 else S.2 1) = y0
  have c0 : ∀ w, fL_cell S 0 w = some (.inl (some (.int x0)), w) := fun w => by rw [← hx]; exact q_cell S 0 hS (by omega) w
  have c1 : ∀ w, fL_cell S 1 w = some (.inl (some (.int y0)), w) := fun w => by rw [← hy]; exact q_cell S 1 hS (by omega) w
  unfold fL_law
  rw [x_newO, c0, q_call, q_kI, c1, q_call, q_kI]
  show ∃ w, p_call (fW_init 0 x0 y0 ([.inr (0, [.null, .null, .null, .null, .null, .null, .null, .null, .null, .null, .int 0])], 1, 11)) _ = _ ∧ _
  rw [w_init, q_near_eq, q_near_eq]
  have hs1 : qS (w_1, 37, 4467) 1 1 1 (fun _ => 0) (fun _ => 0) (fun _ => 0) (fun _ => 0) (fun _ => 0) := ⟨rfl, rfl, rfl, rfl, rfl, rfl, fun _ => Or.inl rfl, fun _ => Or.inl rfl⟩
  obtain ⟨w2, sy', sp', g2, k2, r2, F2⟩ := hs1.restart (q_near x0) (q_near y0)
  rw [g2, q_call, q_kV, q_call, q_kV]
  have l2 : w2.1.length = 37 := by rw [F2.1]; rfl
  have n2 : w2.2 = (37, 4467) := F2.2.1
  obtain ⟨l, n, m⟩ := w2
  cases n2
  rw [x_newO, c0, q_call, q_kI, c1, q_call, q_kI]
  have l2' : l.length = 37 := l2
  rw [n_mod]
  rw [l2']
  have hM : qM (l ++ (.inr (10, m_obj 37 (q_near x0) (q_near y0)) :: m_row 0 0), 37 + 1 + 28, 4467 + 44 + 104056) (fun k => if k = 1 then q_near x0 else if k = 2 then q_near y0 else 0) (fun _ _ => 0) := by
    refine ⟨?_, fun k h1 h2 => ?_⟩
    · show (l ++ _)[37]? = _
      rw [List.getElem?_append_right (by omega), l2']
      rfl
    · show (l ++ _)[k]? = _
      rw [List.getElem?_append_right (by omega), l2', show k - 37 = (k - 38) + 1 by omega, List.getElem?_cons_succ, m_row_at _ (by omega), show 38 + (k - 38) = k by omega]
  obtain ⟨w4, z', g', g4, q4, r4, t4, F4⟩ := hM.clear
  rw [g4, q_call, q_kV, q_call, q_kV]
  have l4 : w4.1.length = 66 := by
    rw [F4.1]
    show (l ++ _).length = _
    rw [List.length_append, l2']
    rfl
  have old : ∀ x y, x < 37 → w_1[x]? = some y → (x < 1 ∨ 7 ≤ x) → w4.1[x]? = some y := fun x y hx hy ho => by
    rw [F4.2.2 x (by omega)]
    show (l ++ _)[x]? = _
    rw [List.getElem?_append_left (by omega)]
    show (l, 37, 4467).1[x]? = _
    rw [F2.2.2 x (by omega)]
    exact hy
  have new : ∀ x, 1 ≤ x → x < 7 → w4.1[x]? = (l, 37, 4467).1[x]? := fun x h1 h2 => by
    rw [F4.2.2 x (by omega)]
    show (l ++ _)[x]? = _
    rw [List.getElem?_append_left (by omega)]
  have n4 : w4.2 = (66, 108567) := F4.2.1
  obtain ⟨l5, n5, m5⟩ := w4
  cases n4
  unfold p_newJ
  rw [if_neg (by decide)]
  have l4' : l5.length = 66 := l4
  have ap : ∀ x y, (l5, 66, 108567).1[x]? = some y → (l5 ++ [.inl (3, (1 : Int32).toNatClampNeg, .inr (.inl fun _ => 0))] : List va_E)[x]? = some y := fun x y hy => by
    rw [List.getElem?_append_left (q_lt_len hy)]
    exact hy
  refine ⟨_, by rw [l4']; rfl, ?_, rfl, rfl, ?_⟩
  · show (l5 ++ _).length = 67
    rw [List.length_append, l4']
    rfl
  have o1 : ∀ x y, x < 37 → w_1[x]? = some y → (x < 1 ∨ 7 ≤ x) → (l5 ++ [.inl (3, (1 : Int32).toNatClampNeg, .inr (.inl fun _ => 0))] : List va_E)[x]? = some y := fun x y h1 h2 h3 => ap x y (old x y h1 h2 h3)
  have hB : ∀ a, a = 10 ∨ a = 12 ∨ a = 14 → qB (l5 ++ [.inl (3, (1 : Int32).toNatClampNeg, .inr (.inl fun _ => 0))], 66 + 1, 108567 + (1 : Int32).toNatClampNeg) a (a + 1) 20000 32 [] (fun _ => 0) := by
    rintro a (e | e | e) <;> subst e <;> exact ⟨o1 _ _ (by decide) rfl (by decide), o1 _ _ (by decide) rfl (by decide), by decide, by decide, Or.inl rfl, Or.inr (Or.inl rfl), by decide, fun _ => rfl, fun i hi => absurd hi (Nat.not_lt_zero i)⟩
  refine ⟨o1 _ _ (by decide) rfl (by decide), ?_, o1 _ _ (by decide) rfl (by decide), o1 _ _ (by decide) rfl (by decide), o1 _ _ (by decide) rfl (by decide), hB 10 (by decide), hB 12 (by decide), hB 14 (by decide), ?_, o1 _ _ (by decide) rfl (by decide), ?_, ?_, o1 _ _ (by decide) rfl (by decide), o1 _ _ (by decide) rfl (by decide), ?_, o1 _ _ (by decide) rfl (by decide), o1 _ _ (by decide) rfl (by decide), o1 _ _ (by decide) rfl (by decide), ?_, ?_⟩
  · refine ⟨_, _, _, k2.keep (fun x h1 h2 => ?_), rfl, r2⟩
    show (l5 ++ _)[x]? = _
    rw [List.getElem?_append_left (by omega)]
    exact new x h1 h2
  · exact ⟨o1 _ _ (by decide) rfl (by decide), o1 _ _ (by decide) rfl (by decide), o1 _ _ (by decide) rfl (by decide), o1 _ _ (by decide) rfl (by decide), o1 _ _ (by decide) rfl (by decide), o1 _ _ (by decide) rfl (by decide), fun _ => Or.inl rfl, fun _ => Or.inl rfl⟩
  · exact ⟨o1 _ _ (by decide) rfl (by decide), o1 _ _ (by decide) rfl (by decide), by decide, Or.inl rfl, fun i hi => absurd hi (Nat.not_lt_zero i)⟩
  · exact ⟨o1 _ _ (by decide) rfl (by decide), o1 _ _ (by decide) rfl (by decide), by decide, Or.inl rfl, fun i hi => absurd hi (Nat.not_lt_zero i)⟩
  · intro k h1 h2
    have : k = 29 ∨ k = 30 ∨ k = 31 ∨ k = 32 ∨ k = 33 := by omega
    rcases this with e | e | e | e | e <;> subst e <;> exact o1 _ _ (by decide) rfl (by decide)
  · refine ⟨z', g', q4.keep (fun x h1 h2 => ?_), r4, fun k => ?_⟩
    · show (l5 ++ _)[x]? = _
      rw [List.getElem?_append_left (by omega)]
    · rw [t4]
      grind
  · show (l5 ++ _)[66]? = _
    rw [List.getElem?_append_right (by omega), l4']
    rfl
