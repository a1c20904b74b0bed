/-- the start, in the words of the methods' rows -/
theorem q_near_b (x : Int32) : 1 ≤ (q_near x).toInt ∧ (q_near x).toInt ≤ 2000 := by
  have e1 : (1 : Int32).toInt = 1 := rfl
  have e2 : (2000 : Int32).toInt = 2000 := rfl
  unfold q_near
  by_cases h : 1 ≤ x
  · rw [if_pos h]
    rw [q_lei] at h
    by_cases h2 : x ≤ 2000
    · rw [if_pos h2]
      rw [q_lei] at h2
      omega
    · rw [if_neg h2]
      omega
  · rw [if_neg h]
    omega
theorem q_mi_self {x : Int} (h : 1 ≤ x) : q_mi x x = 1 := by
  unfold q_mi
  have h1 : 1 ≤ (x + x - 1) / x := (Int.le_ediv_iff_mul_le (by omega)).mpr (by omega)
  have h2 : (x + x - 1) / x < 2 := Int.ediv_lt_of_lt_mul (by omega) (by omega)
  omega
theorem q_rst_at (j : Nat) : q_rst (fun _ => 0) 7 4 j = if j = 0 then 0 else if j = 1 then 1 else if j = 2 then 5 else if j = 3 then 4 else if j = 4 then 1 else if j = 5 then 8 else if j = 6 then 2 else 0 := by
  have : q_rst (fun _ => 0) 7 4 = upd (upd (upd (upd (upd (upd (upd (fun _ => 0) 0 0) 1 1) 2 5) 3 4) 4 1) 5 8) 6 2 := rfl
  rw [this]
  unfold upd
  grind
theorem q_all8_at (j : Nat) : q_all8 (fun _ => 0) 4 0 j = if j < 4 then 8 else 0 := by
  have : q_all8 (fun _ => 0) 4 0 = upd (upd (upd (upd (fun _ => 0) 0 8) 1 8) 2 8) 3 8 := rfl
  rw [this]
  unfold upd
  grind
theorem q_st0_R {w : PW} {x y : Int32} (hx : 1 ≤ x.toInt ∧ x.toInt ≤ 2000) (hy : 1 ≤ y.toInt ∧ y.toInt ≤ 2000) {g : Nat → Nat → Int32} (hg : q_bgn (fun _ _ => 0) g x y 0) {sy sp : Nat → Int32} (hs : ∀ j, j < 125 → sy j = (if j = 0 then 1 else 0) ∧ sp j = (if j = 0 then 1 else 0)) : qR x y (upd (upd (upd (fun _ => 0) 0 x) 1 y) 2 1) (q_all8 (fun _ => 0) 4 0) (q_rst (fun _ => 0) 7 4) sy sp g := by
  obtain ⟨g1, g2, g3, g4, g5, g6⟩ := hg
  refine ⟨⟨?_, ?_, ?_, ?_, ?_⟩, fun i hi => ?_, fun s hs' => ?_, fun s k hs' h4 h10 => ?_, ?_, ?_⟩
  · rw [g2]; rfl
  · rw [g2]; rfl
  · rw [g2]; rfl
  · rw [g2]; rfl
  · rw [g2]; rfl
  · rw [q_all8_at, if_pos hi, g3]
    simp [hi]
  · rw [g4, g5, (hs s hs').1, (hs s hs').2]
    simp [hs']
  · rw [q_rst_at, g6]
    by_cases h0 : s = 0
    · subst h0
      have : k = 4 ∨ k = 5 ∨ k = 6 ∨ k = 7 ∨ k = 8 ∨ k = 9 ∨ k = 10 := by omega
      rcases this with e | e | e | e | e | e | e <;> subst e <;> rfl
    · have h7 : ∀ j, j ≤ 6 → ¬ 7 * s + k - 4 = j := fun j hj => by omega
      have h11 : ∀ j, j ≤ 10 → ¬ 11 * s + k = 11 * 0 + j := fun j hj => by omega
      rw [if_neg (h7 0 (by omega)), if_neg (h7 1 (by omega)), if_neg (h7 2 (by omega)), if_neg (h7 3 (by omega)), if_neg (h7 4 (by omega)), if_neg (h7 5 (by omega)), if_neg (h7 6 (by omega)), if_neg (h11 4 (by omega)), if_neg (h11 5 (by omega)), if_neg (h11 6 (by omega)), if_neg (h11 7 (by omega)), if_neg (h11 8 (by omega)), if_neg (h11 9 (by omega)), if_neg (h11 10 (by omega))]
  · show 1 ≤ x.toInt ∧ x.toInt ≤ 2000 ∧ 1 ≤ y.toInt ∧ y.toInt ≤ 2000 ∧ 1 ≤ (1 : Int32).toInt ∧ (1 : Int32).toInt ≤ 4 ∧ 1 ≤ x.toInt ∧ x.toInt ≤ 2000 ∧ 1 ≤ y.toInt ∧ y.toInt ≤ 2000
    have e1 : (1 : Int32).toInt = 1 := rfl
    omega
  · show q_mi x.toInt x.toInt * q_mi y.toInt y.toInt ≤ 24
    rw [q_mi_self hx.1, q_mi_self hy.1]
    decide
/-- the start for one call -/
def q_one (w : PW) (x y : Int32) (sy sp : Nat → Int32) (z : Nat → Int32) (g : Nat → Nat → Int32) : Prop :=
  qA0 w 0 x y (upd (upd (upd (fun _ => 0) 0 x) 1 y) 2 1) (q_all8 (fun _ => 0) 4 0) (q_rst (fun _ => 0) 7 4) sy sp (.retAddr 3) (.retAddr 3) [] [] 11 32 13 32 15 32 [] [] [] (fun _ => 0) (fun _ => 0) (fun _ => 0) 1 1 (fun _ => 0) (fun _ => 0) (fun _ => 0) (fun _ => 0) (fun _ => 0) (-1) 0 0 0 0 (fun _ _ => 0) 0 24 8 26 8 [] [] (fun _ => 0) (fun _ => 0) ∧
  qM w z g ∧ qR x y (upd (upd (upd (fun _ => 0) 0 x) 1 y) 2 1) (q_all8 (fun _ => 0) 4 0) (q_rst (fun _ => 0) 7 4) sy sp g ∧ (∀ k, z k = if k = 1 then x else if k = 2 then y else 0) ∧ w.1[66]? = some (.inl (3, 1, .inr (.inl fun _ => 0))) ∧ w.1.length = 67 ∧ w.2.1 = 67 ∧ w.2.2 = 108568
theorem q_one_of {w : PW} {x y : Int32} (hx : 1 ≤ x.toInt ∧ x.toInt ≤ 2000) (hy : 1 ≤ y.toInt ∧ y.toInt ≤ 2000) (h : q_st0 w x y) : ∃ sy sp z g, q_one w x y sy sp z g := by
  obtain ⟨l, c1, c2, h0, ⟨nm, sy, sp, hs, hnm, hsy⟩, h7, h8, h9, hb, hf, ht, hr, h22, hn4, hn6, h27, h28, h29, h34, h35, h36, ⟨z, g, hM, hg, hz⟩, h66⟩ := h
  subst hnm
  have hN : ∀ y : Nat, ¬ Value.ref y = .retAddr 3 := fun y hy => by cases hy
  have hD : qD 11 13 15 24 26 (.retAddr 3) (.retAddr 3) := by
    refine ⟨⟨Or.inl rfl, Or.inl rfl, Or.inl rfl, Or.inl rfl, Or.inl rfl⟩, ?_, ?_, ?_, ?_⟩
    · decide
    · exact fun y hy => absurd hy (hN y)
    · exact fun y hy => absurd hy (hN y)
    · exact fun y hy => absurd hy (hN y)
  refine ⟨sy, sp, z, g, ⟨h0, hs, ⟨0, h7, by simp, by simp, Or.inl ⟨rfl, rfl⟩⟩, ⟨0, h8, by simp, by simp, Or.inl ⟨rfl, rfl⟩⟩, h9, hb, hf, ht, hr, ⟨h22, hn4, hn6, h27, ⟨h28, fun k k1 k2 => ?_⟩, Or.inl rfl, Or.inl rfl, by decide⟩, hD⟩, hM, q_st0_R (w := w) hx hy hg hsy, hz, h66, l, c1, c2⟩
  by_cases e34 : k = 34
  · subst e34; exact h34
  · by_cases e35 : k = 35
    · subst e35; exact h35
    · by_cases e36 : k = 36
      · subst e36; exact h36
      · unfold rT rL
        rw [if_neg e34, if_neg e35, if_neg e36]
        exact h29 k k1 (by omega)
