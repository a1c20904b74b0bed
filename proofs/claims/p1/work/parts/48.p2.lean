section
variable {w : PW} {z : Nat → Int32} {g : Nat → Nat → Int32}
/-- what begin leaves: t the table (0 or 125) -/
def q_bgn (g g' : Nat → Nat → Int32) (x y : Int32) (t : Nat) : Prop :=
  (∀ k, k ≠ 38 → k ≠ 39 → k ≠ 40 → k ≠ 41 → k ≠ 42 → g' k = g k) ∧
  (∀ j, g' 42 j = if j = (if t = 0 then 0 else 5) then x else if j = (if t = 0 then 1 else 6) then y else if j = (if t = 0 then 2 else 7) then 1 else if j = (if t = 0 then 3 else 8) then x else if j = (if t = 0 then 4 else 9) then y else g 42 j) ∧
  (∀ j, g' 41 j = if (if t = 0 then 0 else 4) ≤ j ∧ j < (if t = 0 then 4 else 8) then 8 else g 41 j) ∧
  (∀ j, g' 39 j = if t ≤ j ∧ j < t + 125 then (if j = t then 1 else 0) else g 39 j) ∧ (∀ j, g' 40 j = if t ≤ j ∧ j < t + 125 then (if j = t then 1 else 0) else g 40 j) ∧
  ∀ j, g' 38 j = if j = 11 * t + 4 then 0 else if j = 11 * t + 5 then 1 else if j = 11 * t + 6 then 5 else if j = 11 * t + 7 then 4 else if j = 11 * t + 8 then 1 else if j = 11 * t + 9 then 8 else if j = 11 * t + 10 then 2 else g 38 j
theorem q_bg2_ne (t : Int32) (k : Nat) (h1 : k ≠ 39) (h2 : k ≠ 40) : ∀ (n i : Nat) (g : Nat → Nat → Int32), q_bg2 g t n i k = g k
  | 0, i, g => rfl
  | n + 1, i, g => by rw [q_bg2, q_bg2_ne t k h1 h2 n, ug_ne _ _ _ h2, ug_ne _ _ _ h1]
theorem q_bg2_at (t : Nat) (ht : t ≤ 125) (j : Nat) : ∀ (n i : Nat) (g : Nat → Nat → Int32), i + n = 125 → q_bg2 g (Int32.ofNat t) n i 39 j = (if t + i ≤ j ∧ j < t + 125 then (if j = t then 1 else 0) else g 39 j) ∧ q_bg2 g (Int32.ofNat t) n i 40 j = (if t + i ≤ j ∧ j < t + 125 then (if j = t then 1 else 0) else g 40 j)
  | 0, i, g, hi => by
    rw [q_bg2, if_neg (by omega), if_neg (by omega)]
    exact ⟨rfl, rfl⟩
  | n + 1, i, g, hi => by
    have e : (Int32.ofNat t + Int32.ofNat i).toNatClampNeg = t + i := by
      rw [← Int32.ofNat_add, q_tno (by omega)]
    rw [q_bg2, e]
    obtain ⟨k1, k2⟩ := q_bg2_at t ht j n (i + 1) (ug (ug g 39 (t + i) (if i = 0 then 1 else 0)) 40 (t + i) (if i = 0 then 1 else 0)) (by omega)
    rw [k1, k2, ug_self, ug_ne _ _ _ (by decide : (39 : Nat) ≠ 40), ug_self, ug_ne _ _ _ (by decide : (40 : Nat) ≠ 39)]
    unfold upd
    constructor <;> grind
theorem q_bg3_ne (g : Nat → Nat → Int32) (t : Int32) (k : Nat) (h : k ≠ 38) : q_bg3 g t k = g k := by
  unfold q_bg3
  rw [ug_ne _ _ _ h, ug_ne _ _ _ h, ug_ne _ _ _ h, ug_ne _ _ _ h, ug_ne _ _ _ h, ug_ne _ _ _ h, ug_ne _ _ _ h]
theorem q_11 (t k : Nat) (ht : t ≤ 125) (hk : k ≤ 10) : (11 * Int32.ofNat t + Int32.ofNat k).toNatClampNeg = 11 * t + k := by
  rw [show (11 : Int32) * Int32.ofNat t = Int32.ofNat (11 * t) from (Int32.ofNat_mul 11 t).symm, ← Int32.ofNat_add, q_tno (by omega)]
theorem q_bg3_at (g : Nat → Nat → Int32) (t : Nat) (ht : t ≤ 125) (j : Nat) : q_bg3 g (Int32.ofNat t) 38 j = if j = 11 * t + 4 then 0 else if j = 11 * t + 5 then 1 else if j = 11 * t + 6 then 5 else if j = 11 * t + 7 then 4 else if j = 11 * t + 8 then 1 else if j = 11 * t + 9 then 8 else if j = 11 * t + 10 then 2 else g 38 j := by
  unfold q_bg3
  have e : ∀ k : Nat, k ≤ 10 → (11 * Int32.ofNat t + Int32.ofNat k).toNatClampNeg = 11 * t + k := fun k hk => q_11 t k ht hk
  rw [show (11 * Int32.ofNat t + 4).toNatClampNeg = 11 * t + 4 from e 4 (by omega), show (11 * Int32.ofNat t + 5).toNatClampNeg = 11 * t + 5 from e 5 (by omega), show (11 * Int32.ofNat t + 6).toNatClampNeg = 11 * t + 6 from e 6 (by omega), show (11 * Int32.ofNat t + 7).toNatClampNeg = 11 * t + 7 from e 7 (by omega), show (11 * Int32.ofNat t + 8).toNatClampNeg = 11 * t + 8 from e 8 (by omega), show (11 * Int32.ofNat t + 9).toNatClampNeg = 11 * t + 9 from e 9 (by omega), show (11 * Int32.ofNat t + 10).toNatClampNeg = 11 * t + 10 from e 10 (by omega)]
  simp only [ug_self]
  unfold upd
  grind
def q_bg1 (g : Nat → Nat → Int32) (d : Nat) : Nat → Nat → Nat → Nat → Int32
  | 0, _ => g
  | n + 1, i => q_bg1 (ug g 41 (d + i) 8) d n (i + 1)
theorem q_bg1_ne (d k : Nat) (h : k ≠ 41) : ∀ (n i : Nat) (g : Nat → Nat → Int32), q_bg1 g d n i k = g k
  | 0, i, g => rfl
  | n + 1, i, g => by rw [q_bg1, q_bg1_ne d k h n, ug_ne _ _ _ h]
theorem q_bg1_at (d j : Nat) : ∀ (n i : Nat) (g : Nat → Nat → Int32), i + n = 4 → q_bg1 g d n i 41 j = if d + i ≤ j ∧ j < d + 4 then 8 else g 41 j
  | 0, i, g, hi => by
    rw [q_bg1, if_neg (by omega)]
  | n + 1, i, g, hi => by
    rw [q_bg1, q_bg1_at d j n (i + 1) _ (by omega), ug_self]
    unfold upd
    grind
theorem qM.b67 (t : Nat) (ht : t = 0 ∨ t = 125) : ∀ (n i F : Nat) (w : PW) (g : Nat → Nat → Int32), qM w z g → n < F → i + n = 4 → ∃ w', fD_begin_67 F 37 (Int32.ofNat t) (if t = 0 then 0 else 5) (Int32.ofNat i) w = some (.inl none, w') ∧ qM w' z (q_bg3 (q_bg2 (q_bg1 g (if t = 0 then 0 else 4) n i) (Int32.ofNat t) 125 0) (Int32.ofNat t)) ∧ qI 37 66 w w'
  | 0, i, F + 1, w, g, h, _, hi => by
    have : i = 4 := by omega
    subst this
    rw [fD_begin_67, if_pos (by decide)]
    exact qM.b98 (Int32.ofNat t) (q_ge0 t (by omega)) ((q_le (m := t) (n := 125) (by omega) (by omega)).mpr (by omega)) 125 0 FUEL w g h (by decide) (by decide)
  | n + 1, i, F + 1, w, g, h, hF, hi => by
    have h1 : ¬ (4 : Int32) ≤ Int32.ofNat i := fun k => by
      have := (q_le (m := 4) (n := i) (by omega) (by omega)).mp k
      omega
    have i0 : 0 ≤ Int32.ofNat i := q_ge0 i (by omega)
    have i1 : Int32.ofNat i < 4 := (q_lt (m := i) (n := 4) (by omega) (by omega)).mpr (by omega)
    have e2 : Int32.ofNat i + 1 = Int32.ofNat (i + 1) := (Int32.ofNat_add i 1).symm
    rw [fD_begin_67, if_neg h1, h.R 6 41 rfl, Option.bind_some]
    have key : ∀ d : Nat, d = (if t = 0 then 0 else 4) → ∃ w', fD_begin_85 (fD_begin_67 F) 37 (Int32.ofNat t) (if t = 0 then 0 else 5) (Int32.ofNat i) (Int32.ofNat d) 41 w = some (.inl none, w') ∧ qM w' z (q_bg3 (q_bg2 (q_bg1 g (if t = 0 then 0 else 4) (n + 1) i) (Int32.ofNat t) 125 0) (Int32.ofNat t)) ∧ qI 37 66 w w' := by
      intro d hd
      have hd4 : d ≤ 4 := by rw [hd]; split <;> omega
      have e3 : Int32.ofNat d + Int32.ofNat i = Int32.ofNat (d + i) := (Int32.ofNat_add d i).symm
      unfold fD_begin_85
      rw [e3]
      obtain ⟨w1, g1, q1, F1⟩ := h.st 41 0 (Int32.ofNat (d + i)) 8 rfl (by omega) (by omega) (q_ge0 _ (by omega)) ((q_lt (m := d + i) (n := 8) (by omega) (by omega)).mpr (by omega)) (by decide)
      rw [g1, Option.bind_some]
      rw [q_tno (by omega)] at q1
      obtain ⟨w2, g2, q2, F2⟩ := qM.b67 t ht n (i + 1) F w1 _ q1 (by omega) (by omega)
      refine ⟨w2, ?_, ?_, F1.tr F2⟩
      · show fD_begin_67 F 37 (Int32.ofNat t) _ (Int32.ofNat i + 1) w1 = _
        rw [e2, ← g2]
      · rw [q_bg1, ← hd]
        rw [← hd] at q2
        exact q2
    rcases ht with e | e
    · subst e
      exact key 0 rfl
    · subst e
      exact key 4 rfl
theorem qM.b9 (h : qM w z g) (t s : Nat) (ht : t = 0 ∨ t = 125) (hs : s = if t = 0 then 0 else 5) : ∃ w' g', fD_begin_9 37 (Int32.ofNat t) (Int32.ofNat s) w = some (.inl none, w') ∧ qM w' z g' ∧ q_bgn g g' (z 1) (z 2) t ∧ qI 37 66 w w' := by
  unfold fD_begin_9
  have hs5 : s ≤ 5 := by rw [hs]; split <;> omega
  have e : ∀ k : Nat, k ≤ 4 → Int32.ofNat s + Int32.ofNat k = Int32.ofNat (s + k) := fun k _ => (Int32.ofNat_add s k).symm
  rw [show (1 : Int32) = Int32.ofNat 1 from rfl, show (2 : Int32) = Int32.ofNat 2 from rfl, show (3 : Int32) = Int32.ofNat 3 from rfl, show (4 : Int32) = Int32.ofNat 4 from rfl, e 1 (by omega), e 2 (by omega), e 3 (by omega), e 4 (by omega)]
  have b : ∀ k : Nat, k ≤ 4 → (0 ≤ Int32.ofNat (s + k) ∧ Int32.ofNat (s + k) < Int32.ofNat (mL 42)) := fun k hk => ⟨q_ge0 _ (by omega), (q_lt (m := s + k) (n := 10) (by omega) (by omega)).mpr (by omega)⟩
  have tn : ∀ k : Nat, k ≤ 4 → (Int32.ofNat (s + k)).toNatClampNeg = s + k := fun k hk => q_tno (by omega)
  rw [h.R 7 42 rfl, Option.bind_some, h.I 1 rfl, Option.bind_some]
  obtain ⟨w1, g1, q1, F1⟩ := h.st 42 0 (Int32.ofNat s) (z 1) rfl (by omega) (by omega) (b 0 (by omega)).1 (b 0 (by omega)).2 (by decide)
  rw [g1, Option.bind_some, q1.R 7 42 rfl, Option.bind_some, q1.I 2 rfl, Option.bind_some]
  obtain ⟨w2, g2, q2, F2⟩ := q1.st 42 0 (Int32.ofNat (s + 1)) (z 2) rfl (by omega) (by omega) (b 1 (by omega)).1 (b 1 (by omega)).2 (by decide)
  rw [g2, Option.bind_some, q2.R 7 42 rfl, Option.bind_some]
  obtain ⟨w3, g3, q3, F3⟩ := q2.st 42 0 (Int32.ofNat (s + 2)) (Int32.ofNat 1) rfl (by omega) (by omega) (b 2 (by omega)).1 (b 2 (by omega)).2 (by decide)
  rw [g3, Option.bind_some, q3.R 7 42 rfl, Option.bind_some, q3.I 1 rfl, Option.bind_some]
  obtain ⟨w4, g4, q4, F4⟩ := q3.st 42 0 (Int32.ofNat (s + 3)) (z 1) rfl (by omega) (by omega) (b 3 (by omega)).1 (b 3 (by omega)).2 (by decide)
  rw [g4, Option.bind_some, q4.R 7 42 rfl, Option.bind_some, q4.I 2 rfl, Option.bind_some]
  obtain ⟨w5, g5, q5, F5⟩ := q4.st 42 0 (Int32.ofNat (s + 4)) (z 2) rfl (by omega) (by omega) (b 4 (by omega)).1 (b 4 (by omega)).2 (by decide)
  rw [g5, Option.bind_some]
  obtain ⟨w6, g6, q6, F6⟩ := qM.b67 t ht 4 0 FUEL w5 _ q5 (by decide) (by decide)
  refine ⟨w6, _, ?_, q6, ?_, ((((F1.tr F2).tr F3).tr F4).tr F5).tr F6⟩
  · rw [← g6, hs]
    rcases ht with e | e <;> subst e <;> rfl
  · rw [tn 1 (by omega), tn 2 (by omega), tn 3 (by omega), tn 4 (by omega), show (Int32.ofNat s).toNatClampNeg = s from tn 0 (by omega)]
    refine ⟨fun k h1 h2 h3 h4 h5 => ?_, fun j => ?_, fun j => ?_, fun j => ?_, fun j => ?_, fun j => ?_⟩
    · rw [q_bg3_ne _ _ _ h1, q_bg2_ne _ _ h2 h3, q_bg1_ne _ _ h4, ug_ne _ _ _ h5, ug_ne _ _ _ h5, ug_ne _ _ _ h5, ug_ne _ _ _ h5, ug_ne _ _ _ h5]
    · rw [q_bg3_ne _ _ _ (by decide), q_bg2_ne _ _ (by decide) (by decide), q_bg1_ne _ _ (by decide)]
      simp only [ug_self]
      unfold upd
      rcases ht with e | e
      · subst e
        rw [hs]
        simp only [if_true]
        grind
      · subst e
        rw [hs]
        simp only [show ¬ (125 : Nat) = 0 by decide, if_false]
        grind
    · rw [q_bg3_ne _ _ _ (by decide), q_bg2_ne _ _ (by decide) (by decide), q_bg1_at _ _ _ _ _ (by omega)]
      rw [ug_ne _ _ _ (by decide), ug_ne _ _ _ (by decide), ug_ne _ _ _ (by decide), ug_ne _ _ _ (by decide), ug_ne _ _ _ (by decide)]
      rcases ht with e | e <;> subst e <;> rfl
    · rw [q_bg3_ne _ _ _ (by decide), (q_bg2_at t (by omega) j 125 0 _ (by omega)).1, q_bg1_ne _ _ (by decide)]
      rw [ug_ne _ _ _ (by decide), ug_ne _ _ _ (by decide), ug_ne _ _ _ (by decide), ug_ne _ _ _ (by decide), ug_ne _ _ _ (by decide)]
      rfl
    · rw [q_bg3_ne _ _ _ (by decide), (q_bg2_at t (by omega) j 125 0 _ (by omega)).2, q_bg1_ne _ _ (by decide)]
      rw [ug_ne _ _ _ (by decide), ug_ne _ _ _ (by decide), ug_ne _ _ _ (by decide), ug_ne _ _ _ (by decide), ug_ne _ _ _ (by decide)]
      rfl
    · rw [q_bg3_at _ _ (by omega), q_bg2_ne _ _ (by decide) (by decide), q_bg1_ne _ _ (by decide)]
      rw [ug_ne _ _ _ (by decide), ug_ne _ _ _ (by decide), ug_ne _ _ _ (by decide), ug_ne _ _ _ (by decide), ug_ne _ _ _ (by decide)]
theorem qM.begin (h : qM w z g) (t : Nat) (ht : t = 0 ∨ t = 125) : ∃ w' g', fD_begin 37 (Int32.ofNat t) w = some (.inl none, w') ∧ qM w' z g' ∧ q_bgn g g' (z 1) (z 2) t ∧ qI 37 66 w w' := by
  unfold fD_begin
  rcases ht with e | e
  · subst e
    exact h.b9 0 0 (Or.inl rfl) rfl
  · subst e
    exact h.b9 125 5 (Or.inr rfl) rfl
theorem qM.clear (h : qM w z g) : ∃ w' z' g', fD_clear 37 w = some (.inl none, w') ∧ qM w' z' g' ∧ q_bgn g g' (z 1) (z 2) 0 ∧ (∀ k, z' k = if k = 0 ∨ k = 8 ∨ k = 14 ∨ k = 20 ∨ k = 22 ∨ k = 25 ∨ k = 27 ∨ k = 30 then 0 else z k) ∧ qI 37 66 w w' := by
  unfold fD_clear
  obtain ⟨w1, g1, q1, F1⟩ := h.put 0 0 (by omega) rfl
  rw [g1, Option.bind_some, q1.obj, Option.bind_some]
  obtain ⟨w2, g', g2, q2, r2, F2⟩ := q1.begin 0 (Or.inl rfl)
  rw [show (0 : Int32) = Int32.ofNat 0 from rfl, g2, q_call, q_kV, show Int32.ofNat 0 = (0 : Int32) from rfl]
  obtain ⟨w3, g3, q3, F3⟩ := q2.put 8 0 (by omega) rfl
  rw [g3, Option.bind_some]
  obtain ⟨w4, g4, q4, F4⟩ := q3.put 14 0 (by omega) rfl
  rw [g4, Option.bind_some]
  obtain ⟨w5, g5, q5, F5⟩ := q4.put 20 0 (by omega) rfl
  rw [g5, Option.bind_some]
  obtain ⟨w6, g6, q6, F6⟩ := q5.put 22 0 (by omega) rfl
  rw [g6, Option.bind_some, if_neg (not_not_intro (Or.inl rfl))]
  obtain ⟨w7, g7, q7, F7⟩ := q6.put 25 0 (by omega) rfl
  rw [g7, Option.bind_some]
  obtain ⟨w8, g8, q8, F8⟩ := q7.put 27 0 (by omega) rfl
  rw [g8, Option.bind_some]
  obtain ⟨w9, g9, q9, F9⟩ := q8.put 30 0 (by omega) rfl
  rw [g9, Option.bind_some]
  refine ⟨w9, _, g', rfl, q9, r2, fun k => ?_, (((((((F1.tr F2).tr F3).tr F4).tr F5).tr F6).tr F7).tr F8).tr F9⟩
  unfold upd
  grind
end
