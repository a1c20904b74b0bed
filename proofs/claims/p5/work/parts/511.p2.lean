/-- what reading segments leaves alone in the reference's rows -/
def gS (g g' : Nat → Nat → Int32) : Prop := (∀ k, k ≠ 38 → k ≠ 39 → k ≠ 40 → g' k = g k) ∧ (∀ i, i < 1375 → g' 38 i = g 38 i) ∧ (∀ i, i < 125 → g' 39 i = g 39 i ∧ g' 40 i = g 40 i) ∧ (g01 g → g01 g')
theorem gS.rf {g : Nat → Nat → Int32} : gS g g := ⟨fun _ _ _ _ => rfl, fun _ _ => rfl, fun _ _ => ⟨rfl, rfl⟩, id⟩
theorem gS.tr {g g' g'' : Nat → Nat → Int32} (h : gS g g') (k : gS g' g'') : gS g g'' := ⟨fun j a b c => (k.1 j a b c).trans (h.1 j a b c), fun i hi => (k.2.1 i hi).trans (h.2.1 i hi), fun i hi => ⟨(k.2.2.1 i hi).1.trans (h.2.2.1 i hi).1, (k.2.2.1 i hi).2.trans (h.2.2.1 i hi).2⟩, fun y => k.2.2.2 (h.2.2.2 y)⟩
theorem gS.u38 (g : Nat → Nat → Int32) (i : Nat) (v : Int32) (hi : 1375 ≤ i) : gS g (ug g 38 i v) := by
  refine ⟨fun k a b c => ug_ne g i v a, fun j hj => ?_, fun j hj => ⟨by rw [ug_ne g i v (by decide)], by rw [ug_ne g i v (by decide)]⟩, fun y j => by rw [ug_ne g i v (by decide), ug_ne g i v (by decide)]; exact y j⟩
  rw [ug_self]
  unfold upd
  rw [if_neg (by omega)]
theorem gS.u39 (g : Nat → Nat → Int32) (k i : Nat) (v : Int32) (hk : k = 39 ∨ k = 40) (hi : 125 ≤ i) (hv : v = 0 ∨ v = 1) : gS g (ug g k i v) := by
  refine ⟨fun j a b c => ug_ne g i v (by omega), fun j hj => by rw [ug_ne g i v (by omega)], fun j hj => ?_, g01.u g k i v hv⟩
  rcases hk with e | e <;> subst e
  · rw [ug_self, ug_ne g i v (by decide)]
    unfold upd
    rw [if_neg (by omega)]
    exact ⟨rfl, rfl⟩
  · rw [ug_self, ug_ne g i v (by decide)]
    unfold upd
    rw [if_neg (by omega)]
    exact ⟨rfl, rfl⟩
/-- one segment taken -/
def qSt (w : PW) (z : Nat → Int32) (g : Nat → Nat → Int32) (P kk : Nat) (C : Prop) (r : PX) : Prop := ∃ w' g' v, r = some (.inl (some (.int v)), w') ∧ qM w' z g' ∧ gS g g' ∧ qI 37 66 w w' ∧ (v = 0 ∨ v = 1) ∧ (v = 0 ↔ ¬ C) ∧ ∀ k, (k = 39 ∨ k = 40) → g' k = if k = kk ∧ v = 1 then upd (g k) P 1 else g k
section
variable {w : PW} {z : Nat → Int32} {g : Nat → Nat → Int32} {L : List Int32}
theorem qM.mputN (h : qM w z g) (P k : Nat) (v : Int32) (hP : 125 ≤ P) (hP2 : P < 250) (hk : k ≤ 10) : ∃ w' g', fD_put 37 (Int32.ofNat P) (Int32.ofNat k) v w = some (.inl none, w') ∧ qM w' z g' ∧ gS g g' ∧ g' 39 = g 39 ∧ g' 40 = g 40 ∧ qI 37 66 w w' := by
  have e : Int32.ofNat 11 * Int32.ofNat P + Int32.ofNat k = Int32.ofNat (11 * P + k) := by rw [Int32.ofNat_add, Int32.ofNat_mul]
  unfold fD_put
  rw [h.R 3 38 rfl, Option.bind_some, show (11 : Int32) * Int32.ofNat P + Int32.ofNat k = _ from e]
  obtain ⟨w', g1, q1, F1⟩ := h.stn 38 0 (11 * P + k) v rfl (by omega) (by omega) (by show _ < 2750; omega) (by decide)
  rw [g1]
  exact ⟨w', _, rfl, q1, gS.u38 g _ v (by omega), ug_ne g _ v (by decide), ug_ne g _ v (by decide), F1⟩
theorem qSt.no (h : qM w z g) {P kk : Nat} {C : Prop} (hC : ¬ C) : qSt w z g P kk C (p_retZ 0 w) := ⟨w, g, 0, rfl, h, gS.rf, qI.rf, Or.inl rfl, ⟨fun _ => hC, fun _ => rfl⟩, fun k hk => by rw [if_neg (fun e => absurd e.2 (by decide))]⟩
theorem qM.tStep (h : qM w z g) (hy : qY g 54 L) (hL : qby L) (hl : L.length ≤ 20000) (p P : Nat) (hp : p + 3 ≤ L.length) (hP : 125 ≤ P) (hP2 : P < 250) : qSt w z g P 40 (s_stp L p) (fD_takeStep 37 (Int32.ofNat p) (Int32.ofNat P) w) := by
  have n0 := nb_le hL p
  have n2 := nb2_lt hL (p + 1)
  have c1 : Int32.ofNat (nb L p % 32) = 1 ↔ nb L p % 32 = 1 := q_of32 (y := 1) (by omega) (by omega)
  have c2 : Int32.ofNat (nb2 L (p + 1) % 2048) = 0 ↔ nb2 L (p + 1) % 2048 = 0 := q_of32 (y := 0) (by omega) (by omega)
  unfold fD_takeStep
  rw [h.obj, Option.bind_some, show Int32.ofNat p + 1 = Int32.ofNat (p + 1) from (Int32.ofNat_add p 1).symm, h.two hy hL hl (p + 1) (by omega), q_call, q_kI, h.R 23 54 rfl, Option.bind_some, h.had hy hL hl p (by omega), Option.bind_some, q_rem32 _ n0, Option.bind_some]
  by_cases a1 : nb L p % 32 = 1
  · rw [if_neg (not_not_intro (c1.mpr a1)), show p_irem (Int32.ofNat (nb2 L (p + 1))) 2048 = _ from q_remn (d := 2048) n2 rfl, Option.bind_some]
    by_cases a2 : nb2 L (p + 1) % 2048 = 0
    · rw [if_pos (c2.mpr a2), Option.bind_some, h.had hy hL hl p (by omega), Option.bind_some, q_div32 _ n0, Option.bind_some, h.obj, Option.bind_some]
      obtain ⟨w1, g1, e1, q1, S1, x1, y1, F1⟩ := h.mputN P 10 (Int32.ofNat (nb L p / 32)) hP hP2 (by omega)
      rw [show fD_put 37 (Int32.ofNat P) 10 _ w = _ from e1, q_call, q_kV]
      obtain ⟨u, hu⟩ : ∃ u, p_idiv (Int32.ofNat (nb2 L (p + 1))) 2048 = some u := ⟨_, if_neg (by decide)⟩
      obtain ⟨w2, g2, e2, q2, S2, x2, y2, F2⟩ := q1.mputN P 9 u hP hP2 (by omega)
      rw [hu, Option.bind_some, q1.obj, Option.bind_some, show fD_put 37 (Int32.ofNat P) 9 _ w1 = _ from e2, q_call, q_kV, q2.R 5 40 rfl, Option.bind_some, q_nar1]
      obtain ⟨w3, e3, q3, F3⟩ := q2.stn 40 2 P 1 rfl (by omega) (by omega) (by show _ < 250; omega) (by decide)
      rw [e3, Option.bind_some]
      refine ⟨w3, _, 1, rfl, q3, (S1.tr S2).tr (gS.u39 _ 40 P 1 (Or.inr rfl) hP (Or.inr rfl)), (F1.tr F2).tr F3, Or.inr rfl, ⟨fun e => absurd e (by decide), fun e => absurd ⟨a1, a2⟩ e⟩, fun k hk => ?_⟩
      rcases hk with e | e <;> subst e
      · rw [ug_ne _ _ _ (by decide), x2, x1, if_neg (fun e => absurd e.1 (by decide))]
      · rw [ug_self, y2, y1, if_pos ⟨rfl, rfl⟩]
    · rw [if_neg (fun y => a2 (c2.mp y))]
      exact qSt.no h (fun y => a2 y.2)
  · rw [if_pos (fun y => a1 (c1.mp y))]
    exact qSt.no h (fun y => a1 y.1)
theorem qM.t174 (h : qM w z g) (hy : qY g 54 L) (hL : qby L) (hl : L.length ≤ 20000) (p P : Nat) (hp : p + 5 ≤ L.length) (hP : 125 ≤ P) (hP2 : P < 250) : ∃ w' g', fD_takeStyle_174 37 (Int32.ofNat P) (Int32.ofNat p) w = some (.inl (some (.int 1)), w') ∧ qM w' z g' ∧ gS g g' ∧ qI 37 66 w w' ∧ g' 39 = upd (g 39) P 1 ∧ g' 40 = g 40 := by
  have n1 := nb_le hL (p + 1)
  unfold fD_takeStyle_174
  rw [h.R 23 54 rfl, Option.bind_some, h.had hy hL hl p (by omega), Option.bind_some, h.obj, Option.bind_some]
  obtain ⟨w1, g1, e1, q1, S1, x1, y1, F1⟩ := h.mputN P 6 (Int32.ofNat (nb L p)) hP hP2 (by omega)
  have hy1 : qY g1 54 L := fun i hi => by rw [S1.1 54 (by decide) (by decide) (by decide)]; exact hy i hi
  rw [show fD_put 37 (Int32.ofNat P) 6 _ w = _ from e1, q_call, q_kV, q1.R 23 54 rfl, Option.bind_some, show Int32.ofNat p + 1 = Int32.ofNat (p + 1) from (Int32.ofNat_add p 1).symm, q1.had hy1 hL hl (p + 1) (by omega), Option.bind_some, q1.obj, Option.bind_some]
  obtain ⟨w2, g2, e2, q2, S2, x2, y2, F2⟩ := q1.mputN P 7 (Int32.ofNat (nb L (p + 1)) + 2) hP hP2 (by omega)
  have hy2 : qY g2 54 L := fun i hi => by rw [S2.1 54 (by decide) (by decide) (by decide)]; exact hy1 i hi
  rw [show fD_put 37 (Int32.ofNat P) 7 _ w1 = _ from e2, q_call, q_kV, q2.R 23 54 rfl, Option.bind_some, show Int32.ofNat p + 4 = Int32.ofNat (p + 4) from (Int32.ofNat_add p 4).symm, q2.had hy2 hL hl (p + 4) (by omega), Option.bind_some, q2.obj, Option.bind_some]
  obtain ⟨w3, g3, e3, q3, S3, x3, y3, F3⟩ := q2.mputN P 8 (Int32.ofNat (nb L (p + 4))) hP hP2 (by omega)
  rw [show fD_put 37 (Int32.ofNat P) 8 _ w2 = _ from e3, q_call, q_kV, q3.R 4 39 rfl, Option.bind_some, q_nar1]
  obtain ⟨w4, e4, q4, F4⟩ := q3.stn 39 2 P 1 rfl (by omega) (by omega) (by show _ < 250; omega) (by decide)
  rw [e4, Option.bind_some]
  refine ⟨w4, _, rfl, q4, ((S1.tr S2).tr S3).tr (gS.u39 _ 39 P 1 (Or.inl rfl) hP (Or.inr rfl)), ((F1.tr F2).tr F3).tr F4, ?_, ?_⟩
  · rw [ug_self, x3, x2, x1]
  · rw [ug_ne _ _ _ (by decide), y3, y2, y1]
/-- the style's bytes behind its first -/
def s_st5 (L : List Int32) (q : Nat) : Prop := nb L (q + 1) ≤ 5 ∧ nb L (q + 2) ≤ 4 ∧ nb L (q + 3) = nb L (q + 2) ∧ nb L (q + 4) = 0 ∧ nb L (q + 5) ≤ 1
theorem qM.t68 (h : qM w z g) (hy : qY g 54 L) (hL : qby L) (hl : L.length ≤ 20000) (fr q P : Nat) (al : Bool) (hp : q + 6 ≤ L.length) (hf : fr ≤ q) (hP : 125 ≤ P) (hP2 : P < 250) : qSt w z g P 39 (s_st5 L q) (fD_takeStyle_68 37 (Int32.ofNat fr) (Int32.ofNat P) (if al = true then 1 else 0) (Int32.ofNat q) w) := by
  have n1 := nb_le hL (q + 1)
  have n2 := nb_le hL (q + 2)
  have n3 := nb_le hL (q + 3)
  have n4 := nb_le hL (q + 4)
  have n5 := nb_le hL (q + 5)
  have c1 : (5 : Int32) < Int32.ofNat (nb L (q + 1)) ↔ 5 < nb L (q + 1) := q_lt (m := 5) (by omega) (by omega)
  have c2 : (4 : Int32) < Int32.ofNat (nb L (q + 2)) ↔ 4 < nb L (q + 2) := q_lt (m := 4) (by omega) (by omega)
  have c3 : Int32.ofNat (nb L (q + 3)) = Int32.ofNat (nb L (q + 2)) ↔ nb L (q + 3) = nb L (q + 2) := q_of32 (by omega) (by omega)
  have c4 : Int32.ofNat (nb L (q + 4)) = 0 ↔ nb L (q + 4) = 0 := q_of32 (y := 0) (by omega) (by omega)
  have c5 : Int32.ofNat (nb L (q + 5)) ≤ 1 ↔ nb L (q + 5) ≤ 1 := q_of_le (n := 1) (by omega) (by omega)
  have e : ∀ i : Nat, Int32.ofNat (q + 1) + Int32.ofNat i = Int32.ofNat (q + 1 + i) := fun i => (Int32.ofNat_add _ _).symm
  have r := h.R 23 54 rfl
  unfold fD_takeStyle_68
  rw [show Int32.ofNat q + 1 = Int32.ofNat (q + 1) from (Int32.ofNat_add q 1).symm, q_let, r, Option.bind_some, h.had hy hL hl (q + 1) (by omega), Option.bind_some, Option.bind_some, show Int32.ofNat (q + 1) + 1 = Int32.ofNat (q + 2) from e 1, h.had hy hL hl (q + 2) (by omega), Option.bind_some, Option.bind_some, show Int32.ofNat (q + 1) + 2 = Int32.ofNat (q + 3) from e 2, h.had hy hL hl (q + 3) (by omega), Option.bind_some, Option.bind_some, Option.bind_some, Option.bind_some, show Int32.ofNat (q + 1) + 3 = Int32.ofNat (q + 4) from e 3, h.had hy hL hl (q + 4) (by omega), Option.bind_some, Option.bind_some, show Int32.ofNat (q + 1) + 4 = Int32.ofNat (q + 5) from e 4, h.had hy hL hl (q + 5) (by omega), Option.bind_some, h.had hy hL hl (q + 2) (by omega), Option.bind_some]
  by_cases a1 : 5 < nb L (q + 1)
  · rw [if_pos (c1.mpr a1)]
    exact qSt.no h (fun y => by have := y.1; omega)
  · rw [if_neg (fun y => a1 (c1.mp y))]
    by_cases a2 : 4 < nb L (q + 2)
    · rw [if_pos (c2.mpr a2)]
      exact qSt.no h (fun y => by have := y.2.1; omega)
    · rw [if_neg (fun y => a2 (c2.mp y))]
      by_cases a3 : nb L (q + 3) = nb L (q + 2)
      · rw [if_neg (not_not_intro (c3.mpr a3))]
        by_cases a4 : nb L (q + 4) = 0
        · rw [if_neg (not_not_intro (c4.mpr a4))]
          by_cases a5 : nb L (q + 5) ≤ 1
          · rw [if_pos (c5.mpr a5)]
            have hC : s_st5 L q := ⟨by omega, by omega, a3, a4, a5⟩
            have fin : ∀ (w0 : PW) (g0 : Nat → Nat → Int32), qM w0 z g0 → qY g0 54 L → gS g g0 → qI 37 66 w w0 → g0 39 = g 39 → g0 40 = g 40 → qSt w z g P 39 (s_st5 L q) (fD_takeStyle_174 37 (Int32.ofNat P) (Int32.ofNat (q + 1)) w0) := by
              intro w0 g0 m0 y0 s0 f0 x0 x1
              obtain ⟨w1, g1, e1, q1, S1, F1, x2, x3⟩ := m0.t174 y0 hL hl (q + 1) P (by omega) hP hP2
              refine ⟨w1, g1, 1, e1, q1, s0.tr S1, f0.tr F1, Or.inr rfl, ⟨fun e => absurd e (by decide), fun e => absurd hC e⟩, fun k hk => ?_⟩
              rcases hk with e | e <;> subst e
              · rw [x2, x0, if_pos ⟨rfl, rfl⟩]
              · rw [x3, x1, if_neg (fun e => absurd e.1 (by decide))]
            cases al
            · rw [if_pos (show (if false = true then (1 : Int32) else 0) = 0 from rfl)]
              exact fin w g h hy gS.rf qI.rf rfl rfl
            · rw [if_neg (show ¬ (if true = true then (1 : Int32) else 0) = 0 by decide), show Int32.ofNat fr + 1 = Int32.ofNat (fr + 1) from (Int32.ofNat_add fr 1).symm, h.had hy hL hl (fr + 1) (by omega), Option.bind_some, h.obj, Option.bind_some]
              obtain ⟨w1, g1, e1, q1, S1, x1, y1, F1⟩ := h.mputN P 4 (Int32.ofNat (nb L (fr + 1))) hP hP2 (by omega)
              have hy1 : qY g1 54 L := fun i hi => by rw [S1.1 54 (by decide) (by decide) (by decide)]; exact hy i hi
              rw [show fD_put 37 (Int32.ofNat P) 4 _ w = _ from e1, q_call, q_kV, q1.obj, Option.bind_some, show Int32.ofNat fr + 2 = Int32.ofNat (fr + 2) from (Int32.ofNat_add fr 2).symm, q1.two hy1 hL hl (fr + 2) (by omega), q_call, q_kI, q1.obj, Option.bind_some]
              obtain ⟨w2, g2, e2, q2, S2, x2, y2, F2⟩ := q1.mputN P 5 (Int32.ofNat (nb2 L (fr + 2))) hP hP2 (by omega)
              have hy2 : qY g2 54 L := fun i hi => by rw [S2.1 54 (by decide) (by decide) (by decide)]; exact hy1 i hi
              rw [show fD_put 37 (Int32.ofNat P) 5 _ w1 = _ from e2, q_call, q_kV]
              exact fin w2 g2 q2 hy2 (S1.tr S2) (F1.tr F2) (x2.trans x1) (y2.trans y1)
          · rw [if_neg (fun y => a5 (c5.mp y))]
            exact qSt.no h (fun y => a5 y.2.2.2.2)
        · rw [if_pos (fun y => a4 (c4.mp y))]
          exact qSt.no h (fun y => a4 y.2.2.2.1)
      · rw [if_pos (fun y => a3 (c3.mp y))]
        exact qSt.no h (fun y => a3 y.2.2.1)
end
theorem q_retZ01 {v : Int32} (h : v = 0 ∨ v = 1) (w : PW) : p_retZ v w = some (.inl (some (.int v)), w) := if_pos h
section
variable {w : PW} {z : Nat → Int32} {g : Nat → Nat → Int32} {L : List Int32}
theorem qSt.iff {P kk : Nat} {C D : Prop} {r : PX} (h : qSt w z g P kk C r) (e : C ↔ D) : qSt w z g P kk D r := by
  obtain ⟨w', g', v, h1, h2, h3, h4, h5, h6, h7⟩ := h
  exact ⟨w', g', v, h1, h2, h3, h4, h5, by rw [h6, e], h7⟩
theorem qM.tStyle (h : qM w z g) (hy : qY g 54 L) (hL : qby L) (hl : L.length ≤ 20000) (fr P : Nat) (al : Bool) (hp : fr + (if al = true then 10 else 6) ≤ L.length) (hP : 125 ≤ P) (hP2 : P < 250) : qSt w z g P 39 (nb L fr = 0 ∧ (if al = true then (nb L (fr + 1) ≤ 4 ∧ 1 ≤ nb2 L (fr + 2) ∧ nb2 L (fr + 2) ≤ 1000 ∧ nb L (fr + 4) = 0 ∧ s_st5 L (fr + 4)) else s_st5 L fr)) (fD_takeStyle 37 (Int32.ofNat fr) (Int32.ofNat P) (if al = true then 1 else 0) w) := by
  have n0 := nb_le hL fr
  have n1 := nb_le hL (fr + 1)
  have n2 := nb2_lt hL (fr + 2)
  have n4 := nb_le hL (fr + 4)
  have c0 : Int32.ofNat (nb L fr) = 0 ↔ nb L fr = 0 := q_of32 (y := 0) (by omega) (by omega)
  have c1 : (4 : Int32) < Int32.ofNat (nb L (fr + 1)) ↔ 4 < nb L (fr + 1) := q_lt (m := 4) (by omega) (by omega)
  have c4 : Int32.ofNat (nb L (fr + 4)) = 0 ↔ nb L (fr + 4) = 0 := q_of32 (y := 0) (by omega) (by omega)
  have r := h.R 23 54 rfl
  have hf0 : fr < L.length := by cases al <;> simp at hp <;> omega
  unfold fD_takeStyle
  rw [r, Option.bind_some, h.had hy hL hl fr hf0, Option.bind_some]
  by_cases a0 : nb L fr = 0
  · rw [if_pos (c0.mpr a0)]
    cases al
    · rw [if_pos (show (if false = true then (1 : Int32) else 0) = 0 from rfl)]
      exact (h.t68 hy hL hl fr fr P false (by simpa using hp) (Nat.le_refl _) hP hP2).iff ⟨fun y => ⟨a0, y⟩, fun y => y.2⟩
    · have hp' : fr + 10 ≤ L.length := hp
      rw [if_neg (show ¬ (if true = true then (1 : Int32) else 0) = 0 by decide), Option.bind_some, show Int32.ofNat fr + 1 = Int32.ofNat (fr + 1) from (Int32.ofNat_add fr 1).symm, h.had hy hL hl (fr + 1) (by omega), Option.bind_some]
      by_cases a1 : 4 < nb L (fr + 1)
      · rw [if_pos (c1.mpr a1)]
        exact qSt.no h (fun y => by have := y.2.1; omega)
      · rw [if_neg (fun y => a1 (c1.mp y)), h.obj, Option.bind_some, show Int32.ofNat fr + 2 = Int32.ofNat (fr + 2) from (Int32.ofNat_add fr 2).symm, h.two hy hL hl (fr + 2) (by omega), q_call, q_kI, q_in, q_call, q_kI, q_64, q_ofi (by omega)]
        have i1 : (1 : Int64).toInt = 1 := rfl
        have i2 : (1000 : Int64).toInt = 1000 := rfl
        rw [i1, i2]
        by_cases a2 : 1 ≤ nb2 L (fr + 2) ∧ nb2 L (fr + 2) ≤ 1000
        · rw [if_pos (show (1 : Int) ≤ (nb2 L (fr + 2) : Int) ∧ (nb2 L (fr + 2) : Int) ≤ 1000 by omega), if_neg (show ¬ (1 : Int32) = 0 by decide), h.R 23 54 rfl, Option.bind_some, show Int32.ofNat fr + 4 = Int32.ofNat (fr + 4) from (Int32.ofNat_add fr 4).symm, h.had hy hL hl (fr + 4) (by omega), Option.bind_some]
          by_cases a4 : nb L (fr + 4) = 0
          · rw [if_pos (c4.mpr a4), q_let]
            exact (h.t68 hy hL hl fr (fr + 4) P true (by omega) (by omega) hP hP2).iff ⟨fun y => ⟨a0, by omega, a2.1, a2.2, a4, y⟩, fun y => y.2.2.2.2.2⟩
          · rw [if_neg (fun y => a4 (c4.mp y))]
            exact qSt.no h (fun y => a4 y.2.2.2.2.1)
        · rw [if_neg (show ¬ ((1 : Int) ≤ (nb2 L (fr + 2) : Int) ∧ (nb2 L (fr + 2) : Int) ≤ 1000) by omega), if_pos rfl]
          exact qSt.no h (fun y => a2 ⟨y.2.2.1, y.2.2.2.1⟩)
  · rw [if_neg (fun y => a0 (c0.mp y))]
    exact qSt.no h (fun y => a0 y.1)
/-- a segment taken, or not -/
def qSg (w : PW) (z : Nat → Int32) (g : Nat → Nat → Int32) (L : List Int32) (T many p : Nat) (r : PX) : Prop := ∃ w' g' v, r = some (.inl (some (.int v)), w') ∧ qM w' z g' ∧ gS g g' ∧ qI 37 66 w w' ∧ (v = 0 ∨ v = 1) ∧ (v = 0 ↔ ¬ s_sgm L many p (p + 2 + nb2 L (p + 2))) ∧ (v = 1 → T = 0 → g' 39 125 = (if nb L (p + 1) = 82 then 1 else g 39 125) ∧ g' 40 125 = (if nb L (p + 1) = 92 then 1 else g 40 125))
theorem qSg.no (h : qM w z g) {T many p : Nat} (hC : ¬ s_sgm L many p (p + 2 + nb2 L (p + 2))) : qSg w z g L T many p (p_retZ 0 w) := ⟨w, g, 0, rfl, h, gS.rf, qI.rf, Or.inl rfl, ⟨fun _ => hC, fun _ => rfl⟩, fun e => absurd e (by decide)⟩
theorem qSt.sg {P kk T many p : Nat} {C : Prop} {r : PX} (h : qSt w z g P kk C r) (e : C ↔ s_sgm L many p (p + 2 + nb2 L (p + 2))) (hk : T = 0 → (kk = 39 ∧ P = 125 ∧ nb L (p + 1) = 82) ∨ (kk = 40 ∧ P = 125 ∧ nb L (p + 1) = 92) ∨ (P ≠ 125 ∧ nb L (p + 1) ≠ 82 ∧ nb L (p + 1) ≠ 92)) : qSg w z g L T many p (p_call r (p_kI fun v w' => p_retZ v w')) := by
  obtain ⟨w', g', v, h1, h2, h3, h4, h5, h6, h7⟩ := h
  rw [h1, q_call, q_kI, q_retZ01 h5]
  refine ⟨w', g', v, rfl, h2, h3, h4, h5, by rw [h6, e], fun hv hT => ?_⟩
  rw [h7 39 (Or.inl rfl), h7 40 (Or.inr rfl)]
  rcases hk hT with ⟨a, b, c⟩ | ⟨a, b, c⟩ | ⟨a, b, c⟩
  · subst a b
    rw [if_pos (show 39 = 39 ∧ v = 1 from ⟨rfl, hv⟩), if_neg (show ¬ (40 = 39 ∧ v = 1) from fun y => absurd y.1 (by decide)), c]
    exact ⟨by unfold upd; rw [if_pos rfl, if_pos rfl], by rw [if_neg (by decide)]⟩
  · subst a b
    rw [if_neg (show ¬ (39 = 40 ∧ v = 1) from fun y => absurd y.1 (by decide)), if_pos (show 40 = 40 ∧ v = 1 from ⟨rfl, hv⟩), c]
    exact ⟨by rw [if_neg (by decide)], by unfold upd; rw [if_pos rfl, if_pos rfl]⟩
  · rw [if_neg b, if_neg c]
    constructor
    · by_cases y : 39 = kk ∧ v = 1
      · rw [if_pos y]
        unfold upd
        rw [if_neg (by omega)]
      · rw [if_neg y]
    · by_cases y : 40 = kk ∧ v = 1
      · rw [if_pos y]
        unfold upd
        rw [if_neg (by omega)]
      · rw [if_neg y]
theorem q_plN {t : Int32} {T : Nat} (ht : t + 1 = Int32.ofNat T) (c : Nat) : (125 : Int32) + q_pl t (Int32.ofNat c) = Int32.ofNat (125 + 5 * T + c + 1) := by
  unfold q_pl
  rw [ht]
  have e1 : (5 : Int32) * Int32.ofNat T = Int32.ofNat (5 * T) := (Int32.ofNat_mul 5 T).symm
  rw [e1, ← Int32.ofNat_add, show Int32.ofNat (5 * T + c) + 1 = Int32.ofNat (5 * T + c + 1) from (Int32.ofNat_add _ 1).symm, show (125 : Int32) + Int32.ofNat (5 * T + c + 1) = Int32.ofNat (125 + (5 * T + c + 1)) from (Int32.ofNat_add 125 _).symm]
  congr 1
  omega
theorem q_plN1 {t : Int32} {T : Nat} (ht : t + 1 = Int32.ofNat T) : (125 : Int32) + q_pl t (-1) = Int32.ofNat (125 + 5 * T) := by
  unfold q_pl
  rw [ht]
  have e1 : (5 : Int32) * Int32.ofNat T = Int32.ofNat (5 * T) := (Int32.ofNat_mul 5 T).symm
  rw [e1, show (125 : Int32) + (Int32.ofNat (5 * T) + -1 + 1) = 125 + Int32.ofNat (5 * T) by grind]
  exact (Int32.ofNat_add 125 _).symm
theorem s_sgm82 {many p x : Nat} (hm : nb L (p + 1) = 82) : s_sgm L many p x ↔ x = p + 14 ∧ s_sta L p ∧ s_sty L (p + 8) := ⟨fun y => y.1 hm, fun y => ⟨fun _ => y, fun e => by omega, fun e => by omega, fun e => by omega⟩⟩
theorem s_sgm83 {many p x : Nat} (hm : nb L (p + 1) = 83) : s_sgm L many p x ↔ x = p + 11 ∧ nb L (p + 4) < many ∧ s_sty L (p + 5) := ⟨fun y => y.2.1 hm, fun y => ⟨fun e => by omega, fun _ => y, fun e => by omega, fun e => by omega⟩⟩
theorem s_sgm92 {many p x : Nat} (hm : nb L (p + 1) = 92) : s_sgm L many p x ↔ x = p + 7 ∧ s_stp L (p + 4) := ⟨fun y => y.2.2.1 hm, fun y => ⟨fun e => by omega, fun e => by omega, fun _ => y, fun e => by omega⟩⟩
theorem s_sgm93 {many p x : Nat} (hm : nb L (p + 1) = 93) : s_sgm L many p x ↔ x = p + 8 ∧ nb L (p + 4) < many ∧ s_stp L (p + 5) := ⟨fun y => y.2.2.2 hm, fun y => ⟨fun e => by omega, fun e => by omega, fun e => by omega, fun _ => y⟩⟩
theorem qM.tSeg (h : qM w z g) (hy : qY g 54 L) (hL : qby L) (hl : L.length ≤ 20000) (p T many : Nat) (t : Int32) (ht : t + 1 = Int32.ofNat T) (hT : T ≤ 24) (hm : g 42 7 = Int32.ofNat many) (hm4 : many ≤ 4) (hp : p + 4 ≤ L.length) (hx : p + 2 + nb2 L (p + 2) ≤ L.length) (hmk : nb L (p + 1) = 82 ∨ nb L (p + 1) = 83 ∨ nb L (p + 1) = 92 ∨ nb L (p + 1) = 93) : qSg w z g L T many p (fD_takeSegment 37 (Int32.ofNat p) t w) := by
  have n1 := nb_le hL (p + 1)
  have n2 := nb2_lt hL (p + 2)
  have n4 := nb_le hL (p + 4)
  have cz : ∀ k : Nat, k < 1000 → (Int32.ofNat (nb2 L (p + 2)) = Int32.ofNat k ↔ nb2 L (p + 2) = k) := fun k hk => q_of32 (by omega) (by omega)
  have r := h.R 23 54 rfl
  have l7 : p_ald w 42 0 7 = some (Int32.ofNat many) := by
    rw [← hm]
    exact h.ldn 42 0 7 rfl (by omega) (by omega) (by decide) (by decide)
  have cm : Int32.ofNat (nb L (p + 4)) < Int32.ofNat many ↔ nb L (p + 4) < many := q_lt (by omega) (by omega)
  unfold fD_takeSegment
  rw [r, Option.bind_some, show Int32.ofNat p + 1 = Int32.ofNat (p + 1) from (Int32.ofNat_add p 1).symm, h.had hy hL hl (p + 1) (by omega), Option.bind_some, h.obj, Option.bind_some, show Int32.ofNat p + 2 = Int32.ofNat (p + 2) from (Int32.ofNat_add p 2).symm, h.two hy hL hl (p + 2) (by omega), q_call, q_kI, show Int32.ofNat p + 4 = Int32.ofNat (p + 4) from (Int32.ofNat_add p 4).symm, q_let]
  -- the rest, for one with a component
  have oth : ∀ (mk sz : Nat), nb L (p + 1) = mk → (mk = 83 ∧ sz = 9 ∨ mk = 93 ∧ sz = 6) → qSg w z g L T many p (fD_takeSegment_78 37 t (Int32.ofNat mk) (Int32.ofNat (p + 4)) 0 (Int32.ofNat sz) (Int32.ofNat (nb2 L (p + 2))) w) := by
    intro mk sz hmk' hs
    unfold fD_takeSegment_78
    by_cases a1 : nb2 L (p + 2) = sz
    · rw [if_neg (not_not_intro ((cz sz (by omega)).mpr a1)), if_neg (not_not_intro rfl), r, Option.bind_some, h.had hy hL hl (p + 4) (by omega), Option.bind_some, h.R 7 42 rfl, Option.bind_some, l7, Option.bind_some]
      by_cases a2 : nb L (p + 4) < many
      · rw [if_pos (cm.mpr a2)]
        unfold fD_takeSegment_105
        rw [if_pos rfl, r, Option.bind_some, h.had hy hL hl (p + 4) (by omega), Option.bind_some]
        unfold fD_takeSegment_124
        rw [q_placeOf, q_call, q_kI, q_let, if_pos rfl, q_plN ht]
        unfold fD_takeSegment_142
        rw [show Int32.ofNat (p + 4) + 1 = Int32.ofNat (p + 5) from (Int32.ofNat_add (p + 4) 1).symm, q_let]
        have c90 : Int32.ofNat mk ≤ 90 ↔ mk ≤ 90 := q_of_le (n := 90) (by omega) (by omega)
        rcases hs with ⟨e1, e2⟩ | ⟨e1, e2⟩
        · rw [if_pos (c90.mpr (by omega)), h.obj, Option.bind_some]
          refine (h.tStyle hy hL hl (p + 5) (125 + 5 * T + nb L (p + 4) + 1) false (by show p + 5 + 6 ≤ _; omega) (by omega) (by omega)).sg ?_ (fun hT0 => Or.inr (Or.inr ⟨by omega, by omega, by omega⟩))
          rw [if_neg (by decide), s_sgm83 (by omega)]
          unfold s_sty s_st5
          constructor
          · rintro ⟨b0, b1, b2, b3, b4, b5⟩
            exact ⟨by omega, a2, b0, b3, b4, b1, b2, b5⟩
          · rintro ⟨-, -, b0, b3, b4, b1, b2, b5⟩
            exact ⟨b0, b1, b2, b3, b4, b5⟩
        · rw [if_neg (fun y => by have := c90.mp y; omega), h.obj, Option.bind_some]
          refine (h.tStep hy hL hl (p + 5) (125 + 5 * T + nb L (p + 4) + 1) (by omega) (by omega) (by omega)).sg ?_ (fun hT0 => Or.inr (Or.inr ⟨by omega, by omega, by omega⟩))
          rw [s_sgm93 (by omega)]
          exact ⟨fun y => ⟨by omega, a2, y⟩, fun y => y.2.2⟩
      · rw [if_neg (fun y => a2 (cm.mp y))]
        refine qSg.no h (fun y => a2 ?_)
        rcases hs with ⟨e1, e2⟩ | ⟨e1, e2⟩
        · exact (y.2.1 (by omega)).2.1
        · exact (y.2.2.2 (by omega)).2.1
    · rw [if_pos (fun y => a1 ((cz sz (by omega)).mp y))]
      refine qSg.no h (fun y => a1 ?_)
      rcases hs with ⟨e1, e2⟩ | ⟨e1, e2⟩
      · have := (y.2.1 (by omega)).1
        omega
      · have := (y.2.2.2 (by omega)).1
        omega
  have one : ∀ (mk sz : Nat), nb L (p + 1) = mk → (mk = 82 ∧ sz = 12 ∨ mk = 92 ∧ sz = 5) → qSg w z g L T many p (fD_takeSegment_78 37 t (Int32.ofNat mk) (Int32.ofNat (p + 4)) 1 (Int32.ofNat sz) (Int32.ofNat (nb2 L (p + 2))) w) := by
    intro mk sz hmk' hs
    unfold fD_takeSegment_78
    by_cases a1 : nb2 L (p + 2) = sz
    · rw [if_neg (not_not_intro ((cz sz (by omega)).mpr a1)), if_pos (by decide)]
      unfold fD_takeSegment_105
      rw [if_neg (by decide)]
      unfold fD_takeSegment_124
      rw [q_placeOf, q_call, q_kI, q_let, if_neg (by decide), q_plN1 ht]
      unfold fD_takeSegment_142
      rw [show Int32.ofNat (p + 4) + 0 = Int32.ofNat (p + 4) from (Int32.ofNat_add (p + 4) 0).symm, q_let]
      have c90 : Int32.ofNat mk ≤ 90 ↔ mk ≤ 90 := q_of_le (n := 90) (by omega) (by omega)
      rcases hs with ⟨e1, e2⟩ | ⟨e1, e2⟩
      · rw [if_pos (c90.mpr (by omega)), h.obj, Option.bind_some]
        refine (h.tStyle hy hL hl (p + 4) (125 + 5 * T) true (by show p + 4 + 10 ≤ _; omega) (by omega) (by omega)).sg ?_ (fun hT0 => Or.inl ⟨rfl, by omega, by omega⟩)
        rw [if_pos rfl, s_sgm82 (by omega)]
        unfold s_sty s_sta s_st5
        constructor
        · rintro ⟨b0, b1, b2, b3, b4, b5, b6, b7, b8, b9⟩
          exact ⟨by omega, ⟨b0, b1, b2, b3⟩, b4, b7, b8, b5, b6, b9⟩
        · rintro ⟨-, ⟨b0, b1, b2, b3⟩, b4, b7, b8, b5, b6, b9⟩
          exact ⟨b0, b1, b2, b3, b4, b5, b6, b7, b8, b9⟩
      · rw [if_neg (fun y => by have := c90.mp y; omega), h.obj, Option.bind_some]
        refine (h.tStep hy hL hl (p + 4) (125 + 5 * T) (by omega) (by omega) (by omega)).sg ?_ (fun hT0 => Or.inr (Or.inl ⟨rfl, by omega, by omega⟩))
        rw [s_sgm92 (by omega)]
        exact ⟨fun y => ⟨by omega, y⟩, fun y => y.2⟩
    · rw [if_pos (fun y => a1 ((cz sz (by omega)).mp y))]
      refine qSg.no h (fun y => a1 ?_)
      rcases hs with ⟨e1, e2⟩ | ⟨e1, e2⟩
      · have := (y.1 (by omega)).1
        omega
      · have := (y.2.2.1 (by omega)).1
        omega
  unfold fD_takeSegment_40
  rcases hmk with e | e | e | e
  · rw [e, if_pos (show Int32.ofNat 82 = 82 from rfl), if_neg (not_not_intro (show Int32.ofNat 82 = 82 from rfl))]
    exact one 82 12 e (Or.inl ⟨rfl, rfl⟩)
  · rw [e, if_neg (show ¬ Int32.ofNat 83 = 82 by decide), if_pos (show ¬ Int32.ofNat 83 = 92 by decide), if_pos (show ¬ Int32.ofNat 83 = 82 by decide), if_neg (not_not_intro (show Int32.ofNat 83 = 83 from rfl))]
    exact oth 83 9 e (Or.inl ⟨rfl, rfl⟩)
  · rw [e, if_neg (show ¬ Int32.ofNat 92 = 82 by decide), if_neg (not_not_intro (show Int32.ofNat 92 = 92 from rfl)), if_pos (show ¬ Int32.ofNat 92 = 82 by decide), if_pos (show ¬ Int32.ofNat 92 = 83 by decide), if_neg (not_not_intro (show Int32.ofNat 92 = 92 from rfl))]
    exact one 92 5 e (Or.inr ⟨rfl, rfl⟩)
  · rw [e, if_neg (show ¬ Int32.ofNat 93 = 82 by decide), if_pos (show ¬ Int32.ofNat 93 = 92 by decide), if_pos (show ¬ Int32.ofNat 93 = 82 by decide), if_pos (show ¬ Int32.ofNat 93 = 83 by decide), if_pos (show ¬ Int32.ofNat 93 = 92 by decide)]
    exact oth 93 6 e (Or.inr ⟨rfl, rfl⟩)
end
/-- what reading the sizes leaves alone in the reference's rows -/
def gZ (g g' : Nat → Nat → Int32) : Prop := (∀ k, k ≠ 41 → k ≠ 42 → g' k = g k) ∧ (∀ i, i < 4 → g' 41 i = g 41 i) ∧ ∀ i, i < 5 → g' 42 i = g 42 i
theorem gZ.rf {g : Nat → Nat → Int32} : gZ g g := ⟨fun _ _ _ => rfl, fun _ _ => rfl, fun _ _ => rfl⟩
theorem gZ.tr {g g' g'' : Nat → Nat → Int32} (h : gZ g g') (k : gZ g' g'') : gZ g g'' := ⟨fun j a b => (k.1 j a b).trans (h.1 j a b), fun i hi => (k.2.1 i hi).trans (h.2.1 i hi), fun i hi => (k.2.2 i hi).trans (h.2.2 i hi)⟩
theorem gZ.u41 (g : Nat → Nat → Int32) (i : Nat) (v : Int32) (hi : 4 ≤ i) : gZ g (ug g 41 i v) := by
  refine ⟨fun k a b => ug_ne g i v a, fun j hj => ?_, fun j hj => by rw [ug_ne g i v (by decide)]⟩
  rw [ug_self]
  unfold upd
  rw [if_neg (by omega)]
theorem gZ.u42 (g : Nat → Nat → Int32) (i : Nat) (v : Int32) (hi : 5 ≤ i) : gZ g (ug g 42 i v) := by
  refine ⟨fun k a b => ug_ne g i v b, fun j hj => by rw [ug_ne g i v (by decide)], fun j hj => ?_⟩
  rw [ug_self]
  unfold upd
  rw [if_neg (by omega)]
/-- the sizes read -/
def gSz (g : Nat → Nat → Int32) (L : List Int32) (p : Nat) : Prop := g 42 5 = Int32.ofNat (nb4 L (p + 6)) ∧ g 42 6 = Int32.ofNat (nb4 L (p + 10)) ∧ g 42 7 = Int32.ofNat (nb2 L (p + 38)) ∧ g 42 8 = Int32.ofNat (nb4 L (p + 22)) ∧ g 42 9 = Int32.ofNat (nb4 L (p + 26))
def qRz (w : PW) (z : Nat → Int32) (g : Nat → Nat → Int32) (L : List Int32) (p size : Nat) (C : Prop) (r : PX) : Prop := ∃ w' z' g' v, r = some (.inl (some (.int v)), w') ∧ qM w' z' g' ∧ gZ g g' ∧ qI 37 66 w w' ∧ (v = 0 ∨ v = 1) ∧ (v = 0 ↔ ¬ C) ∧ (v = 0 → z' = upd z 41 (z 39)) ∧ (v = 1 → z' = upd z 39 (z 39 + (2 + Int32.ofNat size)) ∧ gSz g' L p)
section
variable {w : PW} {z : Nat → Int32} {g : Nat → Nat → Int32} {L : List Int32}
theorem qM.fails (h : qM w z g) (hz : z 41 = -1) (p : Int32) : ∃ w', fD_fails 37 p w = some (.inl (some (.int 0)), w') ∧ qM w' (upd z 41 p) g ∧ qI 37 66 w w' := by
  unfold fD_fails
  obtain ⟨w1, g1, h1, F1⟩ := h.put 41 p (by omega) rfl
  rw [h.I 41 rfl, hz, Option.bind_some, if_neg (not_not_intro rfl), g1, Option.bind_some]
  exact ⟨w1, rfl, h1, F1⟩
theorem qRz.no (h : qM w z g) (hz : z 41 = -1) {p size : Nat} {C : Prop} (hC : ¬ C) : qRz w z g L p size C ((p_getI w 37 10 39).bind fun v => (p_obj w 37 10).bind fun _ => p_call (fD_fails 37 v w) <| p_kI fun v1 w1 => p_retZ v1 w1) := by
  obtain ⟨w1, e1, q1, F1⟩ := h.fails hz (z 39)
  rw [h.I 39 rfl, Option.bind_some, h.obj, Option.bind_some, e1, q_call, q_kI]
  exact ⟨w1, _, g, 0, rfl, q1, gZ.rf, F1, Or.inl rfl, ⟨fun _ => hC, fun _ => rfl⟩, fun _ => rfl, fun e => absurd e (by decide)⟩
theorem qRz.pre {w0 : PW} {g0 : Nat → Nat → Int32} {p size : Nat} {C D : Prop} {r : PX} (h : qRz w z g L p size C r) (F : qI 37 66 w0 w) (S : gZ g0 g) (e : C ↔ D) : qRz w0 z g0 L p size D r := by
  obtain ⟨w', z', g', v, h1, h2, h3, h4, h5, h6, h7, h8⟩ := h
  exact ⟨w', z', g', v, h1, h2, S.tr h3, F.tr h4, h5, by rw [h6, e], h7, h8⟩
theorem qRz.s454 (h : qM w z g) (hz : z 41 = -1) (hy : qY g 54 L) (hL : qby L) (hl : L.length ≤ 20000) (p size : Nat) (hp : p + 43 ≤ L.length) (b : Bool) : qRz w z g L p size (b = true) (fD_readSizes_454 37 (Int32.ofNat size) (Int32.ofNat (p + 4)) (Int32.ofNat (nb2 L (p + 38))) (if b = true then 1 else 0) w) := by
  unfold fD_readSizes_454
  cases b
  · rw [if_neg (show ¬ ¬ (if false = true then (1 : Int32) else 0) = 0 from not_not_intro rfl)]
    exact qRz.no h hz (by decide)
  · have e : ∀ i : Nat, Int32.ofNat (p + 4) + Int32.ofNat i = Int32.ofNat (p + 4 + i) := fun i => (Int32.ofNat_add _ _).symm
    have ky : ∀ (G : Nat → Nat → Int32) (i : Nat) (v : Int32), qY G 54 L → qY (ug G 42 i v) 54 L := fun G i v hG j hj => by rw [ug_ne _ _ _ (by decide)]; exact hG j hj
    rw [if_pos (show ¬ (if true = true then (1 : Int32) else 0) = 0 by decide), h.R 7 42 rfl, Option.bind_some, h.obj, Option.bind_some, show Int32.ofNat (p + 4) + 2 = Int32.ofNat (p + 6) from e 2, h.four hy hL hl (p + 6) (by omega), q_call, q_kJ, q_32n]
    obtain ⟨w1, e1, q1, F1⟩ := h.stn 42 0 5 (Int32.ofNat (nb4 L (p + 6))) rfl (by omega) (by omega) (by decide) (by decide)
    have y1 := ky g 5 (Int32.ofNat (nb4 L (p + 6))) hy
    rw [show p_ast w 42 0 5 _ = _ from e1, Option.bind_some, q1.R 7 42 rfl, Option.bind_some, q1.obj, Option.bind_some, show Int32.ofNat (p + 4) + 6 = Int32.ofNat (p + 10) from e 6, q1.four y1 hL hl (p + 10) (by omega), q_call, q_kJ, q_32n]
    obtain ⟨w2, e2, q2, F2⟩ := q1.stn 42 0 6 (Int32.ofNat (nb4 L (p + 10))) rfl (by omega) (by omega) (by decide) (by decide)
    have y2 := ky _ 6 (Int32.ofNat (nb4 L (p + 10))) y1
    rw [show p_ast w1 42 0 6 _ = _ from e2, Option.bind_some, q2.R 7 42 rfl, Option.bind_some]
    obtain ⟨w3, e3, q3, F3⟩ := q2.stn 42 0 7 (Int32.ofNat (nb2 L (p + 38))) rfl (by omega) (by omega) (by decide) (by decide)
    have y3 := ky _ 7 (Int32.ofNat (nb2 L (p + 38))) y2
    rw [show p_ast w2 42 0 7 _ = _ from e3, Option.bind_some, q3.R 7 42 rfl, Option.bind_some, q3.obj, Option.bind_some, show Int32.ofNat (p + 4) + 18 = Int32.ofNat (p + 22) from e 18, q3.four y3 hL hl (p + 22) (by omega), q_call, q_kJ, q_32n]
    obtain ⟨w4, e4, q4, F4⟩ := q3.stn 42 0 8 (Int32.ofNat (nb4 L (p + 22))) rfl (by omega) (by omega) (by decide) (by decide)
    have y4 := ky _ 8 (Int32.ofNat (nb4 L (p + 22))) y3
    rw [show p_ast w3 42 0 8 _ = _ from e4, Option.bind_some, q4.R 7 42 rfl, Option.bind_some, q4.obj, Option.bind_some, show Int32.ofNat (p + 4) + 22 = Int32.ofNat (p + 26) from e 22, q4.four y4 hL hl (p + 26) (by omega), q_call, q_kJ, q_32n]
    obtain ⟨w5, e5, q5, F5⟩ := q4.stn 42 0 9 (Int32.ofNat (nb4 L (p + 26))) rfl (by omega) (by omega) (by decide) (by decide)
    rw [show p_ast w4 42 0 9 _ = _ from e5, Option.bind_some, q5.I 39 rfl, Option.bind_some]
    obtain ⟨w6, e6, q6, F6⟩ := q5.put 39 (z 39 + (2 + Int32.ofNat size)) (by omega) rfl
    rw [e6, Option.bind_some]
    refine ⟨w6, _, _, 1, rfl, q6, ((((gZ.u42 _ 5 _ (by omega)).tr (gZ.u42 _ 6 _ (by omega))).tr (gZ.u42 _ 7 _ (by omega))).tr (gZ.u42 _ 8 _ (by omega))).tr (gZ.u42 _ 9 _ (by omega)), ((((F1.tr F2).tr F3).tr F4).tr F5).tr F6, Or.inr rfl, ⟨fun e => absurd e (by decide), fun e => absurd rfl e⟩, fun e => absurd e (by decide), fun _ => ⟨rfl, ?_⟩⟩
    refine ⟨?_, ?_, ?_, ?_, ?_⟩ <;> simp only [ug_self, upd] <;> rfl
theorem qRz.s350 (hz : z 41 = -1) (hL : qby L) (hl : L.length ≤ 20000) (p size many : Nat) (hm : many = nb2 L (p + 38)) (hm4 : many ≤ 4) (hp : p + 43 ≤ L.length) (hp2 : p + 40 + 3 * many ≤ L.length) : ∀ (n c F : Nat) (w : PW) (g : Nat → Nat → Int32), qM w z g → qY g 54 L → n + 1 < F → c + n = many → qRz w z g L p size (∀ k, c ≤ k → k < many → s_dp1 L (p + 40) k) (fD_readSizes_350 F 37 (Int32.ofNat size) (Int32.ofNat (p + 4)) (Int32.ofNat many) 1 (Int32.ofNat c) w)
  | 0, c, F + 1, w, g, h, hy, _, hc => by
    rw [fD_readSizes_350, if_pos ((q_of_le (by omega) (by omega)).mpr (by omega)), hm]
    exact (qRz.s454 h hz hy hL hl p size hp true).pre qI.rf gZ.rf ⟨fun _ k k1 k2 => by omega, fun _ => rfl⟩
  | n + 1, c, F + 1, w, g, h, hy, hn, hc => by
    have n0 := nb_le hL (p + 40 + 3 * c)
    have n1 := nb_le hL (p + 40 + 3 * c + 1)
    have n2 := nb_le hL (p + 40 + 3 * c + 2)
    have e3 : ∀ i : Nat, Int32.ofNat (p + 4) + Int32.ofNat i + 3 * Int32.ofNat c = Int32.ofNat (p + 4 + i + 3 * c) := fun i => by
      rw [show Int32.ofNat (p + 4 + i + 3 * c) = Int32.ofNat (p + 4 + i) + Int32.ofNat (3 * c) from Int32.ofNat_add _ _, show Int32.ofNat (3 * c) = 3 * Int32.ofNat c from Int32.ofNat_mul 3 c, show Int32.ofNat (p + 4 + i) = Int32.ofNat (p + 4) + Int32.ofNat i from Int32.ofNat_add _ _]
    have k0 : Int32.ofNat (p + 4) + 36 + 3 * Int32.ofNat c = Int32.ofNat (p + 40 + 3 * c) := e3 36
    have k1 : Int32.ofNat (p + 4) + 37 + 3 * Int32.ofNat c = Int32.ofNat (p + 40 + 3 * c + 1) := by
      rw [show p + 40 + 3 * c + 1 = p + 4 + 37 + 3 * c by omega]; exact e3 37
    have k2 : Int32.ofNat (p + 4) + 38 + 3 * Int32.ofNat c = Int32.ofNat (p + 40 + 3 * c + 2) := by
      rw [show p + 40 + 3 * c + 2 = p + 4 + 38 + 3 * c by omega]; exact e3 38
    have c0 : (16 : Int32) ≤ Int32.ofNat (nb L (p + 40 + 3 * c)) ↔ 16 ≤ nb L (p + 40 + 3 * c) := q_of_le (m := 16) (by omega) (by omega)
    have c1 : Int32.ofNat (nb L (p + 40 + 3 * c + 1)) = 1 ↔ nb L (p + 40 + 3 * c + 1) = 1 := q_of32 (y := 1) (by omega) (by omega)
    have c2 : Int32.ofNat (nb L (p + 40 + 3 * c + 2)) = 1 ↔ nb L (p + 40 + 3 * c + 2) = 1 := q_of32 (y := 1) (by omega) (by omega)
    have e2 : nb2 L (p + 40 + 3 * c + 1) = nb L (p + 40 + 3 * c + 1) * 256 + nb L (p + 40 + 3 * c + 2) := rfl
    rw [fD_readSizes_350, if_neg (fun hh => by have := (q_of_le (by omega) (by omega)).mp hh; omega), if_neg (show ¬ (1 : Int32) = 0 by decide), h.R 23 54 rfl, Option.bind_some, k0, h.had hy hL hl (p + 40 + 3 * c) (by omega), Option.bind_some, Option.bind_some, k1, h.had hy hL hl (p + 40 + 3 * c + 1) (by omega), Option.bind_some, Option.bind_some, k2, h.had hy hL hl (p + 40 + 3 * c + 2) (by omega), Option.bind_some]
    have go : ∀ b : Bool, (b = true ↔ s_dp1 L (p + 40) c) → qRz w z g L p size (∀ k, c ≤ k → k < many → s_dp1 L (p + 40) k) (fD_readSizes_421 (fD_readSizes_350 F) 37 (Int32.ofNat size) (Int32.ofNat (p + 4)) (Int32.ofNat many) (Int32.ofNat c) (if b = true then 1 else 0) w) := by
      intro b hb
      unfold fD_readSizes_421
      obtain ⟨w1, e1, q1, F1⟩ := h.stn 41 0 (4 + c) (Int32.ofNat (nb L (p + 40 + 3 * c)) + 1) rfl (by omega) (by omega) (by show _ < 8; omega) (by decide)
      rw [h.R 6 41 rfl, Option.bind_some, h.R 23 54 rfl, Option.bind_some, k0, h.had hy hL hl (p + 40 + 3 * c) (by omega), Option.bind_some, show (4 : Int32) + Int32.ofNat c = Int32.ofNat (4 + c) from (Int32.ofNat_add 4 c).symm, e1, Option.bind_some, q_let, show Int32.ofNat c + 1 = Int32.ofNat (c + 1) from (Int32.ofNat_add c 1).symm]
      have y1 : qY (ug g 41 (4 + c) (Int32.ofNat (nb L (p + 40 + 3 * c)) + 1)) 54 L := fun j hj => by rw [ug_ne _ _ _ (by decide)]; exact hy j hj
      cases b
      · obtain ⟨F', rfl⟩ : ∃ F', F = F' + 1 := ⟨F - 1, by omega⟩
        rw [fD_readSizes_350, if_pos (show (if false = true then (1 : Int32) else 0) = 0 from rfl), ite_self, hm]
        refine (qRz.s454 q1 hz y1 hL hl p size hp false).pre F1 (gZ.u41 _ _ _ (by omega)) ⟨fun y => absurd y (by decide), fun y => hb.mpr (y c (Nat.le_refl _) (by omega))⟩
      · refine (qRz.s350 hz hL hl p size many hm hm4 hp hp2 n (c + 1) F w1 _ q1 y1 (by omega) (by omega)).pre F1 (gZ.u41 _ _ _ (by omega)) ⟨fun y k j1 j2 => ?_, fun y k j1 j2 => y k (by omega) j2⟩
        by_cases hk : k = c
        · rw [hk]
          exact hb.mp rfl
        · exact y k (by omega) j2
    by_cases a0 : 16 ≤ nb L (p + 40 + 3 * c)
    · rw [if_pos (c0.mpr a0)]
      exact go false ⟨fun y => absurd y (by decide), fun y => by have := y.1; omega⟩
    · rw [if_neg (fun y => a0 (c0.mp y))]
      by_cases a1 : nb L (p + 40 + 3 * c + 1) = 1
      · rw [if_neg (not_not_intro (c1.mpr a1))]
        by_cases a2 : nb L (p + 40 + 3 * c + 2) = 1
        · rw [if_neg (not_not_intro (c2.mpr a2))]
          exact go true ⟨fun _ => ⟨by omega, by omega⟩, fun _ => rfl⟩
        · rw [if_pos (fun y => a2 (c2.mp y))]
          exact go false ⟨fun y => absurd y (by decide), fun y => by have := y.2; omega⟩
      · rw [if_pos (fun y => a1 (c1.mp y))]
        exact go false ⟨fun y => absurd y (by decide), fun y => by have := y.2; omega⟩
end
/-- the sizes at p: where they end, if they are right -/
def s_szo (L : List Int32) (p to : Nat) : Option Nat := if p + 2 ≤ to ∧ nb L p = 255 ∧ nb L (p + 1) = 81 then
    (match s_seg L p to with
    | none => none
    | some x => if s_sizB L p x = true then some x else none)
  else none
theorem s_head_eq (L : List Int32) (fr to : Nat) : s_head L fr to = if fr + 2 ≤ to ∧ nb L fr = 255 ∧ nb L (fr + 1) = 79 then (match s_szo L (fr + 2) to with
    | none => (some (fr + 2), 0)
    | some x => s_hd L to (nb2 L (fr + 2 + 38)) 5001 x false false) else (some fr, 0) := by
  unfold s_head s_szo
  by_cases h1 : fr + 2 ≤ to ∧ nb L fr = 255 ∧ nb L (fr + 1) = 79
  · rw [if_pos h1, if_pos h1]
    by_cases h2 : fr + 2 + 2 ≤ to ∧ nb L (fr + 2) = 255 ∧ nb L (fr + 2 + 1) = 81
    · rw [if_pos h2, if_pos h2]
      cases hs : s_seg L (fr + 2) to with
      | none => rfl
      | some x =>
        dsimp only
        by_cases h3 : s_sizB L (fr + 2) x = true
        · rw [if_pos h3, if_pos h3]
        · rw [if_neg h3, if_neg h3]
    · rw [if_neg h2, if_neg h2]
  · rw [if_neg h1, if_neg h1]
theorem q_in64 (v lo hi : Nat) (hv : v < 9000000000000000000) (hlo : lo < 9000000000000000000) (hhi : hi < 9000000000000000000) (w : PW) : fD_in (Int64.ofNat v) (Int64.ofNat lo) (Int64.ofNat hi) w = some (.inl (some (.int (if lo ≤ v ∧ v ≤ hi then 1 else 0))), w) := by
  rw [q_in, Int64.toInt_ofNat_of_lt (by omega), Int64.toInt_ofNat_of_lt (by omega), Int64.toInt_ofNat_of_lt (by omega)]
  by_cases h : lo ≤ v ∧ v ≤ hi
  · rw [if_pos h, if_pos (by omega)]
  · rw [if_neg h, if_neg (by omega)]
section
variable {w : PW} {z : Nat → Int32} {g : Nat → Nat → Int32} {L : List Int32}
theorem qRz.s350z (h : qM w z g) (hz : z 41 = -1) (p size : Nat) (l1 l2 l3 : Int32) {C : Prop} (hC : ¬ C) : qRz w z g L p size C (fD_readSizes_350 FUEL 37 l1 l2 l3 0 0 w) := by
  show qRz w z g L p size C (fD_readSizes_350 (999999 + 1) 37 l1 l2 l3 0 0 w)
  rw [fD_readSizes_350, if_pos (show (0 : Int32) = 0 from rfl), ite_self]
  unfold fD_readSizes_454
  rw [if_neg (show ¬ ¬ (0 : Int32) = 0 from not_not_intro rfl)]
  exact qRz.no h hz hC
theorem qRz.s292z (h : qM w z g) (hz : z 41 = -1) (p size : Nat) (l1 l2 l3 : Int32) {C : Prop} (hC : ¬ C) : qRz w z g L p size C (fD_readSizes_292 37 l1 l2 l3 0 w) := by
  unfold fD_readSizes_292
  rw [if_pos rfl]
  exact qRz.s350z h hz p size l1 l2 l3 hC
theorem qRz.s218z (h : qM w z g) (hz : z 41 = -1) (p size : Nat) (l1 l2 l3 : Int32) {C : Prop} (hC : ¬ C) : qRz w z g L p size C (fD_readSizes_218 37 l1 l2 l3 0 w) := by
  unfold fD_readSizes_218
  rw [if_pos rfl]
  exact qRz.s292z h hz p size l1 l2 l3 hC
theorem qRz.s145z (h : qM w z g) (hz : z 41 = -1) (p size : Nat) (l1 l2 l3 : Int32) {C : Prop} (hC : ¬ C) : qRz w z g L p size C (fD_readSizes_145 37 l1 l2 l3 0 w) := by
  unfold fD_readSizes_145
  rw [if_pos rfl]
  exact qRz.s218z h hz p size l1 l2 l3 hC
theorem qRz.s292 (h : qM w z g) (hz : z 41 = -1) (hy : qY g 54 L) (hL : qby L) (hl : L.length ≤ 20000) (p size many : Nat) (hm : many = nb2 L (p + 38)) (hm4 : many ≤ 4) (hp : p + 43 ≤ L.length) (hp2 : p + 40 + 3 * many ≤ L.length) (a1 : 1 ≤ nb4 L (p + 6) ∧ nb4 L (p + 6) ≤ 2000) (a2 : 1 ≤ nb4 L (p + 10) ∧ nb4 L (p + 10) ≤ 2000) (a3 : 1 ≤ nb4 L (p + 22) ∧ nb4 L (p + 22) ≤ 65536) (a4 : 1 ≤ nb4 L (p + 26) ∧ nb4 L (p + 26) ≤ 65536) : qRz w z g L p size (s_til L p ≤ 24 ∧ ∀ k, k < many → s_dp1 L (p + 40) k) (fD_readSizes_292 37 (Int32.ofNat size) (Int32.ofNat (p + 4)) (Int32.ofNat many) 1 w) := by
  have e : ∀ i : Nat, Int32.ofNat (p + 4) + Int32.ofNat i = Int32.ofNat (p + 4 + i) := fun i => (Int32.ofNat_add _ _).symm
  have i6 : (Int64.ofNat (nb4 L (p + 6))).toInt = (nb4 L (p + 6) : Int) := Int64.toInt_ofNat_of_lt (by omega)
  have i10 : (Int64.ofNat (nb4 L (p + 10))).toInt = (nb4 L (p + 10) : Int) := Int64.toInt_ofNat_of_lt (by omega)
  have i22 : (Int64.ofNat (nb4 L (p + 22))).toInt = (nb4 L (p + 22) : Int) := Int64.toInt_ofNat_of_lt (by omega)
  have i26 : (Int64.ofNat (nb4 L (p + 26))).toInt = (nb4 L (p + 26) : Int) := Int64.toInt_ofNat_of_lt (by omega)
  obtain ⟨v, ev, hv⟩ := q_tilesOf (a := Int64.ofNat (nb4 L (p + 6))) (b := Int64.ofNat (nb4 L (p + 10))) (c := Int64.ofNat (nb4 L (p + 22))) (d := Int64.ofNat (nb4 L (p + 26))) (by omega) (by omega) (by omega) (by omega) (by omega) (by omega) (by omega) (by omega) w
  rw [i6, i10, i22, i26] at hv
  have hv' : v.toInt = s_til L p := hv
  unfold fD_readSizes_292
  rw [if_neg (show ¬ (1 : Int32) = 0 by decide), h.obj, Option.bind_some, show Int32.ofNat (p + 4) + 2 = Int32.ofNat (p + 6) from e 2, h.four hy hL hl (p + 6) (by omega), q_call, q_kJ, h.obj, Option.bind_some, show Int32.ofNat (p + 4) + 6 = Int32.ofNat (p + 10) from e 6, h.four hy hL hl (p + 10) (by omega), q_call, q_kJ, h.obj, Option.bind_some, show Int32.ofNat (p + 4) + 18 = Int32.ofNat (p + 22) from e 18, h.four hy hL hl (p + 22) (by omega), q_call, q_kJ, h.obj, Option.bind_some, show Int32.ofNat (p + 4) + 22 = Int32.ofNat (p + 26) from e 22, h.four hy hL hl (p + 26) (by omega), q_call, q_kJ, ev, q_call, q_kJ]
  have i24 : (24 : Int64).toInt = 24 := rfl
  by_cases ht : s_til L p ≤ 24
  · rw [if_neg (fun y => by rw [q_cmp_gt, hv', i24] at y; omega)]
    exact (qRz.s350 hz hL hl p size many hm hm4 hp hp2 many 0 FUEL w g h hy (by show _ < 1000000; omega) (by omega)).pre qI.rf gZ.rf ⟨fun y => ⟨ht, fun k hk => y k (by omega) hk⟩, fun y k _ hk => y.2 k hk⟩
  · rw [if_pos (by rw [q_cmp_gt, hv', i24]; omega)]
    exact qRz.s350z h hz p size _ _ _ (fun y => ht y.1)
theorem qRz.s218 (h : qM w z g) (hz : z 41 = -1) (hy : qY g 54 L) (hL : qby L) (hl : L.length ≤ 20000) (p size many : Nat) (hm : many = nb2 L (p + 38)) (hm4 : many ≤ 4) (hp : p + 43 ≤ L.length) (hp2 : p + 40 + 3 * many ≤ L.length) (a1 : 1 ≤ nb4 L (p + 6) ∧ nb4 L (p + 6) ≤ 2000) (a2 : 1 ≤ nb4 L (p + 10) ∧ nb4 L (p + 10) ≤ 2000) : qRz w z g L p size ((1 ≤ nb4 L (p + 22) ∧ nb4 L (p + 22) ≤ 65536) ∧ (1 ≤ nb4 L (p + 26) ∧ nb4 L (p + 26) ≤ 65536) ∧ nb4 L (p + 30) = 0 ∧ nb4 L (p + 34) = 0 ∧ s_til L p ≤ 24 ∧ ∀ k, k < many → s_dp1 L (p + 40) k) (fD_readSizes_218 37 (Int32.ofNat size) (Int32.ofNat (p + 4)) (Int32.ofNat many) 1 w) := by
  have e : ∀ i : Nat, Int32.ofNat (p + 4) + Int32.ofNat i = Int32.ofNat (p + 4 + i) := fun i => (Int32.ofNat_add _ _).symm
  have l22 := nb4_lt hL (p + 22)
  have l26 := nb4_lt hL (p + 26)
  have l30 := nb4_lt hL (p + 30)
  have l34 := nb4_lt hL (p + 34)
  have c30 : lg_cmp (Int64.ofNat (nb4 L (p + 30))) 0 = 0 ↔ nb4 L (p + 30) = 0 := q_c64e (y := 0) (by omega) (by omega)
  have c34 : lg_cmp (Int64.ofNat (nb4 L (p + 34))) 0 = 0 ↔ nb4 L (p + 34) = 0 := q_c64e (y := 0) (by omega) (by omega)
  have in22 := q_in64 (nb4 L (p + 22)) 1 65536 (by omega) (by omega) (by omega) w
  have in26 := q_in64 (nb4 L (p + 26)) 1 65536 (by omega) (by omega) (by omega) w
  have d10 : ¬ (1 : Int32) = 0 := by decide
  unfold fD_readSizes_218
  rw [if_neg d10, h.obj, Option.bind_some, show Int32.ofNat (p + 4) + 18 = Int32.ofNat (p + 22) from e 18, h.four hy hL hl (p + 22) (by omega), q_call, q_kJ, show fD_in (Int64.ofNat (nb4 L (p + 22))) 1 65536 w = _ from in22, q_call, q_kI]
  by_cases b1 : 1 ≤ nb4 L (p + 22) ∧ nb4 L (p + 22) ≤ 65536
  · rw [if_pos b1, if_neg d10, h.obj, Option.bind_some, show Int32.ofNat (p + 4) + 22 = Int32.ofNat (p + 26) from e 22, h.four hy hL hl (p + 26) (by omega), q_call, q_kJ, show fD_in (Int64.ofNat (nb4 L (p + 26))) 1 65536 w = _ from in26, q_call, q_kI]
    by_cases b2 : 1 ≤ nb4 L (p + 26) ∧ nb4 L (p + 26) ≤ 65536
    · rw [if_pos b2, if_neg d10, h.obj, Option.bind_some, show Int32.ofNat (p + 4) + 26 = Int32.ofNat (p + 30) from e 26, h.four hy hL hl (p + 30) (by omega), q_call, q_kJ]
      by_cases b3 : nb4 L (p + 30) = 0
      · rw [if_neg (not_not_intro (c30.mpr b3)), h.obj, Option.bind_some, show Int32.ofNat (p + 4) + 30 = Int32.ofNat (p + 34) from e 30, h.four hy hL hl (p + 34) (by omega), q_call, q_kJ]
        by_cases b4 : nb4 L (p + 34) = 0
        · rw [if_neg (not_not_intro (c34.mpr b4))]
          exact (qRz.s292 h hz hy hL hl p size many hm hm4 hp hp2 a1 a2 b1 b2).pre qI.rf gZ.rf ⟨fun y => ⟨b1, b2, b3, b4, y⟩, fun y => y.2.2.2.2⟩
        · rw [if_pos (fun y => b4 (c34.mp y))]
          exact qRz.s292z h hz p size _ _ _ (fun y => b4 y.2.2.2.1)
      · rw [if_pos (fun y => b3 (c30.mp y))]
        exact qRz.s292z h hz p size _ _ _ (fun y => b3 y.2.2.1)
    · rw [if_neg b2, if_pos rfl]
      exact qRz.s292z h hz p size _ _ _ (fun y => b2 y.2.1)
  · rw [if_neg b1, if_pos rfl]
    exact qRz.s292z h hz p size _ _ _ (fun y => b1 y.1)
theorem qRz.s145 (h : qM w z g) (hz : z 41 = -1) (hy : qY g 54 L) (hL : qby L) (hl : L.length ≤ 20000) (p size many : Nat) (hm : many = nb2 L (p + 38)) (hm4 : many ≤ 4) (hp : p + 43 ≤ L.length) (hp2 : p + 40 + 3 * many ≤ L.length) : qRz w z g L p size (s_sid L p ∧ nb4 L (p + 14) = 0 ∧ nb4 L (p + 18) = 0 ∧ nb4 L (p + 30) = 0 ∧ nb4 L (p + 34) = 0 ∧ ∀ k, k < many → s_dp1 L (p + 40) k) (fD_readSizes_145 37 (Int32.ofNat size) (Int32.ofNat (p + 4)) (Int32.ofNat many) 1 w) := by
  have e : ∀ i : Nat, Int32.ofNat (p + 4) + Int32.ofNat i = Int32.ofNat (p + 4 + i) := fun i => (Int32.ofNat_add _ _).symm
  have l6 := nb4_lt hL (p + 6)
  have l10 := nb4_lt hL (p + 10)
  have l14 := nb4_lt hL (p + 14)
  have l18 := nb4_lt hL (p + 18)
  have c14 : lg_cmp (Int64.ofNat (nb4 L (p + 14))) 0 = 0 ↔ nb4 L (p + 14) = 0 := q_c64e (y := 0) (by omega) (by omega)
  have c18 : lg_cmp (Int64.ofNat (nb4 L (p + 18))) 0 = 0 ↔ nb4 L (p + 18) = 0 := q_c64e (y := 0) (by omega) (by omega)
  have in6 := q_in64 (nb4 L (p + 6)) 1 2000 (by omega) (by omega) (by omega) w
  have in10 := q_in64 (nb4 L (p + 10)) 1 2000 (by omega) (by omega) (by omega) w
  have d10 : ¬ (1 : Int32) = 0 := by decide
  unfold fD_readSizes_145
  rw [if_neg d10, h.obj, Option.bind_some, show Int32.ofNat (p + 4) + 2 = Int32.ofNat (p + 6) from e 2, h.four hy hL hl (p + 6) (by omega), q_call, q_kJ, show fD_in (Int64.ofNat (nb4 L (p + 6))) 1 2000 w = _ from in6, q_call, q_kI]
  by_cases b1 : 1 ≤ nb4 L (p + 6) ∧ nb4 L (p + 6) ≤ 2000
  · rw [if_pos b1, if_neg d10, h.obj, Option.bind_some, show Int32.ofNat (p + 4) + 6 = Int32.ofNat (p + 10) from e 6, h.four hy hL hl (p + 10) (by omega), q_call, q_kJ, show fD_in (Int64.ofNat (nb4 L (p + 10))) 1 2000 w = _ from in10, q_call, q_kI]
    by_cases b2 : 1 ≤ nb4 L (p + 10) ∧ nb4 L (p + 10) ≤ 2000
    · rw [if_pos b2, if_neg d10, h.obj, Option.bind_some, show Int32.ofNat (p + 4) + 10 = Int32.ofNat (p + 14) from e 10, h.four hy hL hl (p + 14) (by omega), q_call, q_kJ]
      by_cases b3 : nb4 L (p + 14) = 0
      · rw [if_neg (not_not_intro (c14.mpr b3)), h.obj, Option.bind_some, show Int32.ofNat (p + 4) + 14 = Int32.ofNat (p + 18) from e 14, h.four hy hL hl (p + 18) (by omega), q_call, q_kJ]
        by_cases b4 : nb4 L (p + 18) = 0
        · rw [if_neg (not_not_intro (c18.mpr b4))]
          refine (qRz.s218 h hz hy hL hl p size many hm hm4 hp hp2 b1 b2).pre qI.rf gZ.rf ⟨fun y => ?_, fun y => ?_⟩
          · obtain ⟨y1, y2, y3, y4, y5, y6⟩ := y
            exact ⟨⟨b1, b2, y1, y2, y5⟩, b3, b4, y3, y4, y6⟩
          · obtain ⟨⟨-, -, y1, y2, y5⟩, -, -, y3, y4, y6⟩ := y
            exact ⟨y1, y2, y3, y4, y5, y6⟩
        · rw [if_pos (fun y => b4 (c18.mp y))]
          exact qRz.s218z h hz p size _ _ _ (fun y => b4 y.2.2.1)
      · rw [if_pos (fun y => b3 (c14.mp y))]
        exact qRz.s218z h hz p size _ _ _ (fun y => b3 y.2.1)
    · rw [if_neg b2, if_pos rfl]
      exact qRz.s218z h hz p size _ _ _ (fun y => b2 y.1.2.1)
  · rw [if_neg b1, if_pos rfl]
    exact qRz.s218z h hz p size _ _ _ (fun y => b1 y.1.1)
theorem qM.sizes (h : qM w z g) (hz : z 41 = -1) (hy : qY g 54 L) (hL : qby L) (hl : L.length ≤ 20000) (p to : Nat) (h39 : z 39 = Int32.ofNat p) (h40 : z 40 = Int32.ofNat to) (hp : p ≤ to) (hto : to ≤ L.length) : qRz w z g L p (nb2 L (p + 2)) (∃ x, s_szo L p to = some x) (fD_readSizes 37 w) := by
  have n0 := nb_le hL p
  have n1 := nb_le hL (p + 1)
  have n2 := nb2_lt hL (p + 2)
  have n38 := nb2_lt hL (p + 38)
  have n4 := nb2_lt hL (p + 4)
  have c4 : Int32.ofNat (to - p) < 4 ↔ to - p < 4 := q_lt (n := 4) (by omega) (by omega)
  have c0 : Int32.ofNat (nb L p) = 255 ↔ nb L p = 255 := q_of32 (y := 255) (by omega) (by omega)
  have c1 : Int32.ofNat (nb L (p + 1)) = 81 ↔ nb L (p + 1) = 81 := q_of32 (y := 81) (by omega) (by omega)
  have c41 : Int32.ofNat (nb2 L (p + 2)) < 41 ↔ nb2 L (p + 2) < 41 := q_lt (n := 41) (by omega) (by omega)
  have cz : Int32.ofNat (nb2 L (p + 4)) = 0 ↔ nb2 L (p + 4) = 0 := q_of32 (y := 0) (by omega) (by omega)
  have d10 : ¬ (1 : Int32) = 0 := by decide
  -- no sizes
  have no : ¬ (∃ x, s_szo L p to = some x) → qRz w z g L p (nb2 L (p + 2)) (∃ x, s_szo L p to = some x) (fD_readSizes_44 37 w) ∧ qRz w z g L p (nb2 L (p + 2)) (∃ x, s_szo L p to = some x) (fD_readSizes_85 37 w) := fun hC => ⟨qRz.no h hz hC, qRz.no h hz hC⟩
  have sz : ∀ x, s_szo L p to = some x → (p + 2 ≤ to ∧ nb L p = 255 ∧ nb L (p + 1) = 81) ∧ s_seg L p to = some x ∧ s_siz L p x := by
    intro x hx
    unfold s_szo at hx
    by_cases k1 : p + 2 ≤ to ∧ nb L p = 255 ∧ nb L (p + 1) = 81
    · rw [if_pos k1] at hx
      cases hs : s_seg L p to with
      | none => rw [hs] at hx; cases hx
      | some y =>
        rw [hs] at hx
        dsimp only at hx
        by_cases k2 : s_sizB L p y = true
        · rw [if_pos k2] at hx
          injection hx with hx
          subst hx
          exact ⟨k1, rfl, (s_sizB_iff _ _ _).mp k2⟩
        · rw [if_neg k2] at hx
          cases hx
    · rw [if_neg k1] at hx
      cases hx
  unfold fD_readSizes
  rw [h.I 40 rfl, Option.bind_some, h.I 39 rfl, Option.bind_some, h40, h39, q_subn hp (by omega)]
  by_cases b0 : to - p < 4
  · rw [if_pos (c4.mpr b0)]
    exact (no (fun ⟨x, hx⟩ => by have := s_seg_le (sz x hx).2.1; omega)).1
  · rw [if_neg (fun y => b0 (c4.mp y)), h.R 23 54 rfl, Option.bind_some, Option.bind_some, h.had hy hL hl p (by omega), Option.bind_some]
    by_cases b1 : nb L p = 255
    · rw [if_neg (not_not_intro (c0.mpr b1)), Option.bind_some, Option.bind_some, show Int32.ofNat p + 1 = Int32.ofNat (p + 1) from (Int32.ofNat_add p 1).symm, h.had hy hL hl (p + 1) (by omega), Option.bind_some]
      by_cases b2 : nb L (p + 1) = 81
      · rw [if_pos (c1.mpr b2), Option.bind_some, h.obj, Option.bind_some, show Int32.ofNat p + 2 = Int32.ofNat (p + 2) from (Int32.ofNat_add p 2).symm, h.two hy hL hl (p + 2) (by omega), q_call, q_kI]
        by_cases b3 : nb2 L (p + 2) < 41
        · rw [if_pos (c41.mpr b3)]
          refine (no (fun ⟨x, hx⟩ => ?_)).2
          obtain ⟨-, s1, s2⟩ := sz x hx
          have := s_seg_le s1
          have := s2.2.1
          have := s2.1.1
          omega
        · have cle : Int32.ofNat (p + 2) + Int32.ofNat (nb2 L (p + 2)) ≤ Int32.ofNat to ↔ p + 2 + nb2 L (p + 2) ≤ to := by
            rw [show Int32.ofNat (p + 2) + Int32.ofNat (nb2 L (p + 2)) = Int32.ofNat (p + 2 + nb2 L (p + 2)) from (Int32.ofNat_add _ _).symm]
            exact q_of_le (by omega) (by omega)
          rw [if_neg (fun y => b3 (c41.mp y)), h.I 39 rfl, Option.bind_some, h.I 40 rfl, Option.bind_some, h39, h40, show Int32.ofNat p + 2 = Int32.ofNat (p + 2) from (Int32.ofNat_add p 2).symm]
          by_cases b4 : p + 2 + nb2 L (p + 2) ≤ to
          · have hseg : s_seg L p to = some (p + 2 + nb2 L (p + 2)) := by
              unfold s_seg
              rw [if_neg (by omega), if_neg (by omega)]
            have key : (∃ x, s_szo L p to = some x) ↔ s_siz L p (p + 2 + nb2 L (p + 2)) := by
              constructor
              · rintro ⟨x, hx⟩
                obtain ⟨-, s1, s2⟩ := sz x hx
                rw [hseg] at s1
                injection s1 with s1
                rw [s1]
                exact s2
              · intro hx
                refine ⟨p + 2 + nb2 L (p + 2), ?_⟩
                unfold s_szo
                rw [if_pos ⟨by omega, b1, b2⟩, hseg]
                dsimp only
                rw [if_pos ((s_sizB_iff _ _ _).mpr hx)]
            rw [if_pos (cle.mpr b4), Option.bind_some, show Int32.ofNat p + 4 = Int32.ofNat (p + 4) from (Int32.ofNat_add p 4).symm, q_let, h.obj, Option.bind_some, show Int32.ofNat (p + 4) + 34 = Int32.ofNat (p + 38) from (Int32.ofNat_add (p + 4) 34).symm, h.two hy hL hl (p + 38) (by omega), q_call, q_kI]
            have e38 : (38 : Int32) + 3 * Int32.ofNat (nb2 L (p + 38)) = Int32.ofNat (38 + 3 * nb2 L (p + 38)) := by
              rw [show (3 : Int32) * Int32.ofNat (nb2 L (p + 38)) = Int32.ofNat (3 * nb2 L (p + 38)) from (Int32.ofNat_mul 3 _).symm]
              exact (Int32.ofNat_add 38 _).symm
            have cs : Int32.ofNat (nb2 L (p + 2)) = Int32.ofNat (38 + 3 * nb2 L (p + 38)) ↔ nb2 L (p + 2) = 38 + 3 * nb2 L (p + 38) := q_of32 (by omega) (by omega)
            rw [e38]
            by_cases b5 : nb2 L (p + 2) = 38 + 3 * nb2 L (p + 38)
            · have inm := q_in64 (nb2 L (p + 38)) 1 4 (by omega) (by omega) (by omega) w
              rw [if_neg (not_not_intro (cs.mpr b5)), q_64n _ (by omega), show fD_in (Int64.ofNat (nb2 L (p + 38))) 1 4 w = _ from inm, q_call, q_kI]
              by_cases b6 : 1 ≤ nb2 L (p + 38) ∧ nb2 L (p + 38) ≤ 4
              · rw [if_pos b6, if_neg d10, h.obj, Option.bind_some, h.two hy hL hl (p + 4) (by omega), q_call, q_kI]
                by_cases b7 : nb2 L (p + 4) = 0
                · rw [if_neg (not_not_intro (cz.mpr b7))]
                  refine (qRz.s145 h hz hy hL hl p (nb2 L (p + 2)) _ rfl b6.2 (by omega) (by omega)).pre qI.rf gZ.rf ?_
                  rw [key]
                  constructor
                  · rintro ⟨y1, y2, y3, y4, y5, y6⟩
                    exact ⟨b6, by omega, ⟨b7, y2, y3, y4, y5⟩, y1, y6⟩
                  · rintro ⟨-, -, ⟨-, y2, y3, y4, y5⟩, y1, y6⟩
                    exact ⟨y1, y2, y3, y4, y5, y6⟩
                · rw [if_pos (fun y => b7 (cz.mp y))]
                  exact qRz.s145z h hz p _ _ _ _ (fun y => b7 (key.mp y).2.2.1.1)
              · rw [if_neg b6, if_pos rfl]
                exact qRz.s145z h hz p _ _ _ _ (fun y => b6 (key.mp y).1)
            · rw [if_pos (fun y => b5 (cs.mp y))]
              exact qRz.s145z h hz p _ _ _ _ (fun y => b5 (by have := (key.mp y).2.1; omega))
          · rw [if_neg (fun y => b4 (cle.mp y))]
            refine (no (fun ⟨x, hx⟩ => ?_)).2
            have := s_seg_le (sz x hx).2.1
            omega
      · rw [if_neg (fun y => b2 (c1.mp y))]
        exact (no (fun ⟨x, hx⟩ => b2 (sz x hx).1.2.2)).1
    · rw [if_pos (fun y => b1 (c0.mp y))]
      exact (no (fun ⟨x, hx⟩ => b1 (sz x hx).1.2.1)).1
end
