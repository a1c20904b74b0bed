section
variable {w : PW} {z : Nat → Int32} {g : Nat → Nat → Int32} {tw th : Int32} {sz dp nm sy sp : Nat → Int32}
/-- the settings after a set -/
def s_sz (sz : Nat → Int32) (what v : Int32) : Nat → Int32 := if what ≤ 2 then upd sz what.toNatClampNeg v else sz
def s_dp (dp : Nat → Int32) (what c v : Int32) : Nat → Int32 := if what = 3 then q_dep dp c v 4 0 else dp
def s_nm (nm sy sp : Nat → Int32) (what t c v : Int32) : Nat → Int32 := if 4 ≤ what then upd (q_mk what (q_fc (q_sel what sy sp) t c) (q_slot t c) nm) (q_slot t c * 7 + what - 4).toNatClampNeg v else nm
def s_sy (sy : Nat → Int32) (what t c : Int32) : Nat → Int32 := if 4 ≤ what ∧ ¬ 9 ≤ what then upd sy (q_slot t c).toNatClampNeg 1 else sy
def s_sp (sp : Nat → Int32) (what t c : Int32) : Nat → Int32 := if 9 ≤ what then upd sp (q_slot t c).toNatClampNeg 1 else sp
theorem qM.depth2 (c v b : Int32) : ∀ (n i F : Nat) (w : PW) (g : Nat → Nat → Int32), qM w z g → n < F → i + n = 4 → ∃ w' g', fD_set_121 F 37 c v b (Int32.ofNat i) w = some (.inl (some (.int b)), w') ∧ qM w' z g' ∧ (∀ k, k ≠ 41 → g' k = g k) ∧ (∀ j, g' 41 j = if i ≤ j ∧ j < 4 ∧ (c < 0 ∨ c = Int32.ofNat j) then v else g 41 j) ∧ qI 37 66 w w'
  | 0, i, F + 1, w, g, h, _, hi => by
    have : i = 4 := by omega
    subst this
    rw [fD_set_121, if_pos (by decide)]
    exact ⟨w, g, rfl, h, fun _ _ => rfl, fun j => by rw [if_neg (by omega)], qI.rf⟩
  | n + 1, i, F + 1, w, g, h, hF, hi => by
    have h1 : ¬ (4 : Int32) ≤ Int32.ofNat i := fun k => by
      have := (q_le (m := 4) (n := i) (by omega) (by omega)).mp k
      omega
    have e2 : Int32.ofNat i + 1 = Int32.ofNat (i + 1) := (Int32.ofNat_add i 1).symm
    have i0 : 0 ≤ Int32.ofNat i := q_ge0 i (by omega)
    have i1 : Int32.ofNat i < Int32.ofNat (mL 41) := (q_lt (m := i) (n := 8) (by omega) (by omega)).mpr (by omega)
    have key : ∀ x : Int32, x = (if c < 0 ∨ c = Int32.ofNat i then v else g 41 i) → ∃ w' g', ((p_ast w 41 0 (Int32.ofNat i) x).bind fun w155 => p_let (Int32.ofNat i + 1) fun l6_156 => fD_set_121 F 37 c v b l6_156 w155) = some (.inl (some (.int b)), w') ∧ qM w' z g' ∧ (∀ k, k ≠ 41 → g' k = g k) ∧ (∀ j, g' 41 j = if i ≤ j ∧ j < 4 ∧ (c < 0 ∨ c = Int32.ofNat j) then v else g 41 j) ∧ qI 37 66 w w' := by
      intro x hx
      obtain ⟨w1, g1, q1, F1⟩ := h.st 41 0 (Int32.ofNat i) x rfl (by omega) (by omega) i0 i1 (by decide)
      rw [q_tno (by omega)] at q1
      obtain ⟨w2, g', g2, q2, r2, t2, F2⟩ := qM.depth2 c v b n (i + 1) F w1 _ q1 (by omega) (by omega)
      refine ⟨w2, g', ?_, q2, fun k hk => by rw [r2 k hk, ug_ne _ _ _ hk], fun j => ?_, F1.tr F2⟩
      · rw [g1, Option.bind_some]
        show fD_set_121 F 37 c v b (Int32.ofNat i + 1) w1 = _
        rw [e2, g2]
      · rw [t2 j, ug_self]
        unfold upd
        by_cases hj : j = i
        · subst hj
          rw [if_neg (by omega), if_pos rfl, hx]
          by_cases hc : c < 0 ∨ c = Int32.ofNat j
          · rw [if_pos hc, if_pos ⟨Nat.le_refl _, by omega, hc⟩]
          · rw [if_neg hc, if_neg (fun hh => hc hh.2.2)]
        · rw [if_neg hj]
          by_cases hc : i + 1 ≤ j ∧ j < 4 ∧ (c < 0 ∨ c = Int32.ofNat j)
          · rw [if_pos hc, if_pos ⟨by omega, hc.2⟩]
          · rw [if_neg hc, if_neg (fun hh => hc ⟨by omega, hh.2⟩)]
    have l41 : p_ald w 41 0 (Int32.ofNat i) = some (g 41 i) := by
      rw [h.ld 41 0 (Int32.ofNat i) rfl (by omega) (by omega) i0 i1 (by decide), q_tno (by omega)]
    rw [fD_set_121, if_neg h1, h.R 6 41 rfl, Option.bind_some]
    by_cases hc1 : c < 0
    · rw [if_pos hc1]
      exact key v (by rw [if_pos (Or.inl hc1)])
    · rw [if_neg hc1]
      by_cases hc2 : Int32.ofNat i = c
      · rw [if_neg (not_not_intro hc2)]
        exact key v (by rw [if_pos (Or.inr hc2.symm)])
      · rw [if_pos hc2, Option.bind_some, l41, Option.bind_some]
        exact key (g 41 i) (by rw [if_neg (by rintro (e | e); exact hc1 e; exact hc2 e.symm)])
theorem q_dep_at (c v : Int32) (j : Nat) : ∀ (n i : Nat) (dp : Nat → Int32), i + n = 4 → q_dep dp c v n i j = if i ≤ j ∧ j < 4 ∧ (c = -1 ∨ c = Int32.ofNat j) then v else dp j
  | 0, i, dp, hi => by rw [q_dep, if_neg (by omega)]
  | n + 1, i, dp, hi => by
    rw [q_dep, q_dep_at c v j n (i + 1) _ (by omega)]
    by_cases hc : c = -1 ∨ c = Int32.ofNat i
    · rw [if_pos hc]
      unfold upd
      by_cases hj : j = i
      · subst hj
        rw [if_neg (by omega), if_pos rfl, if_pos ⟨Nat.le_refl _, by omega, hc⟩]
      · rw [if_neg hj]
        by_cases hh : i + 1 ≤ j ∧ j < 4 ∧ (c = -1 ∨ c = Int32.ofNat j)
        · rw [if_pos hh, if_pos ⟨by omega, hh.2⟩]
        · rw [if_neg hh, if_neg (fun k => hh ⟨by omega, k.2⟩)]
    · rw [if_neg hc]
      by_cases hh : i + 1 ≤ j ∧ j < 4 ∧ (c = -1 ∨ c = Int32.ofNat j)
      · rw [if_pos hh, if_pos ⟨by omega, hh.2⟩]
      · rw [if_neg hh, if_neg]
        intro k
        by_cases hj : j = i
        · subst hj
          exact hc k.2.2
        · exact hh ⟨by omega, k.2⟩
/-- the reference's set, where it goes through -/
theorem qM.set0 (h : qM w z g) (k : qR tw th sz dp nm sy sp g) (y01 : ∀ i, sy i = 0 ∨ sy i = 1) (p01 : ∀ i, sp i = 0 ∨ sp i = 1) {what t c v : Int32} (hp : q_isPl (q_nt tw th sz) (sz 2) what t c = true) (hv : q_within what (Int32.toInt64 v) = 1) (ht : ¬ 24 < q_many (if what = 0 then v else sz 0) tw * q_many (if what = 1 then v else sz 1) th) :
    ∃ w' g', fD_set_61 37 what t c v 0 37 w = some (.inl (some (.int (q_val sz dp nm sy sp what t c))), w') ∧ qM w' (upd z 0 0) g' ∧ qR tw th (s_sz sz what v) (s_dp dp what c v) (s_nm nm sy sp what t c v) (s_sy sy what t c) (s_sp sp what t c) g' ∧ (∀ k, k ≠ 38 → k ≠ 39 → k ≠ 40 → k ≠ 41 → k ≠ 42 → g' k = g k) ∧ qI 37 66 w w' := by
  have hnt := k.nt
  have hpl := decide_eq_true_eq.mp hp
  obtain ⟨p1, p2, p3, p4, p5, p6, p7⟩ := hpl
  have k0 := k
  obtain ⟨⟨a0, a1, a2, a3, a4⟩, r41, r39, r38, ⟨b0, b1, b2, b3, b4, b5, b6, b7, b8, b9⟩, ht0⟩ := k
  obtain ⟨w1, g1, q1, F1⟩ := h.put 0 0 (by omega) rfl
  have hb := q_slot_bi t c
  have hf := q_fc_bi (q_sel what sy sp) t c
  have e2 : (2 : Int32).toInt = 2 := rfl
  have e3 : (3 : Int32).toInt = 3 := rfl
  have e4 : (4 : Int32).toInt = 4 := rfl
  have e9 : (9 : Int32).toInt = 9 := rfl
  unfold fD_set_61
  rw [g1, Option.bind_some, q1.I 0 rfl, Option.bind_some, show upd z 0 0 0 = 0 from rfl, if_pos (by decide)]
  by_cases w3 : 3 ≤ what
  · have w3i : 3 ≤ what.toInt := q_lei.mp w3
    have nw2 : ¬ what ≤ 2 := by rw [q_lei]; omega
    rw [if_pos w3]
    by_cases w3e : what = 3
    · subst w3e
      rw [if_neg (not_not_intro rfl), q1.R 6 41 rfl, Option.bind_some]
      have hc : c.toInt < 4 := by omega
      have hdep : ∀ s0 : Int32, s0 = p_max 0 c → ∃ w' g', fD_set_115 37 c v s0 41 w1 = some (.inl (some (.int (dp (p_max 0 c).toNatClampNeg))), w') ∧ qM w' (upd z 0 0) g' ∧ (∀ k, k ≠ 41 → g' k = g k) ∧ (∀ j, g' 41 j = if 0 ≤ j ∧ j < 4 ∧ (c < 0 ∨ c = Int32.ofNat j) then v else g 41 j) ∧ qI 37 66 w1 w' := by
        intro s0 hs0
        subst hs0
        unfold fD_set_115
        have hm : 0 ≤ (p_max 0 c).toInt ∧ (p_max 0 c).toInt < 4 := by
          unfold p_max
          have e0 : (0 : Int32).toInt = 0 := rfl
          split
          · rename_i hh; rw [q_lti] at hh; omega
          · omega
        rw [q1.ld 41 0 (p_max 0 c) rfl (by omega) (by omega) (q_lei.mpr hm.1) (by rw [q_lti]; show _ < (8 : Int); omega) (by decide), Option.bind_some, r41 _ (by rw [q_tn]; omega)]
        exact qM.depth2 c v _ 4 0 FUEL w1 g q1 (by decide) (by decide)
      have hfin : ∃ w' g', (if 0 ≤ c then fD_set_115 37 c v c 41 w1 else fD_set_115 37 c v 0 41 w1) = some (.inl (some (.int (dp (p_max 0 c).toNatClampNeg))), w') ∧ qM w' (upd z 0 0) g' ∧ (∀ k, k ≠ 41 → g' k = g k) ∧ (∀ j, g' 41 j = if 0 ≤ j ∧ j < 4 ∧ (c < 0 ∨ c = Int32.ofNat j) then v else g 41 j) ∧ qI 37 66 w1 w' := by
        by_cases hc0 : 0 ≤ c
        · rw [if_pos hc0]
          exact hdep c (by unfold p_max; grind)
        · rw [if_neg hc0]
          exact hdep 0 (by unfold p_max; grind)
      obtain ⟨w2, g', g2, q2, r2, t2, F2⟩ := hfin
      refine ⟨w2, g', ?_, q2, ?_, fun k h1 h2 h3 h4 h5 => r2 k h4, F1.tr F2⟩
      · rw [g2]
        rfl
      · unfold s_sz s_dp s_nm s_sy s_sp
        rw [if_neg (by decide), if_pos rfl, if_neg (by decide), if_neg (by decide), if_neg (by decide)]
        refine ⟨by rw [r2 42 (by decide)]; exact ⟨a0, a1, a2, a3, a4⟩, fun i hi => ?_, by rw [r2 39 (by decide), r2 40 (by decide)]; exact r39, by rw [r2 38 (by decide)]; exact r38, ⟨b0, b1, b2, b3, b4, b5, b6, b7, b8, b9⟩, ht0⟩
        rw [q_dep_at c v i 4 0 dp (by omega), t2 i, r41 i hi]
        have hcm : c = -1 ↔ c < 0 := ⟨fun e => by rw [e]; decide, fun e => q_i32 (by rw [q_lti] at e; have e0 : (0 : Int32).toInt = 0 := rfl; have em : (-1 : Int32).toInt = -1 := rfl; omega)⟩
        simp only [hcm]
    · have w4 : 4 ≤ what := by grind
      have w4i : 4 ≤ what.toInt := q_lei.mp w4
      have ht24 : t.toInt < 24 := by omega
      have hc4 : c.toInt < 4 := by omega
      rw [if_pos w3e, q1.obj, Option.bind_some, q1.force k0 y01 p01 p2 p3 ht24 p5 hc4, q_call, q_kI, q1.obj, Option.bind_some, q1.mget _ what (q_lei.mpr hf.1) (by rw [q_lti]; show _ < (250 : Int); omega) (by rw [q_lei]; show (0 : Int) ≤ _; omega) (by rw [q_lei]; show _ ≤ (10 : Int); omega), q_call, q_kI, q1.obj, Option.bind_some]
      obtain ⟨w2, g2', g2, q2, r2, F2⟩ := q1.make k0 y01 p01 p2 p3 ht24 p5 hc4
      rw [g2, q_call, q_kV, q_placeOf, q_call, q_kI, q_pl_slot p3 ht24 p5 hc4, q2.obj, Option.bind_some]
      obtain ⟨w3', g3, q3, F3⟩ := q2.mput (q_slot t c) what v (q_lei.mpr hb.1) (by rw [q_lti]; show _ < (250 : Int); omega) (by rw [q_lei]; show (0 : Int) ≤ _; omega) (by rw [q_lei]; show _ ≤ (10 : Int); omega)
      rw [g3, q_call, q_kV]
      obtain ⟨m1, m2, m3, m4⟩ := r2
      have eb : (if what = 4 ∨ what = 5 then -1 else c) = c := by
        split
        · rename_i hh
          rcases p7 with x | x | x | x
          · rcases hh with y | y <;> subst y <;> exact absurd x (by decide)
          · exact x.1.symm
          · exact absurd x.1 w3e
          · exact x.2.symm
        · rfl
      refine ⟨w3', _, ?_, q3, ?_, fun k h1 h2 h3 h4 h5 => by rw [ug_ne _ _ _ h1, m1 k h1 h2 h3], (F1.tr F2).tr F3⟩
      · have : q_val sz dp nm sy sp what t c = g 38 (11 * q_fc (q_sel what sy sp) t c + what).toNatClampNeg := by
          unfold q_val
          rw [if_neg nw2, if_neg w3e, eb, q_i11 hf.1 (by omega) (by omega) (by omega)]
          show nm (q_fc (q_sel what sy sp) t c * 7 + what - 4).toNatClampNeg = _
          rw [q_i7 hf.1 hf.2 w4i p2]
          exact r38 _ _ (by omega) (by omega) (by omega)
        rw [this]
      · unfold s_sz s_dp s_nm s_sy s_sp
        rw [if_neg nw2, if_neg w3e, if_pos w4]
        refine ⟨by rw [ug_ne _ _ _ (by decide), m1 42 (by decide) (by decide) (by decide)]; exact ⟨a0, a1, a2, a3, a4⟩, by rw [ug_ne _ _ _ (by decide), m1 41 (by decide) (by decide) (by decide)]; exact r41, fun s hs => ?_, fun s j hs j4 j10 => ?_, ⟨b0, b1, b2, b3, b4, b5, b6, b7, b8, b9⟩, ht0⟩
        · rw [ug_ne _ _ _ (by decide), ug_ne _ _ _ (by decide), m2, m3]
          simp only [w4, true_and, q_9]
          have rs := r39 s hs
          by_cases h9 : 9 ≤ what.toInt
          · simp only [h9, if_true, not_true_eq_false, if_false]
            refine ⟨rs.1, ?_⟩
            unfold upd
            rw [rs.2]
            rfl
          · simp only [h9, if_false, not_false_eq_true, if_true]
            refine ⟨?_, rs.2⟩
            unfold upd
            rw [rs.1]
            rfl
        · rw [ug_self, q_i7 hb.1 hb.2 w4i p2, q_i11 hb.1 (by omega) (by omega) p2]
          unfold upd
          rw [q_mk_at hf.1 hf.2 hb.1 hb.2 s j hs j4 j10, m4 s j (by omega) j4 j10]
          by_cases hx : s = (q_slot t c).toInt.toNat ∧ j = what.toInt.toNat
          · rw [if_pos (show 7 * s + j - 4 = 7 * (q_slot t c).toInt.toNat + what.toInt.toNat - 4 by omega), if_pos (show 11 * s + j = 11 * (q_slot t c).toInt.toNat + what.toInt.toNat by omega)]
          · rw [if_neg (show ¬ 7 * s + j - 4 = 7 * (q_slot t c).toInt.toNat + what.toInt.toNat - 4 by omega), if_neg (show ¬ 11 * s + j = 11 * (q_slot t c).toInt.toNat + what.toInt.toNat by omega)]
            by_cases hy : s = (q_slot t c).toInt.toNat ∧ (9 ≤ j ↔ 9 ≤ what.toInt)
            · rw [if_pos hy, if_pos ⟨hy.1, j4, hy.2⟩]
              exact r38 _ _ (by omega) j4 j10
            · rw [if_neg hy, if_neg (fun hh => hy ⟨hh.1, hh.2.2⟩)]
              exact r38 _ _ hs j4 j10
  · have w3i : what.toInt < 3 := by rw [q_lei] at w3; omega
    have w2 : what ≤ 2 := by rw [q_lei]; omega
    have w0 : 0 ≤ what := by rw [q_lei]; exact p1
    have tn : what.toNatClampNeg = what.toInt.toNat := rfl
    rw [if_neg w3, q1.R 7 42 rfl, Option.bind_some, q1.ld 42 0 what rfl (by omega) (by omega) w0 (by rw [q_lti]; show _ < (10 : Int); omega) (by decide), Option.bind_some, Option.bind_some]
    obtain ⟨w2', g2, q2, F2⟩ := q1.st 42 0 what v rfl (by omega) (by omega) w0 (by rw [q_lti]; show _ < (10 : Int); omega) (by decide)
    rw [g2, Option.bind_some]
    have hvb := q_within_b hv
    refine ⟨w2', _, ?_, q2, ?_, fun k h1 h2 h3 h4 h5 => ug_ne _ _ _ h5, F1.tr F2⟩
    · have : q_val sz dp nm sy sp what t c = g 42 what.toNatClampNeg := by
        unfold q_val
        rw [if_pos w2]
        have : what.toNatClampNeg = 0 ∨ what.toNatClampNeg = 1 ∨ what.toNatClampNeg = 2 := by omega
        rcases this with e | e | e <;> rw [e] <;> assumption
      rw [this]
    · unfold s_sz s_dp s_nm s_sy s_sp
      rw [if_pos w2, if_neg (by intro e; rw [e] at w3i; omega), if_neg (by rw [q_lei]; omega), if_neg (by rw [q_lei]; omega), if_neg (by rw [q_lei]; omega)]
      have hw012 : what = 0 ∨ what = 1 ∨ what = 2 := by
        have : what.toInt = 0 ∨ what.toInt = 1 ∨ what.toInt = 2 := by omega
        rcases this with e | e | e
        · exact Or.inl (q_i32 e)
        · exact Or.inr (Or.inl (q_i32 e))
        · exact Or.inr (Or.inr (q_i32 e))
      have o38 : ∀ i x, ug g 42 i x 38 = g 38 := fun i x => ug_ne _ _ _ (by decide)
      have o39 : ∀ i x, ug g 42 i x 39 = g 39 := fun i x => ug_ne _ _ _ (by decide)
      have o40 : ∀ i x, ug g 42 i x 40 = g 40 := fun i x => ug_ne _ _ _ (by decide)
      have o41 : ∀ i x, ug g 42 i x 41 = g 41 := fun i x => ug_ne _ _ _ (by decide)
      have tprod : ∀ a b : Int32, 1 ≤ a.toInt → a.toInt ≤ 2000 → 1 ≤ b.toInt → b.toInt ≤ 2000 → ¬ 24 < q_many a tw * q_many b th → q_mi a.toInt tw.toInt * q_mi b.toInt th.toInt ≤ 24 := by
        intro a b c1 c2 c3 c4 hh
        have f1 := q_many_i c1 c2 b6 (by omega : tw.toInt ≤ 65536)
        have f2 := q_many_i c3 c4 b8 (by omega : th.toInt ≤ 65536)
        have g1 := q_mi_b c1 b6
        have g2 := q_mi_b c3 b8
        have s1 : 0 ≤ q_mi a.toInt tw.toInt * q_mi b.toInt th.toInt := Int.mul_nonneg (by omega) (by omega)
        have s2 : q_mi a.toInt tw.toInt * q_mi b.toInt th.toInt ≤ 2000 * 2000 := Int.mul_le_mul (by omega) (by omega) (by omega) (by omega)
        have f3 : (q_many a tw * q_many b th).toInt = q_mi a.toInt tw.toInt * q_mi b.toInt th.toInt := by
          rw [q_mul (by rw [f1, f2]; omega) (by rw [f1, f2]; omega), f1, f2]
        rw [q_lti, f3] at hh
        have e24 : (24 : Int32).toInt = 24 := rfl
        omega
      rcases hw012 with e | e | e
      · subst e
        have hv1 : 1 ≤ v.toInt ∧ v.toInt ≤ 2000 := hvb
        refine ⟨?_, by rw [o41]; exact r41, by rw [o39, o40]; exact r39, by rw [o38]; exact r38, ⟨hv1.1, hv1.2, b2, b3, b4, b5, b6, b7, b8, b9⟩, tprod v (sz 1) hv1.1 hv1.2 b2 b3 ht⟩
        rw [ug_self]
        exact ⟨rfl, a1, a2, a3, a4⟩
      · subst e
        have hv1 : 1 ≤ v.toInt ∧ v.toInt ≤ 2000 := hvb
        refine ⟨?_, by rw [o41]; exact r41, by rw [o39, o40]; exact r39, by rw [o38]; exact r38, ⟨b0, b1, hv1.1, hv1.2, b4, b5, b6, b7, b8, b9⟩, tprod (sz 0) v b0 b1 hv1.1 hv1.2 ht⟩
        rw [ug_self]
        exact ⟨a0, rfl, a2, a3, a4⟩
      · subst e
        have hv1 : 1 ≤ v.toInt ∧ v.toInt ≤ 4 := hvb
        refine ⟨?_, by rw [o41]; exact r41, by rw [o39, o40]; exact r39, by rw [o38]; exact r38, ⟨b0, b1, b2, b3, hv1.1, hv1.2, b6, b7, b8, b9⟩, ht0⟩
        rw [ug_self]
        exact ⟨a0, a1, rfl, a3, a4⟩
end
