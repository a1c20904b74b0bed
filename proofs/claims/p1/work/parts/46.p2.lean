section
variable {w : PW} {b : Nat} {tw th : Int32} {sz dp nm sy sp : Nat → Int32}
theorem q_upd2 (f : Nat → Int32) (k : Nat) (x y : Int32) : upd (upd f k x) k y = upd f k y := by
  funext j
  unfold upd
  split <;> rfl
theorem qS.change (h : qS w b tw th sz dp nm sy sp) (what t c v : Int32) (h0 : 0 ≤ what) (h1 : what ≤ 10) :
    ∃ w', fSettings_change b what t c v w = some (.inl none, w') ∧ qS w' b tw th (if what ≤ 2 then upd sz what.toNatClampNeg v else sz) (if what = 3 then q_dep dp c v 4 0 else dp)
      (if 4 ≤ what then upd (q_mk what (q_fc (if 9 ≤ what then sp else sy) t c) (q_slot t c) nm) (q_slot t c * 7 + what - 4).toNatClampNeg v else nm) (if 4 ≤ what ∧ ¬ 9 ≤ what then upd sy (q_slot t c).toNatClampNeg 1 else sy) (if 9 ≤ what then upd sp (q_slot t c).toNatClampNeg 1 else sp) ∧ qI b (b + 6) w w' := by
  unfold fSettings_change
  obtain ⟨fs, ho⟩ := h.obj
  by_cases k1 : (2 : Int32) < what
  · have k1' : ¬ what ≤ 2 := by grind
    by_cases k2 : what = 3
    · subst k2
      simp only [k1, k1', if_true, if_false, not_true_eq_false, ho, Option.bind_some, show ¬ (4 : Int32) ≤ 3 by decide, show ¬ (9 : Int32) ≤ 3 by decide, false_and]
      obtain ⟨w1, g1, q1, F1⟩ := h.changeDepth c v
      rw [g1]
      exact ⟨w1, rfl, q1, F1⟩
    · have k3 : 4 ≤ what := by grind
      simp only [k1, k1', k2, k3, if_true, if_false, not_false_eq_true, ho, Option.bind_some, true_and]
      obtain ⟨w1, g1, q1, F1⟩ := h.makeSegment what t c
      have hb := q_slot_b t c
      rw [g1, q_call, q_kV, q_slotOf, q_call, q_kI]
      obtain ⟨fs1, ho1⟩ := q1.obj
      rw [ho1, Option.bind_some]
      obtain ⟨w2, g2, q2, F2⟩ := q1.hold (q_slot t c) what v hb.1 hb.2 k3 h1
      rw [g2]
      refine ⟨w2, rfl, ?_, F1.tr F2⟩
      by_cases k4 : 9 ≤ what
      · simp only [k4, if_true, or_true, and_true, not_true_eq_false, if_false] at q2 ⊢
        by_cases he : q_slot t c = q_fc sp t c
        · rw [if_neg (fun hh => hh he)] at q2
          exact q2
        · rw [if_pos he, q_upd2] at q2
          exact q2
      · simp only [k4, if_false, or_false, and_false, not_false_eq_true, if_true] at q2 ⊢
        by_cases he : q_slot t c = q_fc sy t c
        · rw [if_pos he] at q2
          exact q2
        · rw [if_neg he, q_upd2] at q2
          exact q2
  · have k1' : what ≤ 2 := by grind
    have k2 : ¬ what = 3 := by grind
    have k3 : ¬ 4 ≤ what := by grind
    have k4 : ¬ 9 ≤ what := by grind
    simp only [k1, k1', k2, k3, k4, if_true, if_false, false_and]
    obtain ⟨a0, a1, a2, a3, a4, a5, a6⟩ := h
    rw [q_getR (k := 0) a0 rfl, Option.bind_some]
    obtain ⟨w1, g1, s1, F1⟩ := o_ast a1 h0 (by show _ < (3 : Int32); grind) (by decide) v
    rw [g1, Option.bind_some]
    exact ⟨w1, rfl, ⟨F1.at a0 (by omega), s1, F1.at a2 (by omega), F1.at a3 (by omega), F1.at a4 (by omega), F1.at a5 (by omega), a6⟩, F1.i (by omega) (by omega)⟩
/-- the start of the settings -/
def q_rst (nm : Nat → Int32) : Nat → Int32 → Nat → Int32
  | 0, _ => nm
  | n + 1, k => q_rst (upd nm (k - 4).toNatClampNeg (pz_tab 2 k.toNatClampNeg)) n (k + 1)
theorem q_tabs (j : Nat) (k : Int32) (h0 : 0 ≤ k) (h1 : k ≤ 10) : p_tab j k = some (pz_tab j k.toNatClampNeg) := by
  unfold p_tab
  rw [if_neg]
  exact q_inb h0 (by show k < (11 : Int32); grind) (by decide)
theorem qS.r65 : ∀ (n : Nat) (k : Int32) (F : Nat) (w : PW) (nm sy sp : Nat → Int32), qS w b tw th sz dp nm sy sp → n < F → 4 ≤ k → k.toInt + n = 11 → ∃ w', fSettings_restart_65 F b k w = some (.inl none, w') ∧ (∃ sy' sp', qS w' b tw th sz dp (q_rst nm n k) sy' sp' ∧ (∀ i, i ≠ 0 → sy' i = sy i ∧ sp' i = sp i) ∧ (sy' 0 = if 2 < n then 1 else sy 0) ∧ (sp' 0 = if 0 < n then 1 else sp 0)) ∧ qI b (b + 6) w w'
  | 0, k, F + 1, w, nm, sy, sp, h, _, h4, hk => by
    have : (10 : Int32) < k := by
      rw [Int32.lt_iff_toInt_lt]
      show (10 : Int) < _
      omega
    rw [fSettings_restart_65, if_pos this]
    exact ⟨w, rfl, ⟨sy, sp, h, fun _ _ => ⟨rfl, rfl⟩, by simp, by simp⟩, qI.rf⟩
  | n + 1, k, F + 1, w, nm, sy, sp, h, hF, h4, hk => by
    have h1 : ¬ (10 : Int32) < k := by
      rw [Int32.lt_iff_toInt_lt]
      show ¬ (10 : Int) < _
      omega
    have hk10 : k ≤ 10 := by grind
    obtain ⟨fs, ho⟩ := h.obj
    rw [fSettings_restart_65, if_neg h1, q_tabs 2 k (by grind) hk10, Option.bind_some, ho, Option.bind_some]
    obtain ⟨w1, g1, q1, F1⟩ := h.hold 0 k (pz_tab 2 k.toNatClampNeg) (by decide) (by decide) h4 hk10
    rw [g1, q_call, q_kV]
    have e1 : (1 : Int32).toInt = 1 := rfl
    have hk3 := q_bot k
    have e3 : (k + 1).toInt = k.toInt + 1 := by rw [q_add (by omega) (by omega)]; rfl
    have e4 : (0 : Int32) * 7 + k - 4 = k - 4 := by grind
    rw [e4] at q1
    obtain ⟨w2, g2, ⟨sy', sp', q2, r1, r2, r3⟩, F2⟩ := qS.r65 n (k + 1) F w1 _ _ _ q1 (by omega) (by grind) (by omega)
    refine ⟨w2, g2, ⟨sy', sp', q2, fun i hi => ?_, ?_, ?_⟩, F1.tr F2⟩
    · have hz : (0 : Int32).toNatClampNeg = 0 := rfl
      obtain ⟨r4, r5⟩ := r1 i hi
      rw [r4, r5, hz]
      unfold upd
      constructor <;> split <;> simp [hi]
    · have hz : (0 : Int32).toNatClampNeg = 0 := rfl
      rw [r2, hz]
      have : (9 ≤ k) ↔ n + 1 ≤ 2 := by
        rw [Int32.le_iff_toInt_le]
        show (9 : Int) ≤ _ ↔ _
        omega
      unfold upd
      by_cases hn : 2 < n
      · rw [if_pos hn, if_pos (by omega)]
      · rw [if_neg hn]
        by_cases hn2 : n + 1 ≤ 2
        · rw [if_pos (this.mpr hn2), if_neg (by omega)]
        · rw [if_neg (fun hh => hn2 (this.mp hh)), if_pos (show 2 < n + 1 by omega)]
          rfl
    · have hz : (0 : Int32).toNatClampNeg = 0 := rfl
      rw [r3, hz, if_pos (by omega : 0 < n + 1)]
      by_cases hn : 0 < n
      · rw [if_pos hn]
      · rw [if_neg hn]
        have : 9 ≤ k := by
          rw [Int32.le_iff_toInt_le]
          show (9 : Int) ≤ _
          omega
        rw [if_pos this]
        rfl
def q_all8 (dp : Nat → Int32) : Nat → Nat → Nat → Int32
  | 0, _ => dp
  | n + 1, i => q_all8 (upd dp i 8) n (i + 1)
theorem qS.r37 : ∀ (n i F : Nat) (w : PW) (dp : Nat → Int32), qS w b tw th sz dp nm sy sp → n < F → i + n = 4 → ∃ w', fSettings_restart_37 F b (Int32.ofNat i) w = some (.inl none, w') ∧ (∃ sy' sp', qS w' b tw th sz (q_all8 dp n i) (q_rst nm 7 4) sy' sp' ∧ (∀ j, j < 125 → sy' j = (if j = 0 then 1 else 0) ∧ sp' j = (if j = 0 then 1 else 0))) ∧ qI b (b + 6) w w'
  | 0, i, F + 1, w, dp, h, _, hi => by
    have : i = 4 := by omega
    subst this
    obtain ⟨fs, ho⟩ := h.obj
    rw [fSettings_restart_37, if_pos (by decide), ho, Option.bind_some]
    obtain ⟨w1, g1, q1, F1⟩ := h.forgetSegments
    rw [g1, q_call, q_kV]
    obtain ⟨w2, g2, ⟨sy', sp', q2, r1, r2, r3⟩, F2⟩ := qS.r65 7 4 FUEL w1 _ _ _ q1 (by decide) (by decide) rfl
    refine ⟨w2, g2, ⟨sy', sp', q2, fun j hj => ?_⟩, F1.tr F2⟩
    by_cases hj0 : j = 0
    · subst hj0
      rw [r2, r3]
      exact ⟨rfl, rfl⟩
    · obtain ⟨r4, r5⟩ := r1 j hj0
      rw [r4, r5, if_neg hj0]
      unfold q_zero
      simp [hj]
  | n + 1, i, F + 1, w, dp, h, hF, hi => by
    have h1 : ¬ (4 : Int32) ≤ Int32.ofNat i := fun k => by
      have := (q_le (m := 4) (n := i) (by omega) (by omega)).mp k
      omega
    have e1 := q_tno (n := i) (by omega)
    obtain ⟨a0, a1, a2, a3, a4, a5, a6⟩ := h
    rw [fSettings_restart_37, if_neg h1, q_getR (k := 1) a0 rfl, Option.bind_some, q_tabs 2 3 (by decide) (by decide), Option.bind_some]
    obtain ⟨w1, g1, s1, F1⟩ := o_ast a2 (q_ge0 i (by omega)) ((q_lt (by omega) (by omega)).mpr (by omega)) (by decide) (pz_tab 2 (3 : Int32).toNatClampNeg)
    rw [g1, Option.bind_some]
    rw [e1] at s1
    have hq : qS w1 b tw th sz (upd dp i 8) nm sy sp := ⟨F1.at a0 (by omega), F1.at a1 (by omega), s1, F1.at a3 (by omega), F1.at a4 (by omega), F1.at a5 (by omega), a6⟩
    obtain ⟨w2, g2, q2, F2⟩ := qS.r37 n (i + 1) F w1 _ hq (by omega) (by omega)
    refine ⟨w2, ?_, q2, (F1.i (by omega) (by omega)).tr F2⟩
    show fSettings_restart_37 F b (Int32.ofNat i + 1) w1 = _
    rw [show Int32.ofNat i + 1 = Int32.ofNat (i + 1) from (Int32.ofNat_add i 1).symm, g2]
theorem qS.restart (h : qS w b tw th sz dp nm sy sp) (x y : Int32) : ∃ w' sy' sp', fSettings_restart b x y w = some (.inl none, w') ∧ qS w' b x y (upd (upd (upd sz 0 x) 1 y) 2 1) (q_all8 dp 4 0) (q_rst nm 7 4) sy' sp' ∧ (∀ j, j < 125 → sy' j = (if j = 0 then 1 else 0) ∧ sp' j = (if j = 0 then 1 else 0)) ∧ qI b (b + 6) w w' := by
  obtain ⟨a0, a1, a2, a3, a4, a5, a6⟩ := h
  unfold fSettings_restart
  obtain ⟨w1, g1, s1, F1⟩ := o_put (k := 5) a0 (by simp) (.int x)
  rw [g1, Option.bind_some]
  obtain ⟨w2, g2, s2, F2⟩ := o_put (k := 6) s1 (by simp) (.int y)
  rw [g2, Option.bind_some]
  have s2' : w2.1[b]? = some (.inr (7, [.ref (b + 1), .ref (b + 2), .ref (b + 3), .ref (b + 4), .ref (b + 5), .int x, .int y])) := s2
  rw [q_getR (k := 0) s2' rfl, Option.bind_some]
  have c1 := F2.at (F1.at a1 (by omega)) (by omega)
  obtain ⟨w3, g3, s3, F3⟩ := o_ast c1 (i := 0) (by decide) (by decide) (by decide) x
  rw [g3, Option.bind_some, q_getR (k := 0) (F3.at s2' (by omega)) rfl, Option.bind_some]
  obtain ⟨w4, g4, s4, F4⟩ := o_ast s3 (i := 1) (by decide) (by decide) (by decide) y
  rw [g4, Option.bind_some, q_getR (k := 0) (F4.at (F3.at s2' (by omega)) (by omega)) rfl, Option.bind_some, q_tabs 2 2 (by decide) (by decide), Option.bind_some]
  obtain ⟨w5, g5, s5, F5⟩ := o_ast s4 (i := 2) (by decide) (by decide) (by decide) (pz_tab 2 (2 : Int32).toNatClampNeg)
  rw [g5, Option.bind_some]
  have hq : qS w5 b x y (upd (upd (upd sz 0 x) 1 y) 2 1) dp nm sy sp := ⟨F5.at (F4.at (F3.at s2' (by omega)) (by omega)) (by omega), s5, F5.at (F4.at (F3.at (F2.at (F1.at a2 (by omega)) (by omega)) (by omega)) (by omega)) (by omega), F5.at (F4.at (F3.at (F2.at (F1.at a3 (by omega)) (by omega)) (by omega)) (by omega)) (by omega), F5.at (F4.at (F3.at (F2.at (F1.at a4 (by omega)) (by omega)) (by omega)) (by omega)) (by omega), F5.at (F4.at (F3.at (F2.at (F1.at a5 (by omega)) (by omega)) (by omega)) (by omega)) (by omega), a6⟩
  obtain ⟨w6, g6, ⟨sy', sp', q6, r6⟩, F6⟩ := qS.r37 4 0 FUEL w5 dp hq (by decide) (by decide)
  exact ⟨w6, sy', sp', g6, q6, r6, ((((((F1.i (by omega) (by omega)).tr (F2.i (by omega) (by omega))).tr (F3.i (by omega) (by omega))).tr (F4.i (by omega) (by omega))).tr (F5.i (by omega) (by omega))).tr F6)⟩
end
