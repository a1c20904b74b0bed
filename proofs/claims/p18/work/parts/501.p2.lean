section
variable {w : PW} {b : Nat} {tw th : Int32} {sz dp nm sy sp : Nat → Int32}
theorem q_upd2 (f : Nat → Int32) (k : Nat) (x y : Int32) : upd (upd f k x) k y = upd f k y := by
  funext j
  unfold upd
  split <;> rfl
theorem qS.change (h : qS w b tw th sz dp nm sy sp) (what t c v : Int32) (h0 : 0 ≤ what) (h1 : what ≤ 10) :
    ∃ w', fSettings_change b what t c v w = some (.inl none, w') ∧ qS w' b tw th (if what ≤ 2 then upd sz what.toNatClampNeg v else sz) (if what = 3 then q_dep dp c v 4 0 else dp)
      (if 4 ≤ what then upd (q_mk what (q_fc (if 9 ≤ what then sp else sy) t c) (q_slot t c) nm) (q_slot t c * 7 + what - 4).toNatClampNeg v else nm) (if 4 ≤ what ∧ ¬ 9 ≤ what then upd sy (q_slot t c).toNatClampNeg 1 else sy) (if 9 ≤ what then upd sp (q_slot t c).toNatClampNeg 1 else sp) ∧ qI b (b + 6) w w' := by
  unfold fSettings_change
  obtain ⟨fs, ho⟩ := h.obj
  by_cases k1 : (2 : Int32) < what
  · have k1' : ¬ what ≤ 2 := by grind
    by_cases k2 : what = 3
    · subst k2
      simp only [k1, k1', if_true, if_false, not_true_eq_false, ho, Option.bind_some, show ¬ (4 : Int32) ≤ 3 by decide, show ¬ (9 : Int32) ≤ 3 by decide, false_and]
      obtain ⟨w1, g1, q1, F1⟩ := h.changeDepth c v
      rw [g1]
      exact ⟨w1, rfl, q1, F1⟩
    · have k3 : 4 ≤ what := by grind
      simp only [k1, k1', k2, k3, if_true, if_false, not_false_eq_true, ho, Option.bind_some, true_and]
      obtain ⟨w1, g1, q1, F1⟩ := h.makeSegment what t c
      have hb := q_slot_b t c
      rw [g1, q_call, q_kV, q_slotOf, q_call, q_kI]
      obtain ⟨fs1, ho1⟩ := q1.obj
      rw [ho1, Option.bind_some]
      obtain ⟨w2, g2, q2, F2⟩ := q1.hold (q_slot t c) what v hb.1 hb.2 k3 h1
      rw [g2]
      refine ⟨w2, rfl, ?_, F1.tr F2⟩
      by_cases k4 : 9 ≤ what
      · simp only [k4, if_true, or_true, and_true, not_true_eq_false, if_false] at q2 ⊢
        by_cases he : q_slot t c = q_fc sp t c
        · rw [if_neg (fun hh => hh he)] at q2
          exact q2
        · rw [if_pos he, q_upd2] at q2
          exact q2
      · simp only [k4, if_false, or_false, and_false, not_false_eq_true, if_true] at q2 ⊢
        by_cases he : q_slot t c = q_fc sy t c
        · rw [if_pos he] at q2
          exact q2
        · rw [if_neg he, q_upd2] at q2
          exact q2
  · have k1' : what ≤ 2 := by grind
    have k2 : ¬ what = 3 := by grind
    have k3 : ¬ 4 ≤ what := by grind
    have k4 : ¬ 9 ≤ what := by grind
    simp only [k1, k1', k2, k3, k4, if_true, if_false, false_and]
    obtain ⟨a0, a1, a2, a3, a4, a5, a6⟩ := h
    rw [q_getR (k := 0) a0 rfl, Option.bind_some]
    obtain ⟨w1, g1, s1, F1⟩ := o_ast a1 h0 (by show _ < (3 : Int32); grind) (by decide) v
    rw [g1, Option.bind_some]
    exact ⟨w1, rfl, ⟨F1.at a0 (by omega), s1, F1.at a2 (by omega), F1.at a3 (by omega), F1.at a4 (by omega), F1.at a5 (by omega), a6⟩, F1.i (by omega) (by omega)⟩
/-- the start of the settings -/
def q_rst (nm : Nat → Int32) : Nat → Int32 → Nat → Int32
  | 0, _ => nm
  | n + 1, k => q_rst (upd nm (k - 4).toNatClampNeg (pz_tab 2 k.toNatClampNeg)) n (k + 1)
theorem q_tabs (j : Nat) (k : Int32) (h0 : 0 ≤ k) (h1 : k ≤ 10) : p_tab j k = some (pz_tab j k.toNatClampNeg) := by
  unfold p_tab
  rw [if_neg]
  exact q_inb h0 (by show k < (11 : Int32); grind) (by decide)
theorem qS.r65 : ∀ (n : Nat) (k : Int32) (F : Nat) (w : PW) (nm sy sp : Nat → Int32), qS w b tw th sz dp nm sy sp → n < F → 4 ≤ k → k.toInt + n = 11 → ∃ w', fSettings_restart_65 F b k w = some (.inl none, w') ∧ (∃ sy' sp', qS w' b tw th sz dp (q_rst nm n k) sy' sp' ∧ (∀ i, i ≠ 0 → sy' i = sy i ∧ sp' i = sp i) ∧ (sy' 0 = if 2 < n then 1 else sy 0) ∧ (sp' 0 = if 0 < n then 1 else sp 0)) ∧ qI b (b + 6) w w'
  | 0, k, F + 1, w, nm, sy, sp, h, _, h4, hk => by
    have : (10 : Int32) < k := by
      rw [Int32.lt_iff_toInt_lt]
      show (10 : Int) < _
      omega
    rw [fSettings_restart_65, if_pos this]
    exact ⟨w, rfl, ⟨sy, sp, h, fun _ _ => ⟨rfl, rfl⟩, by simp, by simp⟩, qI.rf⟩
  | n + 1, k, F + 1, w, nm, sy, sp, h, hF, h4, hk => by
    have h1 : ¬ (10 : Int32) < k := by
      rw [Int32.lt_iff_toInt_lt]
      show ¬ (10 : Int) < _
      omega
    have hk10 : k ≤ 10 := by grind
    obtain ⟨fs, ho⟩ := h.obj
    rw [fSettings_restart_65, if_neg h1, q_tabs 2 k (by grind) hk10, Option.bind_some, ho, Option.bind_some]
    obtain ⟨w1, g1, q1, F1⟩ := h.hold 0 k (pz_tab 2 k.toNatClampNeg) (by decide) (by decide) h4 hk10
    rw [g1, q_call, q_kV]
    have e1 : (1 : Int32).toInt = 1 := rfl
    have hk3 := q_bot k
    have e3 : (k + 1).toInt = k.toInt + 1 := by rw [q_add (by omega) (by omega)]; rfl
    have e4 : (0 : Int32) * 7 + k - 4 = k - 4 := by grind
    rw [e4] at q1
    obtain ⟨w2, g2, ⟨sy', sp', q2, r1, r2, r3⟩, F2⟩ := qS.r65 n (k + 1) F w1 _ _ _ q1 (by omega) (by grind) (by omega)
    refine ⟨w2, g2, ⟨sy', sp', q2, fun i hi => ?_, ?_, ?_⟩, F1.tr F2⟩
    · have hz : (0 : Int32).toNatClampNeg = 0 := rfl
      obtain ⟨r4, r5⟩ := r1 i hi
      rw [r4, r5, hz]
      unfold upd
      constructor <;> split <;> simp [hi]
    · have hz : (0 : Int32).toNatClampNeg = 0 := rfl
      rw [r2, hz]
      have : (9 ≤ k) ↔ n + 1 ≤ 2 := by
        rw [Int32.le_iff_toInt_le]
        show (9 : Int) ≤ _ ↔ _
        omega
      unfold upd
      by_cases hn : 2 < n
      · rw [if_pos hn, if_pos (by omega)]
      · rw [if_neg hn]
        by_cases hn2 : n + 1 ≤ 2
        · rw [if_pos (this.mpr hn2), if_neg (by omega)]
        · rw [if_neg (fun hh => hn2 (this.mp hh)), if_pos (show 2 < n + 1 by omega)]
          rfl
    · have hz : (0 : Int32).toNatClampNeg = 0 := rfl
      rw [r3, hz, if_pos (by omega : 0 < n + 1)]
      by_cases hn : 0 < n
      · rw [if_pos hn]
      · rw [if_neg hn]
        have : 9 ≤ k := by
          rw [Int32.le_iff_toInt_le]
          show (9 : Int) ≤ _
          omega
        rw [if_pos this]
        rfl
def q_all8 (dp : Nat → Int32) : Nat → Nat → Nat → Int32
  | 0, _ => dp
  | n + 1, i => q_all8 (upd dp i 8) n (i + 1)
theorem qS.r37 : ∀ (n i F : Nat) (w : PW) (dp : Nat → Int32), qS w b tw th sz dp nm sy sp → n < F → i + n = 4 → ∃ w', fSettings_restart_37 F b (Int32.ofNat i) w = some (.inl none, w') ∧ (∃ sy' sp', qS w' b tw th sz (q_all8 dp n i) (q_rst nm 7 4) sy' sp' ∧ (∀ j, j < 125 → sy' j = (if j = 0 then 1 else 0) ∧ sp' j = (if j = 0 then 1 else 0))) ∧ qI b (b + 6) w w'
  | 0, i, F + 1, w, dp, h, _, hi => by
    have : i = 4 := by omega
    subst this
    obtain ⟨fs, ho⟩ := h.obj
    rw [fSettings_restart_37, if_pos (by decide), ho, Option.bind_some]
    obtain ⟨w1, g1, q1, F1⟩ := h.forgetSegments
    rw [g1, q_call, q_kV]
    obtain ⟨w2, g2, ⟨sy', sp', q2, r1, r2, r3⟩, F2⟩ := qS.r65 7 4 FUEL w1 _ _ _ q1 (by decide) (by decide) rfl
    refine ⟨w2, g2, ⟨sy', sp', q2, fun j hj => ?_⟩, F1.tr F2⟩
    by_cases hj0 : j = 0
    · subst hj0
      rw [r2, r3]
      exact ⟨rfl, rfl⟩
    · obtain ⟨r4, r5⟩ := r1 j hj0
      rw [r4, r5, if_neg hj0]
      unfold q_zero
      simp [hj]
  | n + 1, i, F + 1, w, dp, h, hF, hi => by
    have h1 : ¬ (4 : Int32) ≤ Int32.ofNat i := fun k => by
      have := (q_le (m := 4) (n := i) (by omega) (by omega)).mp k
      omega
    have e1 := q_tno (n := i) (by omega)
    obtain ⟨a0, a1, a2, a3, a4, a5, a6⟩ := h
    rw [fSettings_restart_37, if_neg h1, q_getR (k := 1) a0 rfl, Option.bind_some, q_tabs 2 3 (by decide) (by decide), Option.bind_some]
    obtain ⟨w1, g1, s1, F1⟩ := o_ast a2 (q_ge0 i (by omega)) ((q_lt (by omega) (by omega)).mpr (by omega)) (by decide) (pz_tab 2 (3 : Int32).toNatClampNeg)
    rw [g1, Option.bind_some]
    rw [e1] at s1
    have hq : qS w1 b tw th sz (upd dp i 8) nm sy sp := ⟨F1.at a0 (by omega), F1.at a1 (by omega), s1, F1.at a3 (by omega), F1.at a4 (by omega), F1.at a5 (by omega), a6⟩
    obtain ⟨w2, g2, q2, F2⟩ := qS.r37 n (i + 1) F w1 _ hq (by omega) (by omega)
    refine ⟨w2, ?_, q2, (F1.i (by omega) (by omega)).tr F2⟩
    show fSettings_restart_37 F b (Int32.ofNat i + 1) w1 = _
    rw [show Int32.ofNat i + 1 = Int32.ofNat (i + 1) from (Int32.ofNat_add i 1).symm, g2]
theorem qS.restart (h : qS w b tw th sz dp nm sy sp) (x y : Int32) : ∃ w' sy' sp', fSettings_restart b x y w = some (.inl none, w') ∧ qS w' b x y (upd (upd (upd sz 0 x) 1 y) 2 1) (q_all8 dp 4 0) (q_rst nm 7 4) sy' sp' ∧ (∀ j, j < 125 → sy' j = (if j = 0 then 1 else 0) ∧ sp' j = (if j = 0 then 1 else 0)) ∧ qI b (b + 6) w w' := by
  obtain ⟨a0, a1, a2, a3, a4, a5, a6⟩ := h
  unfold fSettings_restart
  obtain ⟨w1, g1, s1, F1⟩ := o_put (k := 5) a0 (by simp) (.int x)
  rw [g1, Option.bind_some]
  obtain ⟨w2, g2, s2, F2⟩ := o_put (k := 6) s1 (by simp) (.int y)
  rw [g2, Option.bind_some]
  have s2' : w2.1[b]? = some (.inr (7, [.ref (b + 1), .ref (b + 2), .ref (b + 3), .ref (b + 4), .ref (b + 5), .int x, .int y])) := s2
  rw [q_getR (k := 0) s2' rfl, Option.bind_some]
  have c1 := F2.at (F1.at a1 (by omega)) (by omega)
  obtain ⟨w3, g3, s3, F3⟩ := o_ast c1 (i := 0) (by decide) (by decide) (by decide) x
  rw [g3, Option.bind_some, q_getR (k := 0) (F3.at s2' (by omega)) rfl, Option.bind_some]
  obtain ⟨w4, g4, s4, F4⟩ := o_ast s3 (i := 1) (by decide) (by decide) (by decide) y
  rw [g4, Option.bind_some, q_getR (k := 0) (F4.at (F3.at s2' (by omega)) (by omega)) rfl, Option.bind_some, q_tabs 2 2 (by decide) (by decide), Option.bind_some]
  obtain ⟨w5, g5, s5, F5⟩ := o_ast s4 (i := 2) (by decide) (by decide) (by decide) (pz_tab 2 (2 : Int32).toNatClampNeg)
  rw [g5, Option.bind_some]
  have hq : qS w5 b x y (upd (upd (upd sz 0 x) 1 y) 2 1) dp nm sy sp := ⟨F5.at (F4.at (F3.at s2' (by omega)) (by omega)) (by omega), s5, F5.at (F4.at (F3.at (F2.at (F1.at a2 (by omega)) (by omega)) (by omega)) (by omega)) (by omega), F5.at (F4.at (F3.at (F2.at (F1.at a3 (by omega)) (by omega)) (by omega)) (by omega)) (by omega), F5.at (F4.at (F3.at (F2.at (F1.at a4 (by omega)) (by omega)) (by omega)) (by omega)) (by omega), F5.at (F4.at (F3.at (F2.at (F1.at a5 (by omega)) (by omega)) (by omega)) (by omega)) (by omega), a6⟩
  obtain ⟨w6, g6, ⟨sy', sp', q6, r6⟩, F6⟩ := qS.r37 4 0 FUEL w5 dp hq (by decide) (by decide)
  exact ⟨w6, sy', sp', g6, q6, r6, ((((((F1.i (by omega) (by omega)).tr (F2.i (by omega) (by omega))).tr (F3.i (by omega) (by omega))).tr (F4.i (by omega) (by omega))).tr (F5.i (by omega) (by omega))).tr F6)⟩
end
/-- the reference: its object, and its rows from 38 to 65 -/
def mO (z : Nat → Int32) : List Value := [.int (z 0), .int (z 1), .int (z 2), .ref 38, .ref 39, .ref 40, .ref 41, .ref 42, .int (z 8), .ref 43, .ref 44, .ref 45, .ref 46, .ref 47, .int (z 14), .ref 48, .ref 49, .ref 50, .ref 51, .ref 52, .int (z 20), .ref 53, .int (z 22), .ref 54, .int (z 24), .int (z 25), .int (z 26), .int (z 27), .ref 55, .ref 56, .int (z 30), .ref 57, .ref 58, .ref 59, .ref 60, .ref 61, .ref 62, .ref 63, .ref 64, .int (z 39), .int (z 40), .int (z 41), .ref 65, .int (z 43)]
def mT (k : Nat) : Nat := if k = 39 ∨ k = 40 ∨ k = 48 ∨ k = 62 ∨ k = 63 then 2 else 0
def mL (k : Nat) : Nat := match k with
  | 38 => 2750 | 39 => 250 | 40 => 250 | 41 => 8 | 42 => 10 | 43 => 40 | 44 => 40 | 45 => 800 | 46 => 40 | 47 => 12000 | 48 => 8 | 49 => 8 | 50 => 8 | 51 => 320 | 52 => 40000 | 53 => 20000 | 54 => 20000 | 55 => 2600 | 56 => 2600 | 57 => 300 | 58 => 300 | 59 => 300 | 60 => 300 | 61 => 300 | 62 => 300 | 63 => 300 | 64 => 24 | _ => 200
def qM (w : PW) (z : Nat → Int32) (g : Nat → Nat → Int32) : Prop := w.1[37]? = some (.inr (10, mO z)) ∧ ∀ k, 38 ≤ k → k < 66 → w.1[k]? = some (.inl (mT k, mL k, .inl (g k)))
def ug (g : Nat → Nat → Int32) (k i : Nat) (v : Int32) : Nat → Nat → Int32 := fun j => if j = k then upd (g k) i v else g j
theorem ug_self (g : Nat → Nat → Int32) (k i : Nat) (v : Int32) : ug g k i v k = upd (g k) i v := if_pos rfl
theorem ug_ne (g : Nat → Nat → Int32) {k j : Nat} (i : Nat) (v : Int32) (h : j ≠ k) : ug g k i v j = g j := if_neg h
section
variable {w : PW} {z : Nat → Int32} {g : Nat → Nat → Int32}
theorem qM.keep {w' : PW} (h : qM w z g) (hk : ∀ x, 37 ≤ x → x < 66 → w'.1[x]? = w.1[x]?) : qM w' z g := ⟨by rw [hk 37 (by omega) (by omega), h.1], fun k h1 h2 => by rw [hk k (by omega) h2, h.2 k h1 h2]⟩
theorem qM.obj (h : qM w z g) : p_obj w 37 10 = some (mO z) := q_obj h.1
theorem qM.I (h : qM w z g) (k : Nat) (hk : (mO z)[k]? = some (.int (z k))) : p_getI w 37 10 k = some (z k) := q_getI h.1 hk
theorem qM.R (h : qM w z g) (k r : Nat) (hk : (mO z)[k]? = some (.ref r)) : p_getR w 37 10 k = some r := q_getR h.1 hk
theorem qM.ld (h : qM w z g) (k t : Nat) (i : Int32) (ht : mT k = t) (h1 : 38 ≤ k) (h2 : k < 66) (i0 : 0 ≤ i) (i1 : i < Int32.ofNat (mL k)) (hl : mL k < 2147483648) : p_ald w k t i = some (g k i.toNatClampNeg) := by
  subst ht
  exact q_ald (h.2 k h1 h2) i0 i1 hl
theorem qM.put (h : qM w z g) (k : Nat) (v : Int32) (hk : k < 44) (hs : (mO z).set k (.int v) = mO (upd z k v)) : ∃ w', p_put w 37 10 k (.int v) = some w' ∧ qM w' (upd z k v) g ∧ qI 37 66 w w' := by
  obtain ⟨w', g1, s1, F1⟩ := o_put (k := k) h.1 hk (.int v)
  refine ⟨w', g1, ⟨by rw [s1, hs], fun j h1 h2 => F1.at (h.2 j h1 h2) (by omega)⟩, F1.i (by omega) (by omega)⟩
theorem qM.st (h : qM w z g) (k t : Nat) (i v : Int32) (ht : mT k = t) (h1 : 38 ≤ k) (h2 : k < 66) (i0 : 0 ≤ i) (i1 : i < Int32.ofNat (mL k)) (hl : mL k < 2147483648) : ∃ w', p_ast w k t i v = some w' ∧ qM w' z (ug g k i.toNatClampNeg v) ∧ qI 37 66 w w' := by
  subst ht
  obtain ⟨w', g1, s1, F1⟩ := o_ast (h.2 k h1 h2) i0 i1 hl v
  refine ⟨w', g1, ⟨F1.at h.1 (by omega), fun j k1 k2 => ?_⟩, F1.i (by omega) (by omega)⟩
  by_cases e : j = k
  · subst e
    rw [s1, ug_self]
  · rw [F1.at (h.2 j k1 k2) e, ug_ne g _ _ e]
def q_pl (t c : Int32) : Int32 := 5 * (t + 1) + c + 1
theorem q_placeOf (t c : Int32) (w : PW) : fD_placeOf t c w = some (.inl (some (.int (q_pl t c))), w) := rfl
theorem qM.mput (h : qM w z g) (pl what v : Int32) (p0 : 0 ≤ pl) (p1 : pl < 250) (w0 : 0 ≤ what) (w1 : what ≤ 10) : ∃ w', fD_put 37 pl what v w = some (.inl none, w') ∧ qM w' z (ug g 38 (11 * pl + what).toNatClampNeg v) ∧ qI 37 66 w w' := by
  unfold fD_put
  rw [h.R 3 38 rfl, Option.bind_some]
  obtain ⟨w', g1, q1, F1⟩ := h.st 38 0 (11 * pl + what) v rfl (by omega) (by omega) (by grind) (by show _ < (2750 : Int32); grind) (by decide)
  rw [g1]
  exact ⟨w', rfl, q1, F1⟩
theorem qM.mget (h : qM w z g) (pl what : Int32) (p0 : 0 ≤ pl) (p1 : pl < 250) (w0 : 0 ≤ what) (w1 : what ≤ 10) : fD_get 37 pl what w = some (.inl (some (.int (g 38 (11 * pl + what).toNatClampNeg))), w) := by
  unfold fD_get
  rw [h.R 3 38 rfl, Option.bind_some, h.ld 38 0 (11 * pl + what) rfl (by omega) (by omega) (by grind) (by show _ < (2750 : Int32); grind) (by decide)]
  rfl
/-- the sizes' and rows' start -/
def q_bg2 (g : Nat → Nat → Int32) (t : Int32) : Nat → Nat → Nat → Nat → Int32
  | 0, _ => g
  | n + 1, i => q_bg2 (ug (ug g 39 (t + Int32.ofNat i).toNatClampNeg (if i = 0 then 1 else 0)) 40 (t + Int32.ofNat i).toNatClampNeg (if i = 0 then 1 else 0)) t n (i + 1)
def q_bg3 (g : Nat → Nat → Int32) (t : Int32) : Nat → Nat → Int32 := ug (ug (ug (ug (ug (ug (ug g 38 (11 * t + 4).toNatClampNeg 0) 38 (11 * t + 5).toNatClampNeg 1) 38 (11 * t + 6).toNatClampNeg 5) 38 (11 * t + 7).toNatClampNeg 4) 38 (11 * t + 8).toNatClampNeg 1) 38 (11 * t + 9).toNatClampNeg 8) 38 (11 * t + 10).toNatClampNeg 2
theorem qM.b98 (t : Int32) (t0 : 0 ≤ t) (t1 : t ≤ 125) : ∀ (n i F : Nat) (w : PW) (g : Nat → Nat → Int32), qM w z g → n < F → i + n = 125 → ∃ w', fD_begin_98 F 37 t (Int32.ofNat i) w = some (.inl none, w') ∧ qM w' z (q_bg3 (q_bg2 g t n i) t) ∧ qI 37 66 w w'
  | 0, i, F + 1, w, g, h, _, hi => by
    have : i = 125 := by omega
    subst this
    rw [fD_begin_98, if_pos (by decide)]
    simp only [h.obj, Option.bind_some]
    obtain ⟨w1, e1, h1, F1⟩ := h.mput t 4 0 t0 (by grind) (by decide) (by decide)
    rw [e1, q_call, q_kV]; simp only [h1.obj, Option.bind_some]
    obtain ⟨w2, e2, h2, F2⟩ := h1.mput t 5 1 t0 (by grind) (by decide) (by decide)
    rw [e2, q_call, q_kV]; simp only [h2.obj, Option.bind_some]
    obtain ⟨w3, e3, h3, F3⟩ := h2.mput t 6 5 t0 (by grind) (by decide) (by decide)
    rw [e3, q_call, q_kV]; simp only [h3.obj, Option.bind_some]
    obtain ⟨w4, e4, h4, F4⟩ := h3.mput t 7 4 t0 (by grind) (by decide) (by decide)
    rw [e4, q_call, q_kV]; simp only [h4.obj, Option.bind_some]
    obtain ⟨w5, e5, h5, F5⟩ := h4.mput t 8 1 t0 (by grind) (by decide) (by decide)
    rw [e5, q_call, q_kV]; simp only [h5.obj, Option.bind_some]
    obtain ⟨w6, e6, h6, F6⟩ := h5.mput t 9 8 t0 (by grind) (by decide) (by decide)
    rw [e6, q_call, q_kV]; simp only [h6.obj, Option.bind_some]
    obtain ⟨w7, e7, h7, F7⟩ := h6.mput t 10 2 t0 (by grind) (by decide) (by decide)
    rw [e7, q_call, q_kV]
    exact ⟨w7, rfl, h7, (((((F1.tr F2).tr F3).tr F4).tr F5).tr F6).tr F7⟩
  | n + 1, i, F + 1, w, g, h, hF, hi => by
    have h1 : ¬ (125 : Int32) ≤ Int32.ofNat i := fun k => by
      have := (q_le (m := 125) (n := i) (by omega) (by omega)).mp k
      omega
    have i0 : 0 ≤ Int32.ofNat i := q_ge0 i (by omega)
    have i1 : Int32.ofNat i < 125 := (q_lt (m := i) (n := 125) (by omega) (by omega)).mpr (by omega)
    have e2 : Int32.ofNat i + 1 = Int32.ofNat (i + 1) := (Int32.ofNat_add i 1).symm
    have hz : (Int32.ofNat i = 0) ↔ i = 0 := by
      constructor
      · intro e
        have := congrArg Int32.toNatClampNeg e
        rw [q_tno (by omega)] at this
        exact this
      · intro e; rw [e]; rfl
    have key : ∀ v : Int32, (v = 0 ∨ v = 1) → (v = if i = 0 then 1 else 0) → ∃ w', fD_begin_120 (fD_begin_98 F) 37 t (Int32.ofNat i) v (t + Int32.ofNat i) 39 w = some (.inl none, w') ∧ qM w' z (q_bg3 (q_bg2 g t (n + 1) i) t) ∧ qI 37 66 w w' := by
      intro v hv hv2
      unfold fD_begin_120
      have en : vp_nar .boolean v = v := by rcases hv with e | e <;> subst e <;> decide
      obtain ⟨w1, g1, q1, F1⟩ := h.st 39 2 (t + Int32.ofNat i) v rfl (by omega) (by omega) (by grind) (by show _ < (250 : Int32); grind) (by decide)
      rw [en, g1, Option.bind_some, q1.R 5 40 rfl, Option.bind_some]
      obtain ⟨w2, g2, q2, F2⟩ := q1.st 40 2 (t + Int32.ofNat i) v rfl (by omega) (by omega) (by grind) (by show _ < (250 : Int32); grind) (by decide)
      obtain ⟨w3, g3, q3, F3⟩ := qM.b98 t t0 t1 n (i + 1) F w2 _ q2 (by omega) (by omega)
      have e9 : (if ¬ Int32.ofNat i = 0 then ((p_ast w1 40 2 (t + Int32.ofNat i) (vp_nar .boolean (0 : Int32))).bind fun w137 => p_let (Int32.ofNat i + (1 : Int32)) fun (l3_138 : Int32) => (fD_begin_98 F) 37 t l3_138 w137) else ((p_ast w1 40 2 (t + Int32.ofNat i) (vp_nar .boolean (1 : Int32))).bind fun w137 => p_let (Int32.ofNat i + (1 : Int32)) fun (l3_138 : Int32) => (fD_begin_98 F) 37 t l3_138 w137)) = (p_ast w1 40 2 (t + Int32.ofNat i) v).bind fun w137 => fD_begin_98 F 37 t (Int32.ofNat (i + 1)) w137 := by
        rw [← e2]
        by_cases hi0 : i = 0
        · have hv3 : v = 1 := by rw [hv2, if_pos hi0]
          rw [if_neg (not_not_intro (hz.mpr hi0)), q_nar1, hv3]
          rfl
        · have hv3 : v = 0 := by rw [hv2, if_neg hi0]
          rw [if_pos (fun e => hi0 (hz.mp e)), q_nar0, hv3]
          rfl
      refine ⟨w3, ?_, ?_, (F1.tr F2).tr F3⟩
      · rw [e9, g2, Option.bind_some, g3]
      · rw [q_bg2, ← hv2]
        exact q3
    rw [fD_begin_98, if_neg h1, h.R 4 39 rfl, Option.bind_some]
    by_cases hi0 : i = 0
    · rw [if_neg (not_not_intro (hz.mpr hi0))]
      exact key 1 (Or.inr rfl) (by rw [if_pos hi0])
    · rw [if_pos (fun e => hi0 (hz.mp e))]
      exact key 0 (Or.inl rfl) (by rw [if_neg hi0])
end
section
variable {w : PW} {z : Nat → Int32} {g : Nat → Nat → Int32}
/-- what begin leaves: t the table (0 or 125) -/
def q_bgn (g g' : Nat → Nat → Int32) (x y : Int32) (t : Nat) : Prop :=
  (∀ k, k ≠ 38 → k ≠ 39 → k ≠ 40 → k ≠ 41 → k ≠ 42 → g' k = g k) ∧
  (∀ j, g' 42 j = if j = (if t = 0 then 0 else 5) then x else if j = (if t = 0 then 1 else 6) then y else if j = (if t = 0 then 2 else 7) then 1 else if j = (if t = 0 then 3 else 8) then x else if j = (if t = 0 then 4 else 9) then y else g 42 j) ∧
  (∀ j, g' 41 j = if (if t = 0 then 0 else 4) ≤ j ∧ j < (if t = 0 then 4 else 8) then 8 else g 41 j) ∧
  (∀ j, g' 39 j = if t ≤ j ∧ j < t + 125 then (if j = t then 1 else 0) else g 39 j) ∧ (∀ j, g' 40 j = if t ≤ j ∧ j < t + 125 then (if j = t then 1 else 0) else g 40 j) ∧
  ∀ j, g' 38 j = if j = 11 * t + 4 then 0 else if j = 11 * t + 5 then 1 else if j = 11 * t + 6 then 5 else if j = 11 * t + 7 then 4 else if j = 11 * t + 8 then 1 else if j = 11 * t + 9 then 8 else if j = 11 * t + 10 then 2 else g 38 j
theorem q_bg2_ne (t : Int32) (k : Nat) (h1 : k ≠ 39) (h2 : k ≠ 40) : ∀ (n i : Nat) (g : Nat → Nat → Int32), q_bg2 g t n i k = g k
  | 0, i, g => rfl
  | n + 1, i, g => by rw [q_bg2, q_bg2_ne t k h1 h2 n, ug_ne _ _ _ h2, ug_ne _ _ _ h1]
theorem q_bg2_at (t : Nat) (ht : t ≤ 125) (j : Nat) : ∀ (n i : Nat) (g : Nat → Nat → Int32), i + n = 125 → q_bg2 g (Int32.ofNat t) n i 39 j = (if t + i ≤ j ∧ j < t + 125 then (if j = t then 1 else 0) else g 39 j) ∧ q_bg2 g (Int32.ofNat t) n i 40 j = (if t + i ≤ j ∧ j < t + 125 then (if j = t then 1 else 0) else g 40 j)
  | 0, i, g, hi => by
    rw [q_bg2, if_neg (by omega), if_neg (by omega)]
    exact ⟨rfl, rfl⟩
  | n + 1, i, g, hi => by
    have e : (Int32.ofNat t + Int32.ofNat i).toNatClampNeg = t + i := by
      rw [← Int32.ofNat_add, q_tno (by omega)]
    rw [q_bg2, e]
    obtain ⟨k1, k2⟩ := q_bg2_at t ht j n (i + 1) (ug (ug g 39 (t + i) (if i = 0 then 1 else 0)) 40 (t + i) (if i = 0 then 1 else 0)) (by omega)
    rw [k1, k2, ug_self, ug_ne _ _ _ (by decide : (39 : Nat) ≠ 40), ug_self, ug_ne _ _ _ (by decide : (40 : Nat) ≠ 39)]
    unfold upd
    constructor <;> grind
theorem q_bg3_ne (g : Nat → Nat → Int32) (t : Int32) (k : Nat) (h : k ≠ 38) : q_bg3 g t k = g k := by
  unfold q_bg3
  rw [ug_ne _ _ _ h, ug_ne _ _ _ h, ug_ne _ _ _ h, ug_ne _ _ _ h, ug_ne _ _ _ h, ug_ne _ _ _ h, ug_ne _ _ _ h]
theorem q_11 (t k : Nat) (ht : t ≤ 125) (hk : k ≤ 10) : (11 * Int32.ofNat t + Int32.ofNat k).toNatClampNeg = 11 * t + k := by
  rw [show (11 : Int32) * Int32.ofNat t = Int32.ofNat (11 * t) from (Int32.ofNat_mul 11 t).symm, ← Int32.ofNat_add, q_tno (by omega)]
theorem q_bg3_at (g : Nat → Nat → Int32) (t : Nat) (ht : t ≤ 125) (j : Nat) : q_bg3 g (Int32.ofNat t) 38 j = if j = 11 * t + 4 then 0 else if j = 11 * t + 5 then 1 else if j = 11 * t + 6 then 5 else if j = 11 * t + 7 then 4 else if j = 11 * t + 8 then 1 else if j = 11 * t + 9 then 8 else if j = 11 * t + 10 then 2 else g 38 j := by
  unfold q_bg3
  have e : ∀ k : Nat, k ≤ 10 → (11 * Int32.ofNat t + Int32.ofNat k).toNatClampNeg = 11 * t + k := fun k hk => q_11 t k ht hk
  rw [show (11 * Int32.ofNat t + 4).toNatClampNeg = 11 * t + 4 from e 4 (by omega), show (11 * Int32.ofNat t + 5).toNatClampNeg = 11 * t + 5 from e 5 (by omega), show (11 * Int32.ofNat t + 6).toNatClampNeg = 11 * t + 6 from e 6 (by omega), show (11 * Int32.ofNat t + 7).toNatClampNeg = 11 * t + 7 from e 7 (by omega), show (11 * Int32.ofNat t + 8).toNatClampNeg = 11 * t + 8 from e 8 (by omega), show (11 * Int32.ofNat t + 9).toNatClampNeg = 11 * t + 9 from e 9 (by omega), show (11 * Int32.ofNat t + 10).toNatClampNeg = 11 * t + 10 from e 10 (by omega)]
  simp only [ug_self]
  unfold upd
  grind
def q_bg1 (g : Nat → Nat → Int32) (d : Nat) : Nat → Nat → Nat → Nat → Int32
  | 0, _ => g
  | n + 1, i => q_bg1 (ug g 41 (d + i) 8) d n (i + 1)
theorem q_bg1_ne (d k : Nat) (h : k ≠ 41) : ∀ (n i : Nat) (g : Nat → Nat → Int32), q_bg1 g d n i k = g k
  | 0, i, g => rfl
  | n + 1, i, g => by rw [q_bg1, q_bg1_ne d k h n, ug_ne _ _ _ h]
theorem q_bg1_at (d j : Nat) : ∀ (n i : Nat) (g : Nat → Nat → Int32), i + n = 4 → q_bg1 g d n i 41 j = if d + i ≤ j ∧ j < d + 4 then 8 else g 41 j
  | 0, i, g, hi => by
    rw [q_bg1, if_neg (by omega)]
  | n + 1, i, g, hi => by
    rw [q_bg1, q_bg1_at d j n (i + 1) _ (by omega), ug_self]
    unfold upd
    grind
theorem qM.b67 (t : Nat) (ht : t = 0 ∨ t = 125) : ∀ (n i F : Nat) (w : PW) (g : Nat → Nat → Int32), qM w z g → n < F → i + n = 4 → ∃ w', fD_begin_67 F 37 (Int32.ofNat t) (if t = 0 then 0 else 5) (Int32.ofNat i) w = some (.inl none, w') ∧ qM w' z (q_bg3 (q_bg2 (q_bg1 g (if t = 0 then 0 else 4) n i) (Int32.ofNat t) 125 0) (Int32.ofNat t)) ∧ qI 37 66 w w'
  | 0, i, F + 1, w, g, h, _, hi => by
    have : i = 4 := by omega
    subst this
    rw [fD_begin_67, if_pos (by decide)]
    exact qM.b98 (Int32.ofNat t) (q_ge0 t (by omega)) ((q_le (m := t) (n := 125) (by omega) (by omega)).mpr (by omega)) 125 0 FUEL w g h (by decide) (by decide)
  | n + 1, i, F + 1, w, g, h, hF, hi => by
    have h1 : ¬ (4 : Int32) ≤ Int32.ofNat i := fun k => by
      have := (q_le (m := 4) (n := i) (by omega) (by omega)).mp k
      omega
    have i0 : 0 ≤ Int32.ofNat i := q_ge0 i (by omega)
    have i1 : Int32.ofNat i < 4 := (q_lt (m := i) (n := 4) (by omega) (by omega)).mpr (by omega)
    have e2 : Int32.ofNat i + 1 = Int32.ofNat (i + 1) := (Int32.ofNat_add i 1).symm
    rw [fD_begin_67, if_neg h1, h.R 6 41 rfl, Option.bind_some]
    have key : ∀ d : Nat, d = (if t = 0 then 0 else 4) → ∃ w', fD_begin_85 (fD_begin_67 F) 37 (Int32.ofNat t) (if t = 0 then 0 else 5) (Int32.ofNat i) (Int32.ofNat d) 41 w = some (.inl none, w') ∧ qM w' z (q_bg3 (q_bg2 (q_bg1 g (if t = 0 then 0 else 4) (n + 1) i) (Int32.ofNat t) 125 0) (Int32.ofNat t)) ∧ qI 37 66 w w' := by
      intro d hd
      have hd4 : d ≤ 4 := by rw [hd]; split <;> omega
      have e3 : Int32.ofNat d + Int32.ofNat i = Int32.ofNat (d + i) := (Int32.ofNat_add d i).symm
      unfold fD_begin_85
      rw [e3]
      obtain ⟨w1, g1, q1, F1⟩ := h.st 41 0 (Int32.ofNat (d + i)) 8 rfl (by omega) (by omega) (q_ge0 _ (by omega)) ((q_lt (m := d + i) (n := 8) (by omega) (by omega)).mpr (by omega)) (by decide)
      rw [g1, Option.bind_some]
      rw [q_tno (by omega)] at q1
      obtain ⟨w2, g2, q2, F2⟩ := qM.b67 t ht n (i + 1) F w1 _ q1 (by omega) (by omega)
      refine ⟨w2, ?_, ?_, F1.tr F2⟩
      · show fD_begin_67 F 37 (Int32.ofNat t) _ (Int32.ofNat i + 1) w1 = _
        rw [e2, ← g2]
      · rw [q_bg1, ← hd]
        rw [← hd] at q2
        exact q2
    rcases ht with e | e
    · subst e
      exact key 0 rfl
    · subst e
      exact key 4 rfl
theorem qM.b9 (h : qM w z g) (t s : Nat) (ht : t = 0 ∨ t = 125) (hs : s = if t = 0 then 0 else 5) : ∃ w' g', fD_begin_9 37 (Int32.ofNat t) (Int32.ofNat s) w = some (.inl none, w') ∧ qM w' z g' ∧ q_bgn g g' (z 1) (z 2) t ∧ qI 37 66 w w' := by
  unfold fD_begin_9
  have hs5 : s ≤ 5 := by rw [hs]; split <;> omega
  have e : ∀ k : Nat, k ≤ 4 → Int32.ofNat s + Int32.ofNat k = Int32.ofNat (s + k) := fun k _ => (Int32.ofNat_add s k).symm
  rw [show (1 : Int32) = Int32.ofNat 1 from rfl, show (2 : Int32) = Int32.ofNat 2 from rfl, show (3 : Int32) = Int32.ofNat 3 from rfl, show (4 : Int32) = Int32.ofNat 4 from rfl, e 1 (by omega), e 2 (by omega), e 3 (by omega), e 4 (by omega)]
  have b : ∀ k : Nat, k ≤ 4 → (0 ≤ Int32.ofNat (s + k) ∧ Int32.ofNat (s + k) < Int32.ofNat (mL 42)) := fun k hk => ⟨q_ge0 _ (by omega), (q_lt (m := s + k) (n := 10) (by omega) (by omega)).mpr (by omega)⟩
  have tn : ∀ k : Nat, k ≤ 4 → (Int32.ofNat (s + k)).toNatClampNeg = s + k := fun k hk => q_tno (by omega)
  rw [h.R 7 42 rfl, Option.bind_some, h.I 1 rfl, Option.bind_some]
  obtain ⟨w1, g1, q1, F1⟩ := h.st 42 0 (Int32.ofNat s) (z 1) rfl (by omega) (by omega) (b 0 (by omega)).1 (b 0 (by omega)).2 (by decide)
  rw [g1, Option.bind_some, q1.R 7 42 rfl, Option.bind_some, q1.I 2 rfl, Option.bind_some]
  obtain ⟨w2, g2, q2, F2⟩ := q1.st 42 0 (Int32.ofNat (s + 1)) (z 2) rfl (by omega) (by omega) (b 1 (by omega)).1 (b 1 (by omega)).2 (by decide)
  rw [g2, Option.bind_some, q2.R 7 42 rfl, Option.bind_some]
  obtain ⟨w3, g3, q3, F3⟩ := q2.st 42 0 (Int32.ofNat (s + 2)) (Int32.ofNat 1) rfl (by omega) (by omega) (b 2 (by omega)).1 (b 2 (by omega)).2 (by decide)
  rw [g3, Option.bind_some, q3.R 7 42 rfl, Option.bind_some, q3.I 1 rfl, Option.bind_some]
  obtain ⟨w4, g4, q4, F4⟩ := q3.st 42 0 (Int32.ofNat (s + 3)) (z 1) rfl (by omega) (by omega) (b 3 (by omega)).1 (b 3 (by omega)).2 (by decide)
  rw [g4, Option.bind_some, q4.R 7 42 rfl, Option.bind_some, q4.I 2 rfl, Option.bind_some]
  obtain ⟨w5, g5, q5, F5⟩ := q4.st 42 0 (Int32.ofNat (s + 4)) (z 2) rfl (by omega) (by omega) (b 4 (by omega)).1 (b 4 (by omega)).2 (by decide)
  rw [g5, Option.bind_some]
  obtain ⟨w6, g6, q6, F6⟩ := qM.b67 t ht 4 0 FUEL w5 _ q5 (by decide) (by decide)
  refine ⟨w6, _, ?_, q6, ?_, ((((F1.tr F2).tr F3).tr F4).tr F5).tr F6⟩
  · rw [← g6, hs]
    rcases ht with e | e <;> subst e <;> rfl
  · rw [tn 1 (by omega), tn 2 (by omega), tn 3 (by omega), tn 4 (by omega), show (Int32.ofNat s).toNatClampNeg = s from tn 0 (by omega)]
    refine ⟨fun k h1 h2 h3 h4 h5 => ?_, fun j => ?_, fun j => ?_, fun j => ?_, fun j => ?_, fun j => ?_⟩
    · rw [q_bg3_ne _ _ _ h1, q_bg2_ne _ _ h2 h3, q_bg1_ne _ _ h4, ug_ne _ _ _ h5, ug_ne _ _ _ h5, ug_ne _ _ _ h5, ug_ne _ _ _ h5, ug_ne _ _ _ h5]
    · rw [q_bg3_ne _ _ _ (by decide), q_bg2_ne _ _ (by decide) (by decide), q_bg1_ne _ _ (by decide)]
      simp only [ug_self]
      unfold upd
      rcases ht with e | e
      · subst e
        rw [hs]
        simp only [if_true]
        grind
      · subst e
        rw [hs]
        simp only [show ¬ (125 : Nat) = 0 by decide, if_false]
        grind
    · rw [q_bg3_ne _ _ _ (by decide), q_bg2_ne _ _ (by decide) (by decide), q_bg1_at _ _ _ _ _ (by omega)]
      rw [ug_ne _ _ _ (by decide), ug_ne _ _ _ (by decide), ug_ne _ _ _ (by decide), ug_ne _ _ _ (by decide), ug_ne _ _ _ (by decide)]
      rcases ht with e | e <;> subst e <;> rfl
    · rw [q_bg3_ne _ _ _ (by decide), (q_bg2_at t (by omega) j 125 0 _ (by omega)).1, q_bg1_ne _ _ (by decide)]
      rw [ug_ne _ _ _ (by decide), ug_ne _ _ _ (by decide), ug_ne _ _ _ (by decide), ug_ne _ _ _ (by decide), ug_ne _ _ _ (by decide)]
      rfl
    · rw [q_bg3_ne _ _ _ (by decide), (q_bg2_at t (by omega) j 125 0 _ (by omega)).2, q_bg1_ne _ _ (by decide)]
      rw [ug_ne _ _ _ (by decide), ug_ne _ _ _ (by decide), ug_ne _ _ _ (by decide), ug_ne _ _ _ (by decide), ug_ne _ _ _ (by decide)]
      rfl
    · rw [q_bg3_at _ _ (by omega), q_bg2_ne _ _ (by decide) (by decide), q_bg1_ne _ _ (by decide)]
      rw [ug_ne _ _ _ (by decide), ug_ne _ _ _ (by decide), ug_ne _ _ _ (by decide), ug_ne _ _ _ (by decide), ug_ne _ _ _ (by decide)]
theorem qM.begin (h : qM w z g) (t : Nat) (ht : t = 0 ∨ t = 125) : ∃ w' g', fD_begin 37 (Int32.ofNat t) w = some (.inl none, w') ∧ qM w' z g' ∧ q_bgn g g' (z 1) (z 2) t ∧ qI 37 66 w w' := by
  unfold fD_begin
  rcases ht with e | e
  · subst e
    exact h.b9 0 0 (Or.inl rfl) rfl
  · subst e
    exact h.b9 125 5 (Or.inr rfl) rfl
theorem qM.clear (h : qM w z g) : ∃ w' z' g', fD_clear 37 w = some (.inl none, w') ∧ qM w' z' g' ∧ q_bgn g g' (z 1) (z 2) 0 ∧ (∀ k, z' k = if k = 0 ∨ k = 8 ∨ k = 14 ∨ k = 20 ∨ k = 22 ∨ k = 25 ∨ k = 27 ∨ k = 30 then 0 else z k) ∧ qI 37 66 w w' := by
  unfold fD_clear
  obtain ⟨w1, g1, q1, F1⟩ := h.put 0 0 (by omega) rfl
  rw [g1, Option.bind_some, q1.obj, Option.bind_some]
  obtain ⟨w2, g', g2, q2, r2, F2⟩ := q1.begin 0 (Or.inl rfl)
  rw [show (0 : Int32) = Int32.ofNat 0 from rfl, g2, q_call, q_kV, show Int32.ofNat 0 = (0 : Int32) from rfl]
  obtain ⟨w3, g3, q3, F3⟩ := q2.put 8 0 (by omega) rfl
  rw [g3, Option.bind_some]
  obtain ⟨w4, g4, q4, F4⟩ := q3.put 14 0 (by omega) rfl
  rw [g4, Option.bind_some]
  obtain ⟨w5, g5, q5, F5⟩ := q4.put 20 0 (by omega) rfl
  rw [g5, Option.bind_some]
  obtain ⟨w6, g6, q6, F6⟩ := q5.put 22 0 (by omega) rfl
  rw [g6, Option.bind_some, if_neg (not_not_intro (Or.inl rfl))]
  obtain ⟨w7, g7, q7, F7⟩ := q6.put 25 0 (by omega) rfl
  rw [g7, Option.bind_some]
  obtain ⟨w8, g8, q8, F8⟩ := q7.put 27 0 (by omega) rfl
  rw [g8, Option.bind_some]
  obtain ⟨w9, g9, q9, F9⟩ := q8.put 30 0 (by omega) rfl
  rw [g9, Option.bind_some]
  refine ⟨w9, _, g', rfl, q9, r2, fun k => ?_, (((((((F1.tr F2).tr F3).tr F4).tr F5).tr F6).tr F7).tr F8).tr F9⟩
  unfold upd
  grind
end
def c_set (a : Nat) : List va_E := [.inr (7, [.ref (a + 1), .ref (a + 2), .ref (a + 3), .ref (a + 4), .ref (a + 5), .int 1, .int 1]), .inl (0, 3, .inl fun _ => 0), .inl (0, 4, .inl fun _ => 0), .inl (0, 875, .inl fun _ => 0), .inl (2, 125, .inl fun _ => 0), .inl (2, 125, .inl fun _ => 0)]
theorem n_set (w : List va_E) (n m : Nat) (R : Nat → PW → PX) : (p_newO (w, n, m) 7 7 [.null, .null, .null, .null, .null, .int 0, .int 0] fun v5 w5 => p_call (fSettings_init v5 w5) <| p_kV fun w9 => R v5 w9) = R w.length (w ++ c_set w.length, n + 6, m + 1139) := by
  simp [p_newO, p_newA, p_put, p_obj, fSettings_init, p_call, p_kV, c_set]
theorem n_al (w : List va_E) (n m : Nat) (R : Nat → PW → PX) : (p_newO (w, n, m) 11 3 [.int 0, .null, .int 0] fun v16 w16 => p_call (fAL_init1 v16 w16) <| p_kV fun w20 => R v16 w20) = R w.length (w ++ [.inr (11, [.int 0, .retAddr 3, .int 0])], n + 1, m + 3) := by
  simp [p_newO, p_put, p_obj, fAL_init1, fAbstractList_init, fAbstractCollection_init, p_call, p_kV]
def c_byt (a : Nat) (mo : Int32) : List va_E := [.inr (2, [.int mo, .ref (a + 1), .int 0]), .inl (1, 32, .inl fun _ => 0)]
theorem n_byt (w : List va_E) (n m : Nat) (mo : Int32) (R : Nat → PW → PX) : (p_newO (w, n, m) 2 3 [.int 0, .null, .int 0] fun v16 w16 => p_call (fBytes_init v16 mo w16) <| p_kV fun w20 => R v16 w20) = R w.length (w ++ c_byt w.length mo, n + 2, m + 35) := by
  simp [p_newO, p_newA, p_put, p_obj, fBytes_init, p_call, p_kV, c_byt]
theorem n_wri (w : List va_E) (n m : Nat) (R : Nat → PW → PX) : (p_newO (w, n, m) 9 1 [.null] fun v16 w16 => p_call (fWriter_init v16 w16) <| p_kV fun w20 => R v16 w20) = R w.length (w ++ (.inr (9, [.ref (w.length + 1)]) :: c_byt (w.length + 1) 20000), n + 3, m + 36) := by
  simp [p_newO, p_newA, p_put, p_obj, fBytes_init, fWriter_init, p_call, p_kV, c_byt]
theorem n_box (w : List va_E) (n m : Nat) (b : Nat) (R : PW → PX) : p_call (fBoxReader_init w.length b (w ++ [.inr (1, [.null, .null, .null, .int 0, .int 0, .int 0])], n + 1, m + 6)) (p_kV R) = R (w ++ [.inr (1, [.ref b, .ref (w.length + 1), .ref (w.length + 3), .int (-1), .int 0, .int 0]), .inr (5, [.ref (w.length + 2), .int 0]), .inl (0, 8, .inl fun _ => 0), .inr (5, [.ref (w.length + 4), .int 0]), .inl (0, 8, .inl fun _ => 0)], n + 5, m + 26) := by
  simp [p_newO, p_newA, p_put, p_obj, fBoxReader_init, fNumbers_init, p_call, p_kV]
theorem n_hea (w : List va_E) (n m : Nat) (b c : Nat) (R : PW → PX) : p_call (fHeadReader_init w.length b c (w ++ [.inr (3, [.null, .null, .int 0])], n + 1, m + 3)) (p_kV R) = R (w ++ [.inr (3, [.ref b, .ref c, .int 0])], n + 1, m + 3) := by
  simp [p_put, p_obj, fHeadReader_init, p_call, p_kV]
theorem n_par (w : List va_E) (n m : Nat) (b c d : Nat) (R : PW → PX) : p_call (fPartReader_init w.length b c d (w ++ [.inr (6, [.null, .null, .null, .null, .null, .null, .null, .null, .null, .null, .null, .int 0, .int 0])], n + 1, m + 13)) (p_kV R) = R (w ++ [.inr (6, [.ref b, .ref c, .ref d, .ref (w.length + 1), .ref (w.length + 2), .ref (w.length + 3), .ref (w.length + 4), .ref (w.length + 5), .ref (w.length + 6), .ref (w.length + 7), .ref (w.length + 8), .int 0, .int 0]), .inl (0, 300, .inl fun _ => 0), .inl (0, 300, .inl fun _ => 0), .inl (0, 300, .inl fun _ => 0), .inl (0, 300, .inl fun _ => 0), .inl (0, 300, .inl fun _ => 0), .inl (2, 300, .inl fun _ => 0), .inl (0, 24, .inl fun _ => 0), .inl (0, 200, .inl fun _ => 0)], n + 9, m + 2037) := by
  simp [p_newA, p_put, p_obj, fPartReader_init, p_call, p_kV]

theorem z_put (fs : List Value) (T : List va_E) (q : Nat × Nat) (k : Nat) (v : Value) (h : k < fs.length) : p_put (.inr (0, fs) :: T, q) 0 0 k v = some (.inr (0, fs.set k v) :: T, q) := by
  simp [p_put, p_obj, h]
theorem z_getR (fs : List Value) (T : List va_E) (q : Nat × Nat) (k r : Nat) (h : fs[k]? = some (.ref r)) : p_getR (.inr (0, fs) :: T, q) 0 0 k = some r := by
  simp [p_getR, p_obj, h, p_vR]
theorem z_getR2 (fs : List Value) (T U : List va_E) (q : Nat × Nat) (k r : Nat) (h : fs[k]? = some (.ref r)) : p_getR ((.inr (0, fs) :: T) ++ U, q) 0 0 k = some r := z_getR fs (T ++ U) q k r h
theorem x_newO {w : List va_E} {n m ci N : Nat} {fs : List Value} {K} : p_newO (w, n, m) ci N fs K = K w.length (w ++ [.inr (ci, fs)], n + 1, m + N) := rfl
theorem z_app (c : va_E) (T U : List va_E) : (c :: T) ++ U = c :: (T ++ U) := rfl
def w_1 : List va_E := .inr (0, [.ref 1, .ref 7, .ref 8, .ref 9, .ref 12, .ref 14, .ref 16, .ref 22, .ref 27, .ref 28, .int 0]) :: (c_set 1 ++ [.inr (11, [.int 0, .retAddr 3, .int 0]), .inr (11, [.int 0, .retAddr 3, .int 0]), .inr (9, [.ref 10])] ++ c_byt 10 20000 ++ c_byt 12 20000 ++ c_byt 14 20000 ++ c_set 16 ++ [.inr (1, [.ref 14, .ref 23, .ref 25, .int (-1), .int 0, .int 0]), .inr (5, [.ref 24, .int 0]), .inl (0, 8, .inl fun _ => 0), .inr (5, [.ref 26, .int 0]), .inl (0, 8, .inl fun _ => 0), .inr (3, [.ref 14, .ref 16, .int 0]), .inr (6, [.ref 14, .ref 16, .ref 27, .ref 29, .ref 30, .ref 31, .ref 32, .ref 33, .ref 34, .ref 35, .ref 36, .int 0, .int 0]), .inl (0, 300, .inl fun _ => 0), .inl (0, 300, .inl fun _ => 0), .inl (0, 300, .inl fun _ => 0), .inl (0, 300, .inl fun _ => 0), .inl (0, 300, .inl fun _ => 0), .inl (2, 300, .inl fun _ => 0), .inl (0, 24, .inl fun _ => 0), .inl (0, 200, .inl fun _ => 0)])
theorem w_init (x y : Int32) : fW_init 0 x y ([.inr (0, [.null, .null, .null, .null, .null, .null, .null, .null, .null, .null, .int 0])], 1, 11) = p_call (fSettings_restart 1 (p_max 1 (p_min 2000 x)) (p_max 1 (p_min 2000 y)) (w_1, 37, 4467)) (p_kV fun w => some (.inl none, w)) := by
  unfold fW_init
  rw [n_set, z_app, z_put _ _ _ _ _ (by simp), Option.bind_some]
  rw [n_al, z_app, z_put _ _ _ _ _ (by simp), Option.bind_some]
  rw [n_al, z_app, z_put _ _ _ _ _ (by simp), Option.bind_some]
  rw [n_wri, z_app, z_put _ _ _ _ _ (by simp), Option.bind_some]
  rw [n_byt, z_app, z_put _ _ _ _ _ (by simp), Option.bind_some]
  rw [n_byt, z_app, z_put _ _ _ _ _ (by simp), Option.bind_some]
  rw [n_set, z_app, z_put _ _ _ _ _ (by simp), Option.bind_some]
  rw [x_newO, z_getR2 _ _ _ _ 5 14 rfl, Option.bind_some, n_box, z_app, z_put _ _ _ _ _ (by simp), Option.bind_some]
  rw [x_newO, z_getR2 _ _ _ _ 5 14 rfl, Option.bind_some, z_getR2 _ _ _ _ 6 16 rfl, Option.bind_some, n_hea, z_app, z_put _ _ _ _ _ (by simp), Option.bind_some]
  rw [x_newO, z_getR2 _ _ _ _ 5 14 rfl, Option.bind_some, z_getR2 _ _ _ _ 6 16 rfl, Option.bind_some, z_getR2 _ _ _ _ 8 27 rfl, Option.bind_some, n_par, z_app, z_put _ _ _ _ _ (by simp), Option.bind_some, if_neg (show ¬ ¬ ((0 : Int32) = 0 ∨ (0 : Int32) = 1) from not_not_intro (Or.inl rfl)), z_put _ _ _ _ _ (by simp), Option.bind_some]
  simp only [List.set_cons_zero, List.set_cons_succ, List.length_cons, List.length_nil, c_set, c_byt, List.cons_append, List.nil_append, Nat.reduceAdd, Nat.zero_add]
  rw [z_getR _ _ _ 0 1 rfl, Option.bind_some]
  unfold fW_nearestSide
  rw [q_call, q_kI, q_call, q_kI]
  simp only [w_1, c_set, c_byt, List.cons_append, List.nil_append, Nat.reduceAdd]
  rw [q_obj (c := 7) (a := 1) rfl, Option.bind_some]
def q_near (x : Int32) : Int32 := if 1 ≤ x then (if x ≤ 2000 then x else 2000) else 1
theorem q_nearOf (x : Int32) (w : PW) : fD_near x 1 2000 w = some (.inl (some (.int (q_near x))), w) := by
  unfold fD_near q_near
  (repeat' split) <;> rfl
theorem q_near_eq (x : Int32) : p_max 1 (p_min 2000 x) = q_near x := by
  unfold q_near p_max p_min
  grind
def m_row (a k : Nat) : List va_E := [.inl (0, 2750, .inl fun _ => 0), .inl (2, 250, .inl fun _ => 0), .inl (2, 250, .inl fun _ => 0), .inl (0, 8, .inl fun _ => 0), .inl (0, 10, .inl fun _ => 0), .inl (0, 40, .inl fun _ => 0), .inl (0, 40, .inl fun _ => 0), .inl (0, 800, .inl fun _ => 0), .inl (0, 40, .inl fun _ => 0), .inl (0, 12000, .inl fun _ => 0), .inl (2, 8, .inl fun _ => 0), .inl (0, 8, .inl fun _ => 0), .inl (0, 8, .inl fun _ => 0), .inl (0, 320, .inl fun _ => 0), .inl (0, 40000, .inl fun _ => 0), .inl (0, 20000, .inl fun _ => 0), .inl (0, 20000, .inl fun _ => 0), .inl (0, 2600, .inl fun _ => 0), .inl (0, 2600, .inl fun _ => 0), .inl (0, 300, .inl fun _ => 0), .inl (0, 300, .inl fun _ => 0), .inl (0, 300, .inl fun _ => 0), .inl (0, 300, .inl fun _ => 0), .inl (0, 300, .inl fun _ => 0), .inl (2, 300, .inl fun _ => 0), .inl (2, 300, .inl fun _ => 0), .inl (0, 24, .inl fun _ => 0), .inl (0, 200, .inl fun _ => 0)]
def m_obj (a : Nat) (x y : Int32) : List Value := [.int 0, .int x, .int y, .ref (a + 1), .ref (a + 2), .ref (a + 3), .ref (a + 4), .ref (a + 5), .int 0, .ref (a + 6), .ref (a + 7), .ref (a + 8), .ref (a + 9), .ref (a + 10), .int 0, .ref (a + 11), .ref (a + 12), .ref (a + 13), .ref (a + 14), .ref (a + 15), .int 0, .ref (a + 16), .int 0, .ref (a + 17), .int 0, .int 0, .int 0, .int 0, .ref (a + 18), .ref (a + 19), .int 0, .ref (a + 20), .ref (a + 21), .ref (a + 22), .ref (a + 23), .ref (a + 24), .ref (a + 25), .ref (a + 26), .ref (a + 27), .int 0, .int 0, .int 0, .ref (a + 28), .int 0]
theorem s_put (l r : List va_E) (q : Nat × Nat) (ci k : Nat) (fs : List Value) (v : Value) (h : k < fs.length) : p_put (l ++ (.inr (ci, fs) :: r), q) l.length ci k v = some (l ++ (.inr (ci, fs.set k v) :: r), q) := by
  simp [p_put, p_obj, h]
theorem s_obj (l r : List va_E) (q : Nat × Nat) (ci : Nat) (fs : List Value) : p_obj (l ++ (.inr (ci, fs) :: r), q) l.length ci = some fs := by
  simp [p_obj]
theorem s_newA (l r : List va_E) (n m t B : Nat) (i : Int32) (j : Nat) (K) (e : i.toNatClampNeg = j) (h : ¬ (i < 0 ∨ 536870912 < i.toNatClampNeg * B)) : p_newA (l ++ r, n, m) t B i K = K (l.length + r.length) (l ++ (r ++ [.inl (t, j, .inl fun _ => 0)]), n + 1, m + j) := by
  unfold p_newA
  rw [if_neg h, e]
  simp only [List.length_append, List.append_assoc]
set_option maxHeartbeats 4000000 in
theorem n_mod (l : List va_E) (n m : Nat) (x y : Int32) : fD_init l.length x y (l ++ [.inr (10, [.int 0, .int 0, .int 0, .null, .null, .null, .null, .null, .int 0, .null, .null, .null, .null, .null, .int 0, .null, .null, .null, .null, .null, .int 0, .null, .int 0, .null, .int 0, .int 0, .int 0, .int 0, .null, .null, .int 0, .null, .null, .null, .null, .null, .null, .null, .null, .int 0, .int 0, .int 0, .null, .int 0])], n, m) = p_call (fD_clear l.length (l ++ (.inr (10, m_obj l.length (q_near x) (q_near y)) :: m_row 0 0), n + 28, m + 104056)) (p_kV fun w => some (.inl none, w)) := by
  unfold fD_init
  rw [s_newA _ _ _ _ _ _ _ 2750 _ rfl (by decide), List.cons_append, s_put _ _ _ _ _ _ _ (by simp), Option.bind_some]
  dsimp only [List.set_cons_zero, List.set_cons_succ, List.length_cons, List.length_nil, List.nil_append]
  rw [s_newA _ _ _ _ _ _ _ 250 _ rfl (by decide), List.cons_append, s_put _ _ _ _ _ _ _ (by simp), Option.bind_some]
  dsimp only [List.set_cons_zero, List.set_cons_succ, List.length_cons, List.length_nil, List.nil_append]
  rw [s_newA _ _ _ _ _ _ _ 250 _ rfl (by decide), List.cons_append, s_put _ _ _ _ _ _ _ (by simp), Option.bind_some]
  dsimp only [List.set_cons_zero, List.set_cons_succ, List.length_cons, List.length_nil, List.nil_append]
  rw [s_newA _ _ _ _ _ _ _ 8 _ rfl (by decide), List.cons_append, s_put _ _ _ _ _ _ _ (by simp), Option.bind_some]
  dsimp only [List.set_cons_zero, List.set_cons_succ, List.length_cons, List.length_nil, List.nil_append]
  rw [s_newA _ _ _ _ _ _ _ 10 _ rfl (by decide), List.cons_append, s_put _ _ _ _ _ _ _ (by simp), Option.bind_some]
  dsimp only [List.set_cons_zero, List.set_cons_succ, List.length_cons, List.length_nil, List.nil_append]
  rw [s_newA _ _ _ _ _ _ _ 40 _ rfl (by decide), List.cons_append, s_put _ _ _ _ _ _ _ (by simp), Option.bind_some]
  dsimp only [List.set_cons_zero, List.set_cons_succ, List.length_cons, List.length_nil, List.nil_append]
  rw [s_newA _ _ _ _ _ _ _ 40 _ rfl (by decide), List.cons_append, s_put _ _ _ _ _ _ _ (by simp), Option.bind_some]
  dsimp only [List.set_cons_zero, List.set_cons_succ, List.length_cons, List.length_nil, List.nil_append]
  rw [s_newA _ _ _ _ _ _ _ 800 _ rfl (by decide), List.cons_append, s_put _ _ _ _ _ _ _ (by simp), Option.bind_some]
  dsimp only [List.set_cons_zero, List.set_cons_succ, List.length_cons, List.length_nil, List.nil_append]
  rw [s_newA _ _ _ _ _ _ _ 40 _ rfl (by decide), List.cons_append, s_put _ _ _ _ _ _ _ (by simp), Option.bind_some]
  dsimp only [List.set_cons_zero, List.set_cons_succ, List.length_cons, List.length_nil, List.nil_append]
  rw [s_newA _ _ _ _ _ _ _ 12000 _ rfl (by decide), List.cons_append, s_put _ _ _ _ _ _ _ (by simp), Option.bind_some]
  dsimp only [List.set_cons_zero, List.set_cons_succ, List.length_cons, List.length_nil, List.nil_append]
  rw [s_newA _ _ _ _ _ _ _ 8 _ rfl (by decide), List.cons_append, s_put _ _ _ _ _ _ _ (by simp), Option.bind_some]
  dsimp only [List.set_cons_zero, List.set_cons_succ, List.length_cons, List.length_nil, List.nil_append]
  rw [s_newA _ _ _ _ _ _ _ 8 _ rfl (by decide), List.cons_append, s_put _ _ _ _ _ _ _ (by simp), Option.bind_some]
  dsimp only [List.set_cons_zero, List.set_cons_succ, List.length_cons, List.length_nil, List.nil_append]
  rw [s_newA _ _ _ _ _ _ _ 8 _ rfl (by decide), List.cons_append, s_put _ _ _ _ _ _ _ (by simp), Option.bind_some]
  dsimp only [List.set_cons_zero, List.set_cons_succ, List.length_cons, List.length_nil, List.nil_append]
  rw [s_newA _ _ _ _ _ _ _ 320 _ rfl (by decide), List.cons_append, s_put _ _ _ _ _ _ _ (by simp), Option.bind_some]
  dsimp only [List.set_cons_zero, List.set_cons_succ, List.length_cons, List.length_nil, List.nil_append]
  rw [s_newA _ _ _ _ _ _ _ 40000 _ rfl (by decide), List.cons_append, s_put _ _ _ _ _ _ _ (by simp), Option.bind_some]
  dsimp only [List.set_cons_zero, List.set_cons_succ, List.length_cons, List.length_nil, List.nil_append]
  rw [s_newA _ _ _ _ _ _ _ 20000 _ rfl (by decide), List.cons_append, s_put _ _ _ _ _ _ _ (by simp), Option.bind_some]
  dsimp only [List.set_cons_zero, List.set_cons_succ, List.length_cons, List.length_nil, List.nil_append]
  rw [s_newA _ _ _ _ _ _ _ 20000 _ rfl (by decide), List.cons_append, s_put _ _ _ _ _ _ _ (by simp), Option.bind_some]
  dsimp only [List.set_cons_zero, List.set_cons_succ, List.length_cons, List.length_nil, List.nil_append]
  rw [s_newA _ _ _ _ _ _ _ 2600 _ rfl (by decide), List.cons_append, s_put _ _ _ _ _ _ _ (by simp), Option.bind_some]
  dsimp only [List.set_cons_zero, List.set_cons_succ, List.length_cons, List.length_nil, List.nil_append]
  rw [s_newA _ _ _ _ _ _ _ 2600 _ rfl (by decide), List.cons_append, s_put _ _ _ _ _ _ _ (by simp), Option.bind_some]
  dsimp only [List.set_cons_zero, List.set_cons_succ, List.length_cons, List.length_nil, List.nil_append]
  rw [s_newA _ _ _ _ _ _ _ 300 _ rfl (by decide), List.cons_append, s_put _ _ _ _ _ _ _ (by simp), Option.bind_some]
  dsimp only [List.set_cons_zero, List.set_cons_succ, List.length_cons, List.length_nil, List.nil_append]
  rw [s_newA _ _ _ _ _ _ _ 300 _ rfl (by decide), List.cons_append, s_put _ _ _ _ _ _ _ (by simp), Option.bind_some]
  dsimp only [List.set_cons_zero, List.set_cons_succ, List.length_cons, List.length_nil, List.nil_append]
  rw [s_newA _ _ _ _ _ _ _ 300 _ rfl (by decide), List.cons_append, s_put _ _ _ _ _ _ _ (by simp), Option.bind_some]
  dsimp only [List.set_cons_zero, List.set_cons_succ, List.length_cons, List.length_nil, List.nil_append]
  rw [s_newA _ _ _ _ _ _ _ 300 _ rfl (by decide), List.cons_append, s_put _ _ _ _ _ _ _ (by simp), Option.bind_some]
  dsimp only [List.set_cons_zero, List.set_cons_succ, List.length_cons, List.length_nil, List.nil_append]
  rw [s_newA _ _ _ _ _ _ _ 300 _ rfl (by decide), List.cons_append, s_put _ _ _ _ _ _ _ (by simp), Option.bind_some]
  dsimp only [List.set_cons_zero, List.set_cons_succ, List.length_cons, List.length_nil, List.nil_append]
  rw [s_newA _ _ _ _ _ _ _ 300 _ rfl (by decide), List.cons_append, s_put _ _ _ _ _ _ _ (by simp), Option.bind_some]
  dsimp only [List.set_cons_zero, List.set_cons_succ, List.length_cons, List.length_nil, List.nil_append]
  rw [s_newA _ _ _ _ _ _ _ 300 _ rfl (by decide), List.cons_append, s_put _ _ _ _ _ _ _ (by simp), Option.bind_some]
  dsimp only [List.set_cons_zero, List.set_cons_succ, List.length_cons, List.length_nil, List.nil_append]
  rw [s_newA _ _ _ _ _ _ _ 24 _ rfl (by decide), List.cons_append, s_put _ _ _ _ _ _ _ (by simp), Option.bind_some]
  dsimp only [List.set_cons_zero, List.set_cons_succ, List.length_cons, List.length_nil, List.nil_append]
  rw [s_newA _ _ _ _ _ _ _ 200 _ rfl (by decide), List.cons_append, s_put _ _ _ _ _ _ _ (by simp), Option.bind_some]
  rw [q_nearOf, q_call, q_kI, s_put _ _ _ _ _ _ _ (by simp), Option.bind_some, q_nearOf, q_call, q_kI, s_put _ _ _ _ _ _ _ (by simp), Option.bind_some, s_obj, Option.bind_some]
  simp only [List.set_cons_zero, List.set_cons_succ, List.length_cons, List.length_nil, List.cons_append, List.nil_append, Nat.reduceAdd, Nat.zero_add, m_row, m_obj, Nat.add_assoc]
theorem q_cell (S : Nat × (Nat → Int32)) (i : Nat) (hS : S.1 ≤ 2562) (hi : i ≤ 2) (w : PW) : fL_cell S (Int32.ofNat i) w = some (.inl (some (.int (if S.1 ≤ i then 0 else S.2 i))), w) := by
  unfold fL_cell p_let p_sld
  simp only [q_le (m := S.1) (n := i) (by omega) (by omega)]
  by_cases h : S.1 ≤ i
  · rw [if_pos h, if_pos h]
  · rw [if_neg h, if_neg h, if_neg (q_inb (q_ge0 i (by omega)) ((q_lt (by omega) (by omega)).mpr (by omega)) (by omega)), Option.bind_some, q_tno (by omega)]
/-- the world as the law's loop begins -/
def q_st0 (w : PW) (x y : Int32) : Prop :=
  w.1.length = 67 ∧ w.2.1 = 67 ∧ w.2.2 = 108568 ∧
  w.1[0]? = some (.inr (0, [.ref 1, .ref 7, .ref 8, .ref 9, .ref 12, .ref 14, .ref 16, .ref 22, .ref 27, .ref 28, .int 0])) ∧
  (∃ nm sy sp, qS w 1 x y (upd (upd (upd (fun _ => 0) 0 x) 1 y) 2 1) (q_all8 (fun _ => 0) 4 0) nm sy sp ∧ nm = q_rst (fun _ => 0) 7 4 ∧ ∀ j, j < 125 → sy j = (if j = 0 then 1 else 0) ∧ sp j = (if j = 0 then 1 else 0)) ∧
  w.1[7]? = some (.inr (11, [.int 0, .retAddr 3, .int 0])) ∧ w.1[8]? = some (.inr (11, [.int 0, .retAddr 3, .int 0])) ∧ w.1[9]? = some (.inr (9, [.ref 10])) ∧
  qB w 10 11 20000 32 [] (fun _ => 0) ∧ qB w 12 13 20000 32 [] (fun _ => 0) ∧ qB w 14 15 20000 32 [] (fun _ => 0) ∧
  qS w 16 1 1 (fun _ => 0) (fun _ => 0) (fun _ => 0) (fun _ => 0) (fun _ => 0) ∧
  w.1[22]? = some (.inr (1, [.ref 14, .ref 23, .ref 25, .int (-1), .int 0, .int 0])) ∧ qN w 23 24 8 [] (fun _ => 0) ∧ qN w 25 26 8 [] (fun _ => 0) ∧
  w.1[27]? = some (.inr (3, [.ref 14, .ref 16, .int 0])) ∧
  w.1[28]? = some (.inr (6, [.ref 14, .ref 16, .ref 27, .ref 29, .ref 30, .ref 31, .ref 32, .ref 33, .ref 34, .ref 35, .ref 36, .int 0, .int 0])) ∧
  (∀ k, 29 ≤ k → k < 34 → w.1[k]? = some (.inl (0, 300, .inl fun _ => 0))) ∧ w.1[34]? = some (.inl (2, 300, .inl fun _ => 0)) ∧ w.1[35]? = some (.inl (0, 24, .inl fun _ => 0)) ∧ w.1[36]? = some (.inl (0, 200, .inl fun _ => 0)) ∧
  (∃ z g, qM w z g ∧ q_bgn (fun _ _ => 0) g x y 0 ∧ ∀ k, z k = if k = 1 then x else if k = 2 then y else 0) ∧
  w.1[66]? = some (.inl (3, 1, .inr (.inl fun _ => 0)))
theorem m_row_at : ∀ j, j < 28 → (m_row 0 0)[j]? = some (.inl (mT (38 + j), mL (38 + j), .inl fun _ => 0))
  | 0, _ => rfl
  | 1, _ => rfl
  | 2, _ => rfl
  | 3, _ => rfl
  | 4, _ => rfl
  | 5, _ => rfl
  | 6, _ => rfl
  | 7, _ => rfl
  | 8, _ => rfl
  | 9, _ => rfl
  | 10, _ => rfl
  | 11, _ => rfl
  | 12, _ => rfl
  | 13, _ => rfl
  | 14, _ => rfl
  | 15, _ => rfl
  | 16, _ => rfl
  | 17, _ => rfl
  | 18, _ => rfl
  | 19, _ => rfl
  | 20, _ => rfl
  | 21, _ => rfl
  | 22, _ => rfl
  | 23, _ => rfl
  | 24, _ => rfl
  | 25, _ => rfl
  | 26, _ => rfl
  | 27, _ => rfl
  | j + 28, h => absurd h (by omega)
theorem q_start (S : Nat × (Nat → Int32)) (hS : S.1 ≤ 2562) : ∃ w, fL_law S ([], 0, 0) = fL_law_43 S FUEL 0 37 66 2 w ∧ q_st0 w (q_near (if S.1 ≤ 0 then 0 else S.2 0)) (q_near (if S.1 ≤ 1 then 0 else S.2 1)) := by
  generalize hx : (if S.1 ≤ 0 then 0 else S.2 0) = x0
  generalize hy : (if S.1 ≤ 1 then 0 else S.2 1) = y0
  have c0 : ∀ w, fL_cell S 0 w = some (.inl (some (.int x0)), w) := fun w => by rw [← hx]; exact q_cell S 0 hS (by omega) w
  have c1 : ∀ w, fL_cell S 1 w = some (.inl (some (.int y0)), w) := fun w => by rw [← hy]; exact q_cell S 1 hS (by omega) w
  unfold fL_law
  rw [x_newO, c0, q_call, q_kI, c1, q_call, q_kI]
  show ∃ w, p_call (fW_init 0 x0 y0 ([.inr (0, [.null, .null, .null, .null, .null, .null, .null, .null, .null, .null, .int 0])], 1, 11)) _ = _ ∧ _
  rw [w_init, q_near_eq, q_near_eq]
  have hs1 : qS (w_1, 37, 4467) 1 1 1 (fun _ => 0) (fun _ => 0) (fun _ => 0) (fun _ => 0) (fun _ => 0) := ⟨rfl, rfl, rfl, rfl, rfl, rfl, fun _ => Or.inl rfl, fun _ => Or.inl rfl⟩
  obtain ⟨w2, sy', sp', g2, k2, r2, F2⟩ := hs1.restart (q_near x0) (q_near y0)
  rw [g2, q_call, q_kV, q_call, q_kV]
  have l2 : w2.1.length = 37 := by rw [F2.1]; rfl
  have n2 : w2.2 = (37, 4467) := F2.2.1
  obtain ⟨l, n, m⟩ := w2
  cases n2
  rw [x_newO, c0, q_call, q_kI, c1, q_call, q_kI]
  have l2' : l.length = 37 := l2
  rw [n_mod]
  rw [l2']
  have hM : qM (l ++ (.inr (10, m_obj 37 (q_near x0) (q_near y0)) :: m_row 0 0), 37 + 1 + 28, 4467 + 44 + 104056) (fun k => if k = 1 then q_near x0 else if k = 2 then q_near y0 else 0) (fun _ _ => 0) := by
    refine ⟨?_, fun k h1 h2 => ?_⟩
    · show (l ++ _)[37]? = _
      rw [List.getElem?_append_right (by omega), l2']
      rfl
    · show (l ++ _)[k]? = _
      rw [List.getElem?_append_right (by omega), l2', show k - 37 = (k - 38) + 1 by omega, List.getElem?_cons_succ, m_row_at _ (by omega), show 38 + (k - 38) = k by omega]
  obtain ⟨w4, z', g', g4, q4, r4, t4, F4⟩ := hM.clear
  rw [g4, q_call, q_kV, q_call, q_kV]
  have l4 : w4.1.length = 66 := by
    rw [F4.1]
    show (l ++ _).length = _
    rw [List.length_append, l2']
    rfl
  have old : ∀ x y, x < 37 → w_1[x]? = some y → (x < 1 ∨ 7 ≤ x) → w4.1[x]? = some y := fun x y hx hy ho => by
    rw [F4.2.2 x (by omega)]
    show (l ++ _)[x]? = _
    rw [List.getElem?_append_left (by omega)]
    show (l, 37, 4467).1[x]? = _
    rw [F2.2.2 x (by omega)]
    exact hy
  have new : ∀ x, 1 ≤ x → x < 7 → w4.1[x]? = (l, 37, 4467).1[x]? := fun x h1 h2 => by
    rw [F4.2.2 x (by omega)]
    show (l ++ _)[x]? = _
    rw [List.getElem?_append_left (by omega)]
  have n4 : w4.2 = (66, 108567) := F4.2.1
  obtain ⟨l5, n5, m5⟩ := w4
  cases n4
  unfold p_newJ
  rw [if_neg (by decide)]
  have l4' : l5.length = 66 := l4
  have ap : ∀ x y, (l5, 66, 108567).1[x]? = some y → (l5 ++ [.inl (3, (1 : Int32).toNatClampNeg, .inr (.inl fun _ => 0))] : List va_E)[x]? = some y := fun x y hy => by
    rw [List.getElem?_append_left (q_lt_len hy)]
    exact hy
  refine ⟨_, by rw [l4']; rfl, ?_, rfl, rfl, ?_⟩
  · show (l5 ++ _).length = 67
    rw [List.length_append, l4']
    rfl
  have o1 : ∀ x y, x < 37 → w_1[x]? = some y → (x < 1 ∨ 7 ≤ x) → (l5 ++ [.inl (3, (1 : Int32).toNatClampNeg, .inr (.inl fun _ => 0))] : List va_E)[x]? = some y := fun x y h1 h2 h3 => ap x y (old x y h1 h2 h3)
  have hB : ∀ a, a = 10 ∨ a = 12 ∨ a = 14 → qB (l5 ++ [.inl (3, (1 : Int32).toNatClampNeg, .inr (.inl fun _ => 0))], 66 + 1, 108567 + (1 : Int32).toNatClampNeg) a (a + 1) 20000 32 [] (fun _ => 0) := by
    rintro a (e | e | e) <;> subst e <;> exact ⟨o1 _ _ (by decide) rfl (by decide), o1 _ _ (by decide) rfl (by decide), by decide, by decide, Or.inl rfl, Or.inr (Or.inl rfl), by decide, fun _ => rfl, fun i hi => absurd hi (Nat.not_lt_zero i)⟩
  refine ⟨o1 _ _ (by decide) rfl (by decide), ?_, o1 _ _ (by decide) rfl (by decide), o1 _ _ (by decide) rfl (by decide), o1 _ _ (by decide) rfl (by decide), hB 10 (by decide), hB 12 (by decide), hB 14 (by decide), ?_, o1 _ _ (by decide) rfl (by decide), ?_, ?_, o1 _ _ (by decide) rfl (by decide), o1 _ _ (by decide) rfl (by decide), ?_, o1 _ _ (by decide) rfl (by decide), o1 _ _ (by decide) rfl (by decide), o1 _ _ (by decide) rfl (by decide), ?_, ?_⟩
  · refine ⟨_, _, _, k2.keep (fun x h1 h2 => ?_), rfl, r2⟩
    show (l5 ++ _)[x]? = _
    rw [List.getElem?_append_left (by omega)]
    exact new x h1 h2
  · exact ⟨o1 _ _ (by decide) rfl (by decide), o1 _ _ (by decide) rfl (by decide), o1 _ _ (by decide) rfl (by decide), o1 _ _ (by decide) rfl (by decide), o1 _ _ (by decide) rfl (by decide), o1 _ _ (by decide) rfl (by decide), fun _ => Or.inl rfl, fun _ => Or.inl rfl⟩
  · exact ⟨o1 _ _ (by decide) rfl (by decide), o1 _ _ (by decide) rfl (by decide), by decide, Or.inl rfl, fun i hi => absurd hi (Nat.not_lt_zero i)⟩
  · exact ⟨o1 _ _ (by decide) rfl (by decide), o1 _ _ (by decide) rfl (by decide), by decide, Or.inl rfl, fun i hi => absurd hi (Nat.not_lt_zero i)⟩
  · intro k h1 h2
    have : k = 29 ∨ k = 30 ∨ k = 31 ∨ k = 32 ∨ k = 33 := by omega
    rcases this with e | e | e | e | e <;> subst e <;> exact o1 _ _ (by decide) rfl (by decide)
  · refine ⟨z', g', q4.keep (fun x h1 h2 => ?_), r4, fun k => ?_⟩
    · show (l5 ++ _)[x]? = _
      rw [List.getElem?_append_left (by omega)]
    · rw [t4]
      grind
  · show (l5 ++ _)[66]? = _
    rw [List.getElem?_append_right (by omega), l4']
    rfl
theorem q_64 (x : Int32) : (Int32.toInt64 x).toInt = x.toInt := Int32.toInt_toInt64 x
theorem q_cmp_gt (a b : Int64) : 0 < lg_cmp a b ↔ b.toInt < a.toInt := by
  have hh : a > b ↔ b.toInt < a.toInt := Int64.lt_iff_toInt_lt
  unfold lg_cmp
  by_cases h : a > b
  · rw [if_pos h]
    exact ⟨fun _ => hh.mp h, fun _ => by decide⟩
  · rw [if_neg h]
    constructor
    · intro k
      split at k <;> exact absurd k (by decide)
    · intro k
      exact absurd (hh.mpr k) h
theorem q_cmp_lt (a b : Int64) : lg_cmp a b < 0 ↔ a.toInt < b.toInt := by
  have hh : a > b ↔ b.toInt < a.toInt := Int64.lt_iff_toInt_lt
  unfold lg_cmp
  by_cases h : a > b
  · rw [if_pos h]
    have := hh.mp h
    exact ⟨fun k => absurd k (by decide), fun k => by omega⟩
  · rw [if_neg h]
    have h1 : ¬ b.toInt < a.toInt := fun k => h (hh.mpr k)
    by_cases h2 : a = b
    · rw [if_pos h2]
      subst h2
      exact ⟨fun k => absurd k (by decide), fun k => by omega⟩
    · rw [if_neg h2]
      have h3 : a.toInt ≠ b.toInt := fun k => h2 (Int64.toInt_inj.mp k)
      exact ⟨fun _ => by omega, fun _ => by decide⟩
theorem q_cmp_eq (a b : Int64) : lg_cmp a b = 0 ↔ a.toInt = b.toInt := by
  have h1 := q_cmp_lt a b
  have h2 := q_cmp_gt a b
  constructor
  · intro h
    rw [h] at h1 h2
    have : ¬ a.toInt < b.toInt := fun k => absurd (h1.mpr k) (by decide)
    have : ¬ b.toInt < a.toInt := fun k => absurd (h2.mpr k) (by decide)
    omega
  · intro h
    have h3 : ¬ lg_cmp a b < 0 := fun k => by have := h1.mp k; omega
    have h4 : ¬ 0 < lg_cmp a b := fun k => by have := h2.mp k; omega
    grind
theorem q_in (a b c : Int64) (w : PW) : fD_in a b c w = some (.inl (some (.int (if b.toInt ≤ a.toInt ∧ a.toInt ≤ c.toInt then 1 else 0))), w) := by
  unfold fD_in
  by_cases h1 : a.toInt < b.toInt
  · rw [if_pos ((q_cmp_lt a b).mpr h1), if_neg (by omega)]; rfl
  · rw [if_neg (fun k => h1 ((q_cmp_lt a b).mp k))]
    by_cases h2 : c.toInt < a.toInt
    · rw [if_pos ((q_cmp_gt a c).mpr h2), if_neg (by omega)]; rfl
    · rw [if_neg (fun k => h2 ((q_cmp_gt a c).mp k)), if_pos (by omega)]; rfl
theorem q_add64 {a b : Int64} (h1 : -9223372036854775808 ≤ a.toInt + b.toInt) (h2 : a.toInt + b.toInt < 9223372036854775808) : (a + b).toInt = a.toInt + b.toInt := by
  rw [Int64.toInt_add]
  exact Int.bmod_eq_of_le (by omega) (by omega)
theorem q_sub64 {a b : Int64} (h1 : -9223372036854775808 ≤ a.toInt - b.toInt) (h2 : a.toInt - b.toInt < 9223372036854775808) : (a - b).toInt = a.toInt - b.toInt := by
  rw [Int64.toInt_sub]
  exact Int.bmod_eq_of_le (by omega) (by omega)
theorem q_mul64 {a b : Int64} (h1 : -9223372036854775808 ≤ a.toInt * b.toInt) (h2 : a.toInt * b.toInt < 9223372036854775808) : (a * b).toInt = a.toInt * b.toInt := by
  rw [Int64.toInt_mul]
  exact Int.bmod_eq_of_le (by omega) (by omega)
/-- how many sides it takes -/
def q_mi (x s : Int) : Int := (x + s - 1) / s
theorem q_mi_b {x s : Int} (hx : 1 ≤ x) (hs : 1 ≤ s) : 1 ≤ q_mi x s ∧ q_mi x s ≤ x := by
  unfold q_mi
  constructor
  · exact (Int.le_ediv_iff_mul_le (by omega)).mpr (by omega)
  · refine Int.ediv_le_of_le_mul (by omega) ?_
    have : 0 ≤ (x - 1) * (s - 1) := Int.mul_nonneg (by omega) (by omega)
    have e : (x - 1) * (s - 1) = x * s - x - s + 1 := by
      rw [Int.sub_mul, Int.mul_sub]; omega
    omega
theorem q_many_i {x s : Int32} (hx : 1 ≤ x.toInt) (hx2 : x.toInt ≤ 2000) (hs : 1 ≤ s.toInt) (hs2 : s.toInt ≤ 65536) : (q_many x s).toInt = q_mi x.toInt s.toInt := by
  unfold q_many
  have e1 : (1 : Int32).toInt = 1 := rfl
  rw [if_pos (by rw [Int32.le_iff_toInt_le]; omega)]
  have e2 : (x + s - 1).toInt = x.toInt + s.toInt - 1 := by
    have : (x + s).toInt = x.toInt + s.toInt := q_add (by omega) (by omega)
    rw [q_sub (by omega) (by omega), this, e1]
  have hb := q_mi_b hx hs
  unfold q_mi at *
  rw [Int32.toInt_div, e2, Int.tdiv_eq_ediv_of_nonneg (by omega)]
  exact Int.bmod_eq_of_le (by omega) (by omega)
theorem q_ldiv {a b : Int64} (ha : 0 ≤ a.toInt) (hb : 1 ≤ b.toInt) : ∃ c : Int64, p_ldiv a b = some c ∧ c.toInt = a.toInt / b.toInt := by
  refine ⟨a / b, ?_, ?_⟩
  · unfold p_ldiv
    rw [if_neg]
    intro h
    have e0 : (0 : Int64).toInt = 0 := rfl
    rw [h] at hb
    omega
  · have h1 := Int64.toInt_lt a
    have h2 : a.toInt / b.toInt ≤ a.toInt := Int.ediv_le_self _ ha
    have h3 : 0 ≤ a.toInt / b.toInt := Int.ediv_nonneg ha (by omega)
    rw [Int64.toInt_div, Int.tdiv_eq_ediv_of_nonneg ha]
    exact Int.bmod_eq_of_le (by omega) (by omega)
theorem q_tilesOf {a b c d : Int64} (ha : 1 ≤ a.toInt) (ha2 : a.toInt ≤ 2000) (hb : 1 ≤ b.toInt) (hb2 : b.toInt ≤ 2000) (hc : 1 ≤ c.toInt) (hc2 : c.toInt ≤ 65536) (hd : 1 ≤ d.toInt) (hd2 : d.toInt ≤ 65536) (w : PW) : ∃ v : Int64, fD_tilesOf a b c d w = some (.inl (some (.long v)), w) ∧ v.toInt = q_mi a.toInt c.toInt * q_mi b.toInt d.toInt := by
  unfold fD_tilesOf
  have e1 : (1 : Int64).toInt = 1 := rfl
  have f1 : (a + c).toInt = a.toInt + c.toInt := q_add64 (by omega) (by omega)
  have f2 : (a + c - 1).toInt = a.toInt + c.toInt - 1 := by rw [q_sub64 (by omega) (by omega), f1, e1]
  have f3 : (b + d).toInt = b.toInt + d.toInt := q_add64 (by omega) (by omega)
  have f4 : (b + d - 1).toInt = b.toInt + d.toInt - 1 := by rw [q_sub64 (by omega) (by omega), f3, e1]
  obtain ⟨u, g1, u1⟩ := q_ldiv (a := a + c - 1) (b := c) (by omega) hc
  obtain ⟨v, g2, v1⟩ := q_ldiv (a := b + d - 1) (b := d) (by omega) hd
  rw [g1, Option.bind_some, g2, Option.bind_some]
  have hu := q_mi_b ha hc
  have hv := q_mi_b hb hd
  rw [f2] at u1
  rw [f4] at v1
  have u2 : u.toInt = q_mi a.toInt c.toInt := u1
  have v2 : v.toInt = q_mi b.toInt d.toInt := v1
  refine ⟨_, rfl, ?_⟩
  have h1 : 0 ≤ u.toInt * v.toInt := Int.mul_nonneg (by omega) (by omega)
  have h2 : u.toInt * v.toInt ≤ 2000 * 2000 := Int.mul_le_mul (by omega) (by omega) (by omega) (by omega)
  rw [q_mul64 (by omega) (by omega), u2, v2]
/-- class settings and reference settings say the same -/
def qR (tw th : Int32) (sz dp nm sy sp : Nat → Int32) (g : Nat → Nat → Int32) : Prop :=
  (sz 0 = g 42 0 ∧ sz 1 = g 42 1 ∧ sz 2 = g 42 2 ∧ tw = g 42 3 ∧ th = g 42 4) ∧ (∀ i, i < 4 → dp i = g 41 i) ∧ (∀ s, s < 125 → sy s = g 39 s ∧ sp s = g 40 s) ∧ (∀ s k, s < 125 → 4 ≤ k → k ≤ 10 → nm (7 * s + k - 4) = g 38 (11 * s + k)) ∧
  (1 ≤ (sz 0).toInt ∧ (sz 0).toInt ≤ 2000 ∧ 1 ≤ (sz 1).toInt ∧ (sz 1).toInt ≤ 2000 ∧ 1 ≤ (sz 2).toInt ∧ (sz 2).toInt ≤ 4 ∧ 1 ≤ tw.toInt ∧ tw.toInt ≤ 2000 ∧ 1 ≤ th.toInt ∧ th.toInt ≤ 2000) ∧ q_mi (sz 0).toInt tw.toInt * q_mi (sz 1).toInt th.toInt ≤ 24
section
variable {w : PW} {z : Nat → Int32} {g : Nat → Nat → Int32} {tw th : Int32} {sz dp nm sy sp : Nat → Int32}
theorem q_prod {a b : Int} (ha : 1 ≤ a) (hb : 1 ≤ b) (h : a * b ≤ 24) : a ≤ 24 ∧ b ≤ 24 ∧ 1 ≤ a * b := by
  have h1 : a * 1 ≤ a * b := Int.mul_le_mul_of_nonneg_left hb (by omega)
  have h2 : 1 * b ≤ a * b := Int.mul_le_mul_of_nonneg_right ha (by omega)
  omega
/-- how many tiles, as a number -/
def q_nt (tw th : Int32) (sz : Nat → Int32) : Int := q_mi (sz 0).toInt tw.toInt * q_mi (sz 1).toInt th.toInt
theorem qR.nt (h : qR tw th sz dp nm sy sp g) : (q_many (sz 0) tw * q_many (sz 1) th).toInt = q_nt tw th sz ∧ 1 ≤ q_nt tw th sz ∧ q_nt tw th sz ≤ 24 := by
  obtain ⟨-, -, -, -, ⟨b0, b1, b2, b3, b4, b5, b6, b7, b8, b9⟩, ht⟩ := h
  have e1 := q_many_i b0 b1 b6 (by omega)
  have e2 := q_many_i b2 b3 b8 (by omega)
  have h1 := q_mi_b b0 b6
  have h2 := q_mi_b b2 b8
  have h3 := q_prod h1.1 h2.1 ht
  refine ⟨?_, h3.2.2, ht⟩
  rw [q_mul (by rw [e1, e2]; omega) (by rw [e1, e2]; omega), e1, e2]
  rfl
theorem q_to32 {v : Int64} (h1 : -2147483648 ≤ v.toInt) (h2 : v.toInt < 2147483648) : (Int64.toInt32 v).toInt = v.toInt := by
  rw [Int64.toInt_toInt32]
  exact Int.bmod_eq_of_le (by omega) (by omega)
theorem q_i32 {a b : Int32} (h : a.toInt = b.toInt) : a = b := Int32.toInt_inj.mp h
theorem qM.tiles (h : qM w z g) (k : qR tw th sz dp nm sy sp g) : fD_tiles 37 0 w = some (.inl (some (.int (q_many (sz 0) tw * q_many (sz 1) th))), w) := by
  have hnt := k.nt
  obtain ⟨⟨a0, a1, a2, a3, a4⟩, -, -, -, ⟨b0, b1, b2, b3, b4, b5, b6, b7, b8, b9⟩, ht⟩ := k
  unfold fD_tiles
  have ld : ∀ i : Nat, i < 10 → p_ald w 42 0 (Int32.ofNat i) = some (g 42 i) := fun i hi => by
    rw [h.ld 42 0 (Int32.ofNat i) rfl (by omega) (by omega) (q_ge0 i (by omega)) ((q_lt (m := i) (n := 10) (by omega) (by omega)).mpr hi) (by decide), q_tno (by omega)]
  have r7 : p_getR w 37 10 7 = some 42 := h.R 7 42 rfl
  have l0 : p_ald w 42 0 0 = some (sz 0) := by rw [a0]; exact ld 0 (by omega)
  have l1 : p_ald w 42 0 (0 + 1) = some (sz 1) := by rw [a1]; exact ld 1 (by omega)
  have l3 : p_ald w 42 0 (0 + 3) = some tw := by rw [a3]; exact ld 3 (by omega)
  have l4 : p_ald w 42 0 (0 + 4) = some th := by rw [a4]; exact ld 4 (by omega)
  simp only [r7, Option.bind_some, l0, l1, l3, l4]
  obtain ⟨v, g1, v1⟩ := q_tilesOf (a := Int32.toInt64 (sz 0)) (b := Int32.toInt64 (sz 1)) (c := Int32.toInt64 tw) (d := Int32.toInt64 th) (by rw [q_64]; omega) (by rw [q_64]; omega) (by rw [q_64]; omega) (by rw [q_64]; omega) (by rw [q_64]; omega) (by rw [q_64]; omega) (by rw [q_64]; omega) (by rw [q_64]; omega) w
  rw [g1, q_call, q_kJ]
  rw [q_64, q_64, q_64, q_64] at v1
  have : Int64.toInt32 v = q_many (sz 0) tw * q_many (sz 1) th := by
    apply q_i32
    rw [hnt.1, q_to32]
    · exact v1
    · rw [v1]; unfold q_nt at hnt; omega
    · rw [v1]; unfold q_nt at hnt; omega
  rw [this]
/-- where a setting may be -/
def q_isPl (nt : Int) (many what t c : Int32) : Bool := decide (0 ≤ what.toInt ∧ what.toInt ≤ 10 ∧ -1 ≤ t.toInt ∧ t.toInt < nt ∧ -1 ≤ c.toInt ∧ c.toInt < many.toInt ∧ (5 < what.toInt ∨ (c = -1 ∧ t = -1) ∨ (what = 3 ∧ t = -1) ∨ (3 < what.toInt ∧ c = -1)))
theorem qM.isPlace (h : qM w z g) (k : qR tw th sz dp nm sy sp g) (what t c : Int32) : fD_isPlace 37 0 what t c w = some (.inl (some (.int (if q_isPl (q_nt tw th sz) (sz 2) what t c then 1 else 0))), w) := by
  have hT := h.tiles k
  have hnt := k.nt
  obtain ⟨⟨a0, a1, a2, a3, a4⟩, -, -, -, ⟨b0, b1, b2, b3, b4, b5, b6, b7, b8, b9⟩, ht⟩ := k
  unfold fD_isPlace fD_isPlace_72 fD_isPlace_82
  have e1 : (Int32.toInt64 (q_many (sz 0) tw * q_many (sz 1) th) - 1).toInt = q_nt tw th sz - 1 := by
    have e0 : (1 : Int64).toInt = 1 := rfl
    rw [q_sub64, q_64, hnt.1, e0]
    · rw [q_64, hnt.1, e0]; omega
    · rw [q_64, hnt.1, e0]; omega
  have e2 : (Int32.toInt64 (sz 2) - 1).toInt = (sz 2).toInt - 1 := by
    have e0 : (1 : Int64).toInt = 1 := rfl
    rw [q_sub64, q_64, e0]
    · rw [q_64, e0]; omega
    · rw [q_64, e0]; omega
  have l2 : p_ald w 42 0 (0 + 2) = some (sz 2) := by
    rw [a2]
    exact h.ld 42 0 2 rfl (by omega) (by omega) (by decide) (by decide) (by decide)
  have i0 : (0 : Int64).toInt = 0 := rfl
  have i10 : (10 : Int64).toInt = 10 := rfl
  have im : (-1 : Int64).toInt = -1 := rfl
  simp only [q_in, q_call, q_kI, h.obj, Option.bind_some, hT, h.R 7 42 rfl, l2, q_ret0, q_ret1, q_64, e1, e2, i0, i10, im]
  have c3 : what ≤ 3 ↔ what.toInt ≤ 3 := Int32.le_iff_toInt_le
  have c5 : 5 < what ↔ 5 < what.toInt := Int32.lt_iff_toInt_lt
  unfold q_isPl
  by_cases h1 : 0 ≤ what.toInt ∧ what.toInt ≤ 10
  · by_cases h2 : -1 ≤ t.toInt ∧ t.toInt ≤ q_nt tw th sz - 1
    · by_cases h3 : -1 ≤ c.toInt ∧ c.toInt ≤ (sz 2).toInt - 1
      · simp only [h1, h2, h3, and_self, if_true, show ¬ (1 : Int32) = 0 by decide, if_false, not_false_eq_true, c5, c3, true_and, show t.toInt < q_nt tw th sz by omega, show c.toInt < (sz 2).toInt by omega, decide_eq_true_eq]
        by_cases k1 : 5 < what.toInt
        · simp only [k1, if_true, true_or]
        · by_cases k2 : c = -1
          · by_cases k3 : t = -1
            · simp only [k1, k2, k3, not_true_eq_false, if_true, if_false, and_self, false_or, true_or]
            · by_cases k4 : what = 3
              · subst k4
                simp only [k1, k2, k3, not_true_eq_false, if_true, if_false, and_false, false_or, or_self, and_true]
                rfl
              · by_cases k5 : what.toInt ≤ 3
                · simp only [k1, k2, k3, k4, k5, not_true_eq_false, not_false_eq_true, if_true, if_false, and_false, false_or, false_and, and_true, show ¬ 3 < what.toInt by omega]
                · simp only [k1, k2, k3, k4, k5, not_true_eq_false, not_false_eq_true, if_true, if_false, and_false, false_or, false_and, and_true, show 3 < what.toInt by omega]
          · by_cases k4 : what = 3
            · by_cases k3 : t = -1
              · subst k4
                simp only [k1, k2, k3, not_true_eq_false, not_false_eq_true, if_true, if_false, false_or, false_and, and_self, true_or]
              · subst k4
                simp only [k1, k2, k3, not_true_eq_false, not_false_eq_true, if_true, if_false, and_false, false_or, false_and, or_self]
                rfl
            · simp only [k1, k2, k4, not_false_eq_true, if_true, if_false, and_false, false_or, false_and, or_self]
              split <;> rfl
      · have h3' : ¬ (-1 ≤ c.toInt ∧ c.toInt < (sz 2).toInt) := by omega
        simp only [h1, h2, h3, and_self, if_true, if_false, show ¬ (1 : Int32) = 0 by decide, not_true_eq_false]
        rw [if_neg (by simp only [decide_eq_true_eq]; omega)]
    · simp only [h1, h2, and_self, if_true, if_false, show ¬ (1 : Int32) = 0 by decide]
      rw [if_neg (by simp only [decide_eq_true_eq]; omega)]
  · simp only [h1, if_true, if_false]
    rw [if_neg (by simp only [decide_eq_true_eq]; omega)]
end
