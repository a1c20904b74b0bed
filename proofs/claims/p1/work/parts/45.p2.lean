/-- only the cells from lo up to hi have changed -/
def qI (lo hi : Nat) (w w' : PW) : Prop := w'.1.length = w.1.length ∧ w'.2 = w.2 ∧ ∀ x, (x < lo ∨ hi ≤ x) → w'.1[x]? = w.1[x]?
theorem qI.rf {lo hi : Nat} {w : PW} : qI lo hi w w := ⟨rfl, rfl, fun _ _ => rfl⟩
theorem qI.tr {lo hi : Nat} {w w' w'' : PW} (h : qI lo hi w w') (k : qI lo hi w' w'') : qI lo hi w w'' := ⟨k.1.trans h.1, k.2.1.trans h.2.1, fun x hx => (k.2.2 x hx).trans (h.2.2 x hx)⟩
theorem qE.i {lo hi a : Nat} {w w' : PW} (h : qE a w w') (h1 : lo ≤ a) (h2 : a < hi) : qI lo hi w w' := ⟨h.1, h.2.2, fun x hx => h.2.1 x (by omega)⟩
theorem qI.at {lo hi x : Nat} {w w' : PW} {y} (h : qI lo hi w w') (hx : w.1[x]? = some y) (ho : x < lo ∨ hi ≤ x) : w'.1[x]? = some y := by rw [h.2.2 x ho, hx]
theorem qI.fr {lo hi : Nat} {w w' : PW} (h : qI lo hi w w') : qF (fun x => lo ≤ x ∧ x < hi) w w' := ⟨by rw [h.1]; exact Nat.le_refl _, fun x _ hp => h.2.2 x (by omega), by rw [h.2.1]; exact Nat.le_refl _⟩
theorem q_nar0 : vp_nar .boolean 0 = 0 := by decide
theorem q_nar1 : vp_nar .boolean 1 = 1 := by decide
section
variable {w : PW} {b : Nat} {tw th : Int32} {sz dp nm sy sp : Nat → Int32}
theorem q_upd01 {f : Nat → Int32} (h : ∀ i, f i = 0 ∨ f i = 1) (k : Nat) (x : Int32) (hx : x = 0 ∨ x = 1) : ∀ i, upd f k x i = 0 ∨ upd f k x i = 1 := fun i => by
  unfold upd
  split
  · exact hx
  · exact h i
/-- a number held -/
theorem qS.hold (h : qS w b tw th sz dp nm sy sp) (sl what v : Int32) (h0 : 0 ≤ sl) (h1 : sl < 125) (h2 : 4 ≤ what) (h3 : what ≤ 10) :
    ∃ w', fSettings_hold b sl what v w = some (.inl none, w') ∧ qS w' b tw th sz dp (upd nm (sl * 7 + what - 4).toNatClampNeg v) (if 9 ≤ what then sy else upd sy sl.toNatClampNeg 1) (if 9 ≤ what then upd sp sl.toNatClampNeg 1 else sp) ∧ qI b (b + 6) w w' := by
  obtain ⟨a0, a1, a2, a3, a4, a5, a6, a7⟩ := h
  unfold fSettings_hold fSettings_place
  rw [q_getR (k := 2) a0 rfl, Option.bind_some, q_call, q_kI]
  obtain ⟨w1, g1, s1, F1⟩ := o_ast a3 (i := sl * 7 + what - 4) (by grind) (by show _ < (875 : Int32); grind) (by decide) v
  rw [g1, Option.bind_some]
  have b0 := F1.at a0 (by omega)
  have b4 := F1.at a4 (by omega)
  have b5 := F1.at a5 (by omega)
  have b1 := F1.at a1 (by omega)
  have b2 := F1.at a2 (by omega)
  by_cases hw : 9 ≤ what
  · simp only [hw, if_true]
    rw [q_getR (k := 4) b0 rfl, Option.bind_some, q_nar1]
    obtain ⟨w2, g2, s2, F2⟩ := o_ast b5 h0 h1 (by decide) 1
    rw [g2, Option.bind_some]
    exact ⟨w2, rfl, ⟨F2.at b0 (by omega), F2.at b1 (by omega), F2.at b2 (by omega), F2.at s1 (by omega), F2.at b4 (by omega), s2, a6, q_upd01 a7 _ _ (Or.inr rfl)⟩, (F1.i (by omega) (by omega)).tr (F2.i (by omega) (by omega))⟩
  · simp only [hw, if_false]
    rw [q_getR (k := 3) b0 rfl, Option.bind_some, q_nar1]
    obtain ⟨w2, g2, s2, F2⟩ := o_ast b4 h0 h1 (by decide) 1
    rw [g2, Option.bind_some]
    exact ⟨w2, rfl, ⟨F2.at b0 (by omega), F2.at b1 (by omega), F2.at b2 (by omega), F2.at s1 (by omega), s2, F2.at b5 (by omega), q_upd01 a6 _ _ (Or.inr rfl), a7⟩, (F1.i (by omega) (by omega)).tr (F2.i (by omega) (by omega))⟩
def q_zero (f : Nat → Int32) (lo : Nat) : Nat → Int32 := fun k => if lo ≤ k ∧ k < 125 then 0 else f k
theorem q_zero_up (f : Nat → Int32) (i : Nat) (hi : i < 125) : q_zero (upd f i 0) (i + 1) = q_zero f i := by
  funext k
  unfold q_zero upd
  grind
theorem q_zero_end (f : Nat → Int32) : q_zero f 125 = f := by
  funext k
  unfold q_zero
  rw [if_neg (by omega)]
theorem qS.forget2 : ∀ (n i F : Nat) (w : PW) (sy sp : Nat → Int32), qS w b tw th sz dp nm sy sp → n < F → i + n = 125 → ∃ w', fSettings_forgetSegments_2 F b (Int32.ofNat i) w = some (.inl none, w') ∧ qS w' b tw th sz dp nm (q_zero sy i) (q_zero sp i) ∧ qI b (b + 6) w w'
  | 0, i, F + 1, w, sy, sp, h, _, hi => by
    have : i = 125 := by omega
    subst this
    rw [fSettings_forgetSegments_2, if_pos (by decide), q_zero_end, q_zero_end]
    exact ⟨w, rfl, h, qI.rf⟩
  | n + 1, i, F + 1, w, sy, sp, h, hF, hi => by
    have h1 : ¬ (125 : Int32) ≤ Int32.ofNat i := fun k => by
      have := (q_le (m := 125) (n := i) (by omega) (by omega)).mp k
      omega
    have e1 := q_tno (n := i) (by omega)
    obtain ⟨a0, a1, a2, a3, a4, a5, a6, a7⟩ := h
    rw [fSettings_forgetSegments_2, if_neg h1, q_getR (k := 3) a0 rfl, Option.bind_some, q_nar0]
    obtain ⟨w1, g1, s1, F1⟩ := o_ast a4 (q_ge0 i (by omega)) ((q_lt (by omega) (by omega)).mpr (by omega)) (by decide) 0
    rw [g1, Option.bind_some, q_getR (k := 4) (F1.at a0 (by omega)) rfl, Option.bind_some]
    obtain ⟨w2, g2, s2, F2⟩ := o_ast (F1.at a5 (by omega)) (q_ge0 i (by omega)) ((q_lt (by omega) (by omega)).mpr (by omega)) (by decide) 0
    rw [g2, Option.bind_some]
    rw [e1] at s1 s2
    have hq : qS w2 b tw th sz dp nm (upd sy i 0) (upd sp i 0) := ⟨F2.at (F1.at a0 (by omega)) (by omega), F2.at (F1.at a1 (by omega)) (by omega), F2.at (F1.at a2 (by omega)) (by omega), F2.at (F1.at a3 (by omega)) (by omega), F2.at s1 (by omega), s2, q_upd01 a6 _ _ (Or.inl rfl), q_upd01 a7 _ _ (Or.inl rfl)⟩
    obtain ⟨w3, g3, k3, F3⟩ := qS.forget2 n (i + 1) F w2 _ _ hq (by omega) (by omega)
    rw [q_zero_up _ _ (by omega), q_zero_up _ _ (by omega)] at k3
    refine ⟨w3, ?_, k3, ((F1.i (by omega) (by omega)).tr (F2.i (by omega) (by omega))).tr F3⟩
    show fSettings_forgetSegments_2 F b (Int32.ofNat i + 1) w2 = _
    rw [show Int32.ofNat i + 1 = Int32.ofNat (i + 1) from (Int32.ofNat_add i 1).symm, g3]
theorem qS.forgetSegments (h : qS w b tw th sz dp nm sy sp) : ∃ w', fSettings_forgetSegments b w = some (.inl none, w') ∧ qS w' b tw th sz dp nm (q_zero sy 0) (q_zero sp 0) ∧ qI b (b + 6) w w' := qS.forget2 125 0 FUEL w sy sp h (by decide) (by decide)
/-- a tile's segments forgotten -/
def q_ft (g : Nat → Int32) (t : Int32) : Nat → Int32 → Nat → Int32
  | 0, _ => g
  | n + 1, c => q_ft (upd g (q_slot t c).toNatClampNeg 0) t n (c + 1)
theorem qS.ft2 (t : Int32) : ∀ (n : Nat) (c : Int32) (F : Nat) (w : PW) (sy sp : Nat → Int32), qS w b tw th sz dp nm sy sp → n < F → c.toInt + n = 4 → ∃ w', fSettings_forgetTile_2 F b t c w = some (.inl none, w') ∧ qS w' b tw th sz dp nm (q_ft sy t n c) (q_ft sp t n c) ∧ qI b (b + 6) w w'
  | 0, c, F + 1, w, sy, sp, h, _, hi => by
    have : (4 : Int32) ≤ c := by
      rw [Int32.le_iff_toInt_le]
      show (4 : Int) ≤ _
      omega
    rw [fSettings_forgetTile_2, if_pos this]
    exact ⟨w, rfl, h, qI.rf⟩
  | n + 1, c, F + 1, w, sy, sp, h, hF, hi => by
    have h1 : ¬ (4 : Int32) ≤ c := by
      rw [Int32.le_iff_toInt_le]
      show ¬ (4 : Int) ≤ _
      omega
    obtain ⟨a0, a1, a2, a3, a4, a5, a6, a7⟩ := h
    rw [fSettings_forgetTile_2, if_neg h1, q_getR (k := 3) a0 rfl, Option.bind_some, q_nar0, q_slotOf, q_call, q_kI]
    obtain ⟨w1, g1, s1, F1⟩ := o_ast a4 (q_slot0 t c) (q_slot1 t c) (by decide) 0
    rw [g1, Option.bind_some, q_getR (k := 4) (F1.at a0 (by omega)) rfl, Option.bind_some, q_slotOf, q_call, q_kI]
    obtain ⟨w2, g2, s2, F2⟩ := o_ast (F1.at a5 (by omega)) (q_slot0 t c) (q_slot1 t c) (by decide) 0
    rw [g2, Option.bind_some]
    have hq : qS w2 b tw th sz dp nm (upd sy (q_slot t c).toNatClampNeg 0) (upd sp (q_slot t c).toNatClampNeg 0) := ⟨F2.at (F1.at a0 (by omega)) (by omega), F2.at (F1.at a1 (by omega)) (by omega), F2.at (F1.at a2 (by omega)) (by omega), F2.at (F1.at a3 (by omega)) (by omega), F2.at s1 (by omega), s2, q_upd01 a6 _ _ (Or.inl rfl), q_upd01 a7 _ _ (Or.inl rfl)⟩
    have e1 : (1 : Int32).toInt = 1 := rfl
    have hc := q_bot c
    obtain ⟨w3, g3, k3, F3⟩ := qS.ft2 t n (c + 1) F w2 _ _ hq (by omega) (by rw [q_add (by omega) (by omega)]; omega)
    exact ⟨w3, g3, k3, ((F1.i (by omega) (by omega)).tr (F2.i (by omega) (by omega))).tr F3⟩
theorem qS.forgetTile (h : qS w b tw th sz dp nm sy sp) (t : Int32) : ∃ w', fSettings_forgetTile b t w = some (.inl none, w') ∧ qS w' b tw th sz dp nm (q_ft sy t 5 (-1)) (q_ft sp t 5 (-1)) ∧ qI b (b + 6) w w' := qS.ft2 t 5 (-1) FUEL w sy sp h (by decide) (by decide)
/-- depths -/
def q_dep (dp : Nat → Int32) (c v : Int32) : Nat → Nat → Nat → Int32
  | 0, _ => dp
  | n + 1, i => q_dep (if c = -1 ∨ c = Int32.ofNat i then upd dp i v else dp) c v n (i + 1)
theorem qS.dep2 (c v : Int32) : ∀ (n i F : Nat) (w : PW) (dp : Nat → Int32), qS w b tw th sz dp nm sy sp → n < F → i + n = 4 → ∃ w', fSettings_changeDepth_2 F b c v (Int32.ofNat i) w = some (.inl none, w') ∧ qS w' b tw th sz (q_dep dp c v n i) nm sy sp ∧ qI b (b + 6) w w'
  | 0, i, F + 1, w, dp, h, _, hi => by
    have : i = 4 := by omega
    subst this
    rw [fSettings_changeDepth_2, if_pos (by decide)]
    exact ⟨w, rfl, h, qI.rf⟩
  | n + 1, i, F + 1, w, dp, h, hF, hi => by
    have h1 : ¬ (4 : Int32) ≤ Int32.ofNat i := fun k => by
      have := (q_le (m := 4) (n := i) (by omega) (by omega)).mp k
      omega
    have e1 := q_tno (n := i) (by omega)
    have e2 : Int32.ofNat i + 1 = Int32.ofNat (i + 1) := (Int32.ofNat_add i 1).symm
    have hj : c = -1 ∨ c = Int32.ofNat i → ∃ w', fSettings_changeDepth_17 (fSettings_changeDepth_2 F) b c v (Int32.ofNat i) w = some (.inl none, w') ∧ qS w' b tw th sz (q_dep dp c v (n + 1) i) nm sy sp ∧ qI b (b + 6) w w' := fun hc => by
      obtain ⟨a0, a1, a2, a3, a4, a5, a6⟩ := h
      unfold fSettings_changeDepth_17
      rw [q_getR (k := 1) a0 rfl, Option.bind_some]
      obtain ⟨w1, g1, s1, F1⟩ := o_ast a2 (q_ge0 i (by omega)) ((q_lt (by omega) (by omega)).mpr (by omega)) (by decide) v
      rw [g1, Option.bind_some]
      rw [e1] at s1
      have hq : qS w1 b tw th sz (upd dp i v) nm sy sp := ⟨F1.at a0 (by omega), F1.at a1 (by omega), s1, F1.at a3 (by omega), F1.at a4 (by omega), F1.at a5 (by omega), a6⟩
      obtain ⟨w2, g2, k2, F2⟩ := qS.dep2 c v n (i + 1) F w1 _ hq (by omega) (by omega)
      refine ⟨w2, ?_, ?_, (F1.i (by omega) (by omega)).tr F2⟩
      · show fSettings_changeDepth_2 F b c v (Int32.ofNat i + 1) w1 = _
        rw [e2, g2]
      · rw [q_dep, if_pos hc]
        exact k2
    rw [fSettings_changeDepth_2, if_neg h1]
    by_cases hc1 : c = -1
    · rw [if_pos hc1]
      exact hj (Or.inl hc1)
    · rw [if_neg hc1]
      by_cases hc2 : c = Int32.ofNat i
      · rw [if_neg (not_not_intro hc2)]
        exact hj (Or.inr hc2)
      · rw [if_pos hc2]
        obtain ⟨w2, g2, k2, F2⟩ := qS.dep2 c v n (i + 1) F w _ h (by omega) (by omega)
        refine ⟨w2, ?_, ?_, F2⟩
        · show fSettings_changeDepth_2 F b c v (Int32.ofNat i + 1) w = _
          rw [e2, g2]
        · rw [q_dep, if_neg (by rintro (e | e); exact hc1 e; exact hc2 e)]
          exact k2
theorem qS.changeDepth (h : qS w b tw th sz dp nm sy sp) (c v : Int32) : ∃ w', fSettings_changeDepth b c v w = some (.inl none, w') ∧ qS w' b tw th sz (q_dep dp c v 4 0) nm sy sp ∧ qI b (b + 6) w w' := qS.dep2 c v 4 0 FUEL w dp h (by decide) (by decide)
/-- a segment made -/
def q_mkN (from_ sl : Int32) : Nat → Int32 → (Nat → Int32) → Nat → Int32
  | 0, _, nm => nm
  | n + 1, k, nm => q_mkN from_ sl n (k + 1) (upd nm (sl * 7 + k - 4).toNatClampNeg (nm (from_ * 7 + k - 4).toNatClampNeg))
theorem qS.mk57 (from_ sl hi : Int32) (f0 : 0 ≤ from_) (f1 : from_ < 125) (s0 : 0 ≤ sl) (s1 : sl < 125) (hb : hi ≤ 10) : ∀ (n : Nat) (k : Int32) (F : Nat) (w : PW) (nm sy sp : Nat → Int32), qS w b tw th sz dp nm sy sp → n < F → 4 ≤ k → k.toInt + n = hi.toInt + 1 → (hi = 8 ∨ (hi = 10 ∧ 9 ≤ k)) → ∃ w', fSettings_makeSegment_57 F b sl from_ hi k w = some (.inl none, w') ∧ qS w' b tw th sz dp (q_mkN from_ sl n k nm) (if hi = 10 ∨ n = 0 then sy else upd sy sl.toNatClampNeg 1) (if hi = 10 ∧ n ≠ 0 then upd sp sl.toNatClampNeg 1 else sp) ∧ qI b (b + 6) w w'
  | 0, k, F + 1, w, nm, sy, sp, h, _, h4, hi2, _ => by
    have : hi < k := by rw [Int32.lt_iff_toInt_lt]; omega
    rw [fSettings_makeSegment_57, if_pos this, if_pos (Or.inr rfl), if_neg (fun k => k.2 rfl)]
    exact ⟨w, rfl, h, qI.rf⟩
  | n + 1, k, F + 1, w, nm, sy, sp, h, hF, h4, hi2, hc => by
    have h1 : ¬ hi < k := by rw [Int32.lt_iff_toInt_lt]; omega
    have hk : k ≤ 10 := by grind
    obtain ⟨fs, ho⟩ := h.obj
    rw [fSettings_makeSegment_57, if_neg h1, q_getR (k := 2) h.1 rfl, Option.bind_some]
    unfold fSettings_place
    rw [q_call, q_kI, q_ald h.2.2.2.1 (by grind) (by show _ < (875 : Int32); grind) (by decide), Option.bind_some, ho, Option.bind_some]
    obtain ⟨w1, g1, k1, F1⟩ := h.hold sl k (nm (from_ * 7 + k - 4).toNatClampNeg) s0 s1 h4 hk
    rw [g1, q_call, q_kV]
    have e1 : (1 : Int32).toInt = 1 := rfl
    have hk2 : k.toInt ≤ 10 := Int32.le_iff_toInt_le.mp hk
    have hk3 := q_bot k
    have e3 : (k + 1).toInt = k.toInt + 1 := by rw [q_add (by omega) (by omega)]; rfl
    obtain ⟨w2, g2, k2, F2⟩ := qS.mk57 from_ sl hi f0 f1 s0 s1 hb n (k + 1) F w1 _ _ _ k1 (by omega) (by grind) (by omega) (by grind)
    refine ⟨w2, g2, ?_, F1.tr F2⟩
    rw [q_mkN]
    have u2 : ∀ f : Nat → Int32, upd (upd f sl.toNatClampNeg 1) sl.toNatClampNeg 1 = upd f sl.toNatClampNeg 1 := fun f => by
      funext j
      unfold upd
      split <;> rfl
    rcases hc with hc | ⟨hc, hc2⟩
    · have h9 : ¬ 9 ≤ k := by grind
      have h10 : ¬ hi = 10 := by grind
      simp only [h9, if_false, h10, false_or, false_and, if_false] at k2
      simp only [h10, false_or, false_and, if_false, Nat.add_eq_zero_iff, Nat.one_ne_zero, and_false]
      by_cases hn : n = 0
      · simp only [hn, if_true] at k2 ⊢
        exact k2
      · simp only [hn, if_false, u2] at k2
        exact k2
    · simp only [hc2, if_true, hc, true_or, true_and] at k2
      simp only [hc, true_or, true_and, if_true, ne_eq, Nat.add_eq_zero_iff, Nat.one_ne_zero, and_false, not_false_eq_true]
      by_cases hn : n = 0
      · simp only [hn, ne_eq, not_true_eq_false, if_false] at k2
        rw [hn]
        exact k2
      · simp only [hn, ne_eq, not_false_eq_true, if_true, u2] at k2
        exact k2
def q_mk (what from_ sl : Int32) (nm : Nat → Int32) : Nat → Int32 := if sl = from_ then nm else if 9 ≤ what then q_mkN from_ sl 2 9 nm else q_mkN from_ sl 5 4 nm
theorem qS.makeSegment (h : qS w b tw th sz dp nm sy sp) (what t c : Int32) : ∃ w', fSettings_makeSegment b what t c w = some (.inl none, w') ∧ qS w' b tw th sz dp (q_mk what (q_fc (if 9 ≤ what then sp else sy) t c) (q_slot t c) nm) (if q_slot t c = q_fc (if 9 ≤ what then sp else sy) t c ∨ 9 ≤ what then sy else upd sy (q_slot t c).toNatClampNeg 1) (if ¬ q_slot t c = q_fc (if 9 ≤ what then sp else sy) t c ∧ 9 ≤ what then upd sp (q_slot t c).toNatClampNeg 1 else sp) ∧ qI b (b + 6) w w' := by
  obtain ⟨fs, ho⟩ := h.obj
  have hb := q_slot_b t c
  have hf := q_fc_b (if 9 ≤ what then sp else sy) t c
  unfold fSettings_makeSegment
  rw [q_slotOf, q_call, q_kI, ho, Option.bind_some, h.force, q_call, q_kI]
  generalize q_fc (if 9 ≤ what then sp else sy) t c = fr at *
  unfold fSettings_makeSegment_36 q_mk
  by_cases he : q_slot t c = fr
  · simp only [he, not_true_eq_false, if_false, if_true, true_or, false_and]
    exact ⟨w, rfl, h, qI.rf⟩
  · by_cases hw : 9 ≤ what
    · simp only [he, not_false_eq_true, if_true, hw, or_true, if_false, and_self]
      obtain ⟨w', g1, k1, F1⟩ := qS.mk57 fr (q_slot t c) 10 hf.1 hf.2 hb.1 hb.2 (by decide) 2 9 FUEL w nm sy sp h (by decide) (by decide) rfl (Or.inr ⟨rfl, by decide⟩)
      simp only [true_or, if_true, true_and, ne_eq, show ¬ (2 : Nat) = 0 by decide, not_false_eq_true] at k1
      exact ⟨w', g1, k1, F1⟩
    · simp only [he, not_false_eq_true, if_true, hw, or_self, if_false, and_false]
      obtain ⟨w', g1, k1, F1⟩ := qS.mk57 fr (q_slot t c) 8 hf.1 hf.2 hb.1 hb.2 (by decide) 5 4 FUEL w nm sy sp h (by decide) (by decide) rfl (Or.inl rfl)
      simp only [show ¬ (8 : Int32) = 10 by decide, show ¬ (5 : Nat) = 0 by decide, or_self, if_false, false_and] at k1
      exact ⟨w', g1, k1, F1⟩
end
