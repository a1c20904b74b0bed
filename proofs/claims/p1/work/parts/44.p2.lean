/-- the settings -/
def qS (w : PW) (b : Nat) (tw th : Int32) (sz dp nm sy sp : Nat → Int32) : Prop :=
  w.1[b]? = some (.inr (7, [.ref (b + 1), .ref (b + 2), .ref (b + 3), .ref (b + 4), .ref (b + 5), .int tw, .int th])) ∧
  w.1[b + 1]? = some (.inl (0, 3, .inl sz)) ∧ w.1[b + 2]? = some (.inl (0, 4, .inl dp)) ∧ w.1[b + 3]? = some (.inl (0, 875, .inl nm)) ∧ w.1[b + 4]? = some (.inl (2, 125, .inl sy)) ∧ w.1[b + 5]? = some (.inl (2, 125, .inl sp)) ∧
  (∀ i, sy i = 0 ∨ sy i = 1) ∧ ∀ i, sp i = 0 ∨ sp i = 1
theorem qS.keep {w w' : PW} {b : Nat} {tw th : Int32} {sz dp nm sy sp : Nat → Int32} (h : qS w b tw th sz dp nm sy sp) (hk : ∀ x, b ≤ x → x < b + 6 → w'.1[x]? = w.1[x]?) : qS w' b tw th sz dp nm sy sp := by
  obtain ⟨h0, h1, h2, h3, h4, h5, h6⟩ := h
  exact ⟨by rw [hk b (by omega) (by omega), h0], by rw [hk (b + 1) (by omega) (by omega), h1], by rw [hk (b + 2) (by omega) (by omega), h2], by rw [hk (b + 3) (by omega) (by omega), h3], by rw [hk (b + 4) (by omega) (by omega), h4], by rw [hk (b + 5) (by omega) (by omega), h5], h6⟩
def q_row (t : Int32) : Int32 := if t < 0 then 0 else if 24 ≤ t then 0 else t + 1
def q_col (c : Int32) : Int32 := if c < 0 then 0 else if 4 ≤ c then 0 else c + 1
def q_slot (t c : Int32) : Int32 := q_row t * 5 + q_col c
theorem q_slotOf (t c : Int32) (w : PW) : fSettings_slotOf t c w = some (.inl (some (.int (q_slot t c))), w) := by
  unfold fSettings_slotOf fSettings_slotOf_17 fSettings_slotOf_34 q_slot q_row q_col
  (repeat' split) <;> rfl
theorem q_row_b (t : Int32) : 0 ≤ q_row t ∧ q_row t < 25 := by unfold q_row; grind
theorem q_col_b (t : Int32) : 0 ≤ q_col t ∧ q_col t < 5 := by unfold q_col; grind
theorem q_slot_b (t c : Int32) : 0 ≤ q_slot t c ∧ q_slot t c < 125 := by
  have := q_row_b t
  have := q_col_b c
  unfold q_slot
  grind
theorem q_slot0 (t c : Int32) : 0 ≤ q_slot t c := (q_slot_b t c).1
theorem q_slot1 (t c : Int32) : q_slot t c < Int32.ofNat 125 := (q_slot_b t c).2
def q_many (x s : Int32) : Int32 := if 1 ≤ s then (x + s - 1) / s else 0
theorem q_asMany (x s : Int32) (w : PW) : fSettings_asManyAsItTakes x s w = some (.inl (some (.int (q_many x s))), w) := by
  unfold fSettings_asManyAsItTakes q_many
  split
  · rename_i h
    unfold p_idiv
    rw [if_neg (by grind)]
    rfl
  · rfl
section
variable {w : PW} {b : Nat} {tw th : Int32} {sz dp nm sy sp : Nat → Int32}
theorem qS.obj (h : qS w b tw th sz dp nm sy sp) : ∃ fs, p_obj w b 7 = some fs := ⟨_, q_obj h.1⟩
theorem qS.tilesFor (h : qS w b tw th sz dp nm sy sp) (x y : Int32) : fSettings_tilesFor b x y w = some (.inl (some (.int (q_many x tw * q_many y th))), w) := by
  unfold fSettings_tilesFor
  rw [q_getI h.1 rfl, Option.bind_some, q_asMany, q_call, q_kI, q_getI h.1 rfl, Option.bind_some, q_asMany, q_call, q_kI]
theorem qS.size (h : qS w b tw th sz dp nm sy sp) (i : Int32) (h0 : 0 ≤ i) (h1 : i < 3) : p_ald w (b + 1) 0 i = some (sz i.toNatClampNeg) := q_ald h.2.1 h0 h1 (by decide)
theorem qS.tiles (h : qS w b tw th sz dp nm sy sp) : fSettings_tiles b w = some (.inl (some (.int (q_many (sz 0) tw * q_many (sz 1) th))), w) := by
  unfold fSettings_tiles
  obtain ⟨fs, ho⟩ := h.obj
  simp only [q_getR (k := 0) h.1 rfl, Option.bind_some, h.size 0 (by decide) (by decide), h.size 1 (by decide) (by decide), ho, h.tilesFor, q_call, q_kI]
  rfl
theorem qS.isTile (h : qS w b tw th sz dp nm sy sp) (t : Int32) : fSettings_isTile b t w = some (.inl (some (.int (if t < 0 then 0 else if q_many (sz 0) tw * q_many (sz 1) th ≤ t then 0 else 1))), w) := by
  unfold fSettings_isTile
  obtain ⟨fs, ho⟩ := h.obj
  simp only [ho, Option.bind_some, h.tiles, q_call, q_kI, q_ret0, q_ret1]
  (repeat' split) <;> rfl
theorem qS.isComponent (h : qS w b tw th sz dp nm sy sp) (t : Int32) : fSettings_isComponent b t w = some (.inl (some (.int (if t < 0 then 0 else if sz 2 ≤ t then 0 else 1))), w) := by
  unfold fSettings_isComponent
  simp only [q_getR (k := 0) h.1 rfl, Option.bind_some, h.size 2 (by decide) (by decide), q_ret0, q_ret1]
  show (if t < 0 then _ else if sz 2 ≤ t then _ else _) = _
  (repeat' split) <;> rfl
def q_within (what : Int32) (v : Int64) : Int32 := if what < 0 then 0 else if 11 ≤ what then 0 else if lg_cmp v (Int32.toInt64 (pz_tab 0 what.toNatClampNeg)) < 0 then 0 else if 0 < lg_cmp v (Int32.toInt64 (pz_tab 1 what.toNatClampNeg)) then 0 else 1
theorem q_isWithin (what : Int32) (v : Int64) (w : PW) : fW_isWithin what v w = some (.inl (some (.int (q_within what v))), w) := by
  unfold fW_isWithin q_within
  by_cases h : what < 0
  · simp only [h, if_true, q_ret0]
  · by_cases h2 : (11 : Int32) ≤ what
    · have : p_tlen 0 ≤ what := h2
      simp only [h, this, h2, if_true, if_false, q_ret0]
    · have h3 : ¬ p_tlen 0 ≤ what := h2
      have e : ∀ j, p_tab j what = some (pz_tab j what.toNatClampNeg) := fun j => by
        unfold p_tab
        rw [if_neg]
        exact q_inb (q_0le h) (by show what < 11; grind) (by decide)
      simp only [h, h3, h2, if_false, e, Option.bind_some, q_ret0, q_ret1]
      (repeat' split) <;> rfl
theorem qS.allows (h : qS w b tw th sz dp nm sy sp) (what v : Int32) : fSettings_allows b what v w = some (.inl (some (.int (if q_within what (Int32.toInt64 v) = 0 then 0 else if 24 < q_many (if what = 0 then v else sz 0) tw * q_many (if what = 1 then v else sz 1) th then 0 else 1))), w) := by
  unfold fSettings_allows fSettings_allows_25 fSettings_allows_41
  obtain ⟨fs, ho⟩ := h.obj
  simp only [q_isWithin, q_call, q_kI, q_getR (k := 0) h.1 rfl, Option.bind_some, h.size 0 (by decide) (by decide), h.size 1 (by decide) (by decide), ho, h.tilesFor, q_ret0, q_ret1]
  by_cases h1 : q_within what (Int32.toInt64 v) = 0
  · simp only [h1, not_true_eq_false, if_true, if_false]
  · simp only [h1, not_false_eq_true, if_true, if_false]
    by_cases h2 : what = 0
    · subst h2
      simp only [not_true_eq_false, if_true, if_false, show ¬ (0 : Int32) = 1 by decide, not_false_eq_true]
      show (if (24 : Int32) < q_many v tw * q_many (sz 1) th then _ else _) = _
      split <;> rfl
    · by_cases h3 : what = 1
      · subst h3
        simp only [h2, not_true_eq_false, if_true, if_false, not_false_eq_true]
        show (if (24 : Int32) < q_many (sz 0) tw * q_many v th then _ else _) = _
        split <;> rfl
      · simp only [h2, h3, if_true, if_false, not_false_eq_true]
        show (if (24 : Int32) < q_many (sz 0) tw * q_many (sz 1) th then _ else _) = _
        split <;> rfl
def q_any (sy sp : Nat → Int32) : Nat → Nat → Int32
  | 0, _ => 0
  | n + 1, i => if ¬ sy i = 0 then 1 else if sp i = 0 then q_any sy sp n (i + 1) else 1
theorem qS.any2 (h : qS w b tw th sz dp nm sy sp) : ∀ (n i F : Nat), n < F → i + n = 125 → fSettings_hasSegmentNotForAll_2 F b (Int32.ofNat i) w = some (.inl (some (.int (q_any sy sp n i))), w)
  | 0, i, F + 1, _, hi => by
    rw [fSettings_hasSegmentNotForAll_2, if_pos]
    · rfl
    · exact (q_le (m := 125) (by omega) (by omega)).mpr (by omega)
  | n + 1, i, F + 1, hF, hi => by
    have h1 : ¬ (125 : Int32) ≤ Int32.ofNat i := fun k => by
      have := (q_le (m := 125) (n := i) (by omega) (by omega)).mp k
      omega
    have e1 := q_tno (n := i) (by omega)
    rw [fSettings_hasSegmentNotForAll_2, if_neg h1]
    rw [q_getR (k := 3) h.1 rfl, Option.bind_some, q_ald h.2.2.2.2.1 (q_ge0 _ (by omega)) ((q_lt (by omega) (by omega)).mpr (by omega)) (by decide), Option.bind_some, q_getR (k := 4) h.1 rfl, Option.bind_some, q_ald h.2.2.2.2.2.1 (q_ge0 _ (by omega)) ((q_lt (by omega) (by omega)).mpr (by omega)) (by decide), Option.bind_some, e1]
    show (if ¬ sy i = 0 then _ else if sp i = 0 then fSettings_hasSegmentNotForAll_2 F b (Int32.ofNat i + 1) w else _) = _
    rw [show Int32.ofNat i + 1 = Int32.ofNat (i + 1) from (Int32.ofNat_add i 1).symm, qS.any2 h n (i + 1) F (by omega) (by omega), q_any]
    (repeat' split) <;> rfl
theorem qS.any (h : qS w b tw th sz dp nm sy sp) : fSettings_hasSegmentNotForAll b w = some (.inl (some (.int (q_any sy sp 124 1))), w) := h.any2 124 1 FUEL (by decide) (by decide)
theorem qS.both (h : qS w b tw th sz dp nm sy sp) : fSettings_hasStyleAndStepForAll b w = some (.inl (some (.int (if sy 0 = 0 then 0 else if sp 0 = 0 then 0 else 1))), w) := by
  unfold fSettings_hasStyleAndStepForAll
  rw [q_getR (k := 3) h.1 rfl, Option.bind_some, q_ald h.2.2.2.2.1 (by decide) (by decide) (by decide), Option.bind_some, q_getR (k := 4) h.1 rfl, Option.bind_some, q_ald h.2.2.2.2.2.1 (by decide) (by decide) (by decide), Option.bind_some, q_ret0, q_ret1]
  show (if sy 0 = 0 then _ else if sp 0 = 0 then _ else _) = _
  (repeat' split) <;> rfl
theorem qS.hasStyle (h : qS w b tw th sz dp nm sy sp) (t c : Int32) : fSettings_hasStyle b t c w = some (.inl (some (.int (sy (q_slot t c).toNatClampNeg))), w) := by
  unfold fSettings_hasStyle
  rw [q_getR (k := 3) h.1 rfl, Option.bind_some, q_slotOf, q_call, q_kI, q_ald h.2.2.2.2.1 (q_slot0 t c) (q_slot1 t c) (by decide), Option.bind_some]
  unfold p_retZ
  rw [if_pos (h.2.2.2.2.2.2.1 _)]
theorem qS.hasStep (h : qS w b tw th sz dp nm sy sp) (t c : Int32) : fSettings_hasStep b t c w = some (.inl (some (.int (sp (q_slot t c).toNatClampNeg))), w) := by
  unfold fSettings_hasStep
  rw [q_getR (k := 4) h.1 rfl, Option.bind_some, q_slotOf, q_call, q_kI, q_ald h.2.2.2.2.2.1 (q_slot0 t c) (q_slot1 t c) (by decide), Option.bind_some]
  unfold p_retZ
  rw [if_pos (h.2.2.2.2.2.2.2 _)]
def q_fc (g : Nat → Int32) (t c : Int32) : Int32 := if g (q_slot t c).toNatClampNeg = 0 then (if g (q_slot t (-1)).toNatClampNeg = 0 then (if g (q_slot (-1) c).toNatClampNeg = 0 then 0 else q_slot (-1) c) else q_slot t (-1)) else q_slot t c
theorem q_fc_b (g : Nat → Int32) (t c : Int32) : 0 ≤ q_fc g t c ∧ q_fc g t c < 125 := by
  unfold q_fc
  have h1 := q_slot_b t c
  have h2 := q_slot_b t (-1)
  have h3 := q_slot_b (-1) c
  (repeat' split) <;> first | assumption | decide
theorem q_force {a : Nat} {g : Nat → Int32} (h : w.1[a]? = some (.inl (2, 125, .inl g))) (t c : Int32) : fSettings_slotInForce_17 t c a w = some (.inl (some (.int (q_fc g t c))), w) := by
  unfold fSettings_slotInForce_17 q_fc
  simp only [q_slotOf, q_call, q_kI, q_ald h (q_slot0 _ _) (q_slot1 _ _) (by decide), Option.bind_some]
  (repeat' split) <;> rfl
theorem qS.force (h : qS w b tw th sz dp nm sy sp) (what t c : Int32) : fSettings_slotInForce b what t c w = some (.inl (some (.int (q_fc (if 9 ≤ what then sp else sy) t c))), w) := by
  unfold fSettings_slotInForce
  rw [q_getR (k := 4) h.1 rfl, Option.bind_some, q_getR (k := 3) h.1 rfl, Option.bind_some, q_force h.2.2.2.2.1, q_force h.2.2.2.2.2.1]
  split <;> rfl
def q_val (sz dp nm sy sp : Nat → Int32) (what t c : Int32) : Int32 := if what ≤ 2 then sz what.toNatClampNeg else if what = 3 then dp (p_max 0 c).toNatClampNeg else nm (q_fc (if 9 ≤ what then sp else sy) t (if what = 4 ∨ what = 5 then -1 else c) * 7 + what - 4).toNatClampNeg
theorem qS.val62 (h : qS w b tw th sz dp nm sy sp) (what t c : Int32) (h0 : 4 ≤ what) (h1 : what ≤ 10) : fSettings_valueOf_62 what c t what b (b + 3) w = some (.inl (some (.int (nm (q_fc (if 9 ≤ what then sp else sy) t c * 7 + what - 4).toNatClampNeg))), w) := by
  obtain ⟨fs, ho⟩ := h.obj
  have hb := q_fc_b (if 9 ≤ what then sp else sy) t c
  unfold fSettings_valueOf_62 fSettings_place
  rw [ho, Option.bind_some, h.force, q_call, q_kI, q_call, q_kI, q_ald h.2.2.2.1 (by grind) (by show _ < (875 : Int32); grind) (by decide)]
  rfl
theorem qS.valueOf (h : qS w b tw th sz dp nm sy sp) (what t c : Int32) (h0 : 0 ≤ what) (h1 : what ≤ 10) (hc : what = 3 → c < 4) : fSettings_valueOf b what t c w = some (.inl (some (.int (q_val sz dp nm sy sp what t c))), w) := by
  unfold fSettings_valueOf fSettings_valueOf_43 q_val
  by_cases k1 : (2 : Int32) < what
  · have k1' : ¬ what ≤ 2 := by grind
    by_cases k2 : what = 3
    · subst k2
      have hd : 0 ≤ p_max 0 c ∧ p_max 0 c < 4 := by unfold p_max; grind
      simp only [k1, k1', if_true, if_false, not_true_eq_false]
      rw [q_getR (k := 1) h.1 rfl, Option.bind_some, q_ald h.2.2.1 hd.1 hd.2 (by decide), Option.bind_some]
    · simp only [k1, k1', k2, if_true, if_false, not_false_eq_true, q_getR (k := 2) h.1 rfl, Option.bind_some]
      by_cases k3 : what = 4
      · subst k3
        simp only [if_true, true_or, show ¬ (1 : Int32) = 0 by decide, if_false]
        exact h.val62 4 t (-1) h0 h1
      · by_cases k4 : what = 5
        · subst k4
          simp only [if_true, or_true, show ¬ (1 : Int32) = 0 by decide, if_false, not_true_eq_false, k3]
          exact h.val62 5 t (-1) h0 h1
        · simp only [k3, k4, if_true, if_false, not_false_eq_true, or_self]
          exact h.val62 what t c (by grind) h1
  · have k1' : what ≤ 2 := by grind
    simp only [k1, k1', if_true, if_false]
    rw [q_getR (k := 0) h.1 rfl, Option.bind_some, h.size what h0 (by grind), Option.bind_some]
end
