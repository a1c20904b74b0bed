section
variable {w : PW} {z : Nat → Int32} {g : Nat → Nat → Int32} {tw th : Int32} {sz dp nm sy sp : Nat → Int32}
theorem q_lti {a b : Int32} : a < b ↔ a.toInt < b.toInt := Int32.lt_iff_toInt_lt
theorem q_lei {a b : Int32} : a ≤ b ↔ a.toInt ≤ b.toInt := Int32.le_iff_toInt_le
theorem qM.mk68 (h : qM w z g) {what pl : Int32} (hw : what.toInt ≤ 10) (p0 : 0 ≤ pl.toInt) (p1 : pl.toInt < 125) : ∃ w', fD_make_68 37 what pl w = some (.inl none, w') ∧ qM w' z (if 9 ≤ what.toInt then ug g 40 pl.toNatClampNeg 1 else ug g 39 pl.toNatClampNeg 1) ∧ qI 37 66 w w' := by
  unfold fD_make_68
  have i0 : 0 ≤ pl := q_lei.mpr p0
  have i1 : pl < Int32.ofNat 250 := by
    rw [q_lti]
    show _ < (250 : Int)
    omega
  rw [q_isStep hw, q_call, q_kI, q_nar1]
  by_cases h9 : 9 ≤ what.toInt
  · obtain ⟨w', g1, q1, F1⟩ := h.st 40 2 pl 1 rfl (by omega) (by omega) i0 i1 (by decide)
    rw [if_pos h9, if_pos h9, if_neg (by decide), h.R 5 40 rfl, Option.bind_some, g1]
    exact ⟨w', rfl, q1, F1⟩
  · obtain ⟨w', g1, q1, F1⟩ := h.st 39 2 pl 1 rfl (by omega) (by omega) i0 i1 (by decide)
    rw [if_neg h9, if_neg h9, if_pos rfl, h.R 4 39 rfl, Option.bind_some, g1]
    exact ⟨w', rfl, q1, F1⟩
/-- what make leaves of the rows -/
def q_made (g g' : Nat → Nat → Int32) (what : Int32) (fr pl lo : Nat) : Prop :=
  (∀ k, k ≠ 38 → k ≠ 39 → k ≠ 40 → g' k = g k) ∧ (g' 39 = if 9 ≤ what.toInt then g 39 else upd (g 39) pl 1) ∧ (g' 40 = if 9 ≤ what.toInt then upd (g 40) pl 1 else g 40) ∧
  ∀ s j, s < 250 → 4 ≤ j → j ≤ 10 → g' 38 (11 * s + j) = if s = pl ∧ lo ≤ j ∧ (9 ≤ j ↔ 9 ≤ what.toInt) then g 38 (11 * fr + j) else g 38 (11 * s + j)
theorem q_made_end (g : Nat → Nat → Int32) (what : Int32) (fr : Nat) (pl : Nat) (lo : Nat) (hlo : 11 ≤ lo ∨ fr = pl) : q_made g (if 9 ≤ what.toInt then ug g 40 pl 1 else ug g 39 pl 1) what fr pl lo := by
  by_cases h9 : 9 ≤ what.toInt
  · simp only [h9, if_true]
    refine ⟨fun k h1 h2 h3 => ug_ne _ _ _ h3, ?_, ?_, fun s j hs h4 h10 => ?_⟩
    · rw [if_pos h9, ug_ne _ _ _ (by decide)]
    · rw [if_pos h9, ug_self]
    · rw [ug_ne _ _ _ (by decide)]
      split
      · rename_i hh
        rcases hlo with e | e
        · omega
        · rw [hh.1, e]
      · rfl
  · simp only [h9, if_false]
    refine ⟨fun k h1 h2 h3 => ug_ne _ _ _ h2, ?_, ?_, fun s j hs h4 h10 => ?_⟩
    · rw [if_neg h9, ug_self]
    · rw [if_neg h9, ug_ne _ _ _ (by decide)]
    · rw [ug_ne _ _ _ (by decide)]
      split
      · rename_i hh
        rcases hlo with e | e
        · omega
        · rw [hh.1, e]
      · rfl
theorem qM.mk20 {what pl fr : Int32} (hw : what.toInt ≤ 10) (p0 : 0 ≤ pl.toInt) (p1 : pl.toInt < 125) (f0 : 0 ≤ fr.toInt) (f1 : fr.toInt < 125) (hne : ¬ fr = pl) : ∀ (n : Nat) (k : Int32) (F : Nat) (w : PW) (g : Nat → Nat → Int32), qM w z g → n < F → 4 ≤ k.toInt → k.toInt + n = 11 → ∃ w' g', fD_make_20 F 37 what pl fr k w = some (.inl none, w') ∧ qM w' z g' ∧ q_made g g' what fr.toInt.toNat pl.toInt.toNat k.toInt.toNat ∧ qI 37 66 w w'
  | 0, k, F + 1, w, g, h, _, h4, hk => by
    have e10 : (10 : Int32).toInt = 10 := rfl
    rw [fD_make_20, if_pos (by rw [q_lti]; omega)]
    obtain ⟨w', g1, q1, F1⟩ := h.mk68 hw p0 p1
    exact ⟨w', _, g1, q1, q_made_end g what _ _ _ (Or.inl (by omega)), F1⟩
  | n + 1, k, F + 1, w, g, h, hF, h4, hk => by
    have e10 : (10 : Int32).toInt = 10 := rfl
    have e1 := q_suc (k := k) (by omega)
    rw [fD_make_20, if_neg (by rw [q_lti]; omega), if_neg hne, q_isStep (by omega), q_call, q_kI, q_isStep hw, q_call, q_kI]
    by_cases hm : (9 ≤ k.toInt ↔ 9 ≤ what.toInt)
    · have hm2 : (if 9 ≤ k.toInt then (1 : Int32) else 0) = (if 9 ≤ what.toInt then 1 else 0) := by simp only [hm]
      rw [if_neg (not_not_intro hm2), h.obj, Option.bind_some, h.mget fr k (q_lei.mpr f0) (by rw [q_lti]; show _ < (250 : Int); omega) (by rw [q_lei]; show (0 : Int) ≤ _; omega) (by rw [q_lei]; omega), q_call, q_kI, h.obj, Option.bind_some]
      obtain ⟨w1, g1, q1, F1⟩ := h.mput pl k (g 38 (11 * fr + k).toNatClampNeg) (q_lei.mpr p0) (by rw [q_lti]; show _ < (250 : Int); omega) (by rw [q_lei]; show (0 : Int) ≤ _; omega) (by rw [q_lei]; omega)
      rw [g1, q_call, q_kV]
      obtain ⟨w2, g', g2, q2, r2, F2⟩ := qM.mk20 hw p0 p1 f0 f1 hne n (k + 1) F w1 _ q1 (by omega) (by omega) (by omega)
      refine ⟨w2, g', g2, q2, ?_, F1.tr F2⟩
      rw [q_i11 p0 (by omega) (by omega) (by omega), q_i11 f0 (by omega) (by omega) (by omega)] at r2
      obtain ⟨a1, a2, a3, a4⟩ := r2
      have hnn : fr.toInt ≠ pl.toInt := fun e => hne (q_i32 e)
      refine ⟨fun j h1 h2 h3 => by rw [a1 j h1 h2 h3, ug_ne _ _ _ h1], by rw [a2, ug_ne _ _ _ (by decide)], by rw [a3, ug_ne _ _ _ (by decide)], fun s j hs j4 j10 => ?_⟩
      rw [a4 s j hs j4 j10, ug_self]
      unfold upd
      by_cases c1 : s = pl.toInt.toNat
      · by_cases c2 : (k + 1).toInt.toNat ≤ j ∧ (9 ≤ j ↔ 9 ≤ what.toInt)
        · rw [if_pos ⟨c1, c2⟩, if_neg (by omega), if_pos (by omega)]
        · rw [if_neg (fun hh => c2 hh.2)]
          by_cases c3 : j = k.toInt.toNat
          · rw [if_pos (by omega), if_pos (by omega)]
            congr 1
            omega
          · rw [if_neg (by omega), if_neg (by omega)]
      · rw [if_neg (fun hh => c1 hh.1), if_neg (by omega), if_neg (fun hh => c1 hh.1)]
    · have hm2 : ¬ (if 9 ≤ k.toInt then (1 : Int32) else 0) = (if 9 ≤ what.toInt then 1 else 0) := by
        by_cases x1 : 9 ≤ k.toInt <;> by_cases x2 : 9 ≤ what.toInt <;> simp only [x1, x2, if_true, if_false] at hm ⊢ <;> first | decide | (exact absurd trivial hm) | (exact absurd Iff.rfl hm)
      rw [if_pos hm2]
      obtain ⟨w2, g', g2, q2, r2, F2⟩ := qM.mk20 hw p0 p1 f0 f1 hne n (k + 1) F w g h (by omega) (by omega) (by omega)
      refine ⟨w2, g', g2, q2, ?_, F2⟩
      obtain ⟨a1, a2, a3, a4⟩ := r2
      refine ⟨a1, a2, a3, fun s j hs j4 j10 => ?_⟩
      rw [a4 s j hs j4 j10]
      by_cases c1 : s = pl.toInt.toNat
      · by_cases c3 : j = k.toInt.toNat
        · rw [if_neg (by omega), if_neg (by omega)]
        · by_cases c2 : (k + 1).toInt.toNat ≤ j ∧ (9 ≤ j ↔ 9 ≤ what.toInt)
          · rw [if_pos ⟨c1, c2⟩, if_pos (by omega)]
          · rw [if_neg (fun hh => c2 hh.2), if_neg (by omega)]
      · rw [if_neg (fun hh => c1 hh.1), if_neg (fun hh => c1 hh.1)]
theorem qM.make (h : qM w z g) (k : qR tw th sz dp nm sy sp g) (y01 : ∀ i, sy i = 0 ∨ sy i = 1) (p01 : ∀ i, sp i = 0 ∨ sp i = 1) {what t c : Int32} (hw : what.toInt ≤ 10) (h0 : -1 ≤ t.toInt) (h1 : t.toInt < 24) (c0 : -1 ≤ c.toInt) (c1 : c.toInt < 4) : ∃ w' g', fD_make 37 what t c w = some (.inl none, w') ∧ qM w' z g' ∧ q_made g g' what (q_fc (q_sel what sy sp) t c).toInt.toNat (q_slot t c).toInt.toNat 4 ∧ qI 37 66 w w' := by
  unfold fD_make
  rw [q_placeOf, q_call, q_kI, h.obj, Option.bind_some, h.force k y01 p01 hw h0 h1 c0 c1, q_call, q_kI, q_pl_slot h0 h1 c0 c1]
  have hb := q_slot_bi t c
  have hf := q_fc_bi (q_sel what sy sp) t c
  by_cases he : q_fc (q_sel what sy sp) t c = q_slot t c
  · rw [show FUEL = 999999 + 1 from rfl, fD_make_20, if_neg (by decide), if_pos he]
    obtain ⟨w', g1, q1, F1⟩ := h.mk68 hw hb.1 hb.2
    exact ⟨w', _, g1, q1, q_made_end g what _ _ _ (Or.inr (by rw [he]; rfl)), F1⟩
  · exact qM.mk20 hw hb.1 hb.2 hf.1 hf.2 he 7 4 FUEL w g h (by decide) (by decide) (by decide)
end
