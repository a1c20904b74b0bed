section
variable {w : PW} {z : Nat → Int32} {g : Nat → Nat → Int32} {tw th : Int32} {sz dp nm sy sp : Nat → Int32}
/-- how a set ends: 0 well, else the number of the exception -/
def q_sc (tw th : Int32) (sz sy sp : Nat → Int32) (some_ : Bool) (what t c v : Int32) : Int32 :=
  if q_isPl (q_nt tw th sz) (sz 2) what t c = false then 1 else if what ≤ 2 ∧ (some_ = true ∨ ¬ q_any sy sp 124 1 = 0) then 2
  else if q_within what (Int32.toInt64 v) = 0 ∨ 24 < q_many (if what = 0 then v else sz 0) tw * q_many (if what = 1 then v else sz 1) th then 3 else 0
theorem qM.set61 (h : qM w z g) (what t c v s0 : Int32) (hs : s0 = 1 ∨ s0 = 2 ∨ s0 = 3) : ∃ w', fD_set_61 37 what t c v s0 37 w = some (.inl (some (.int 0)), w') ∧ qM w' (upd z 0 s0) g ∧ qI 37 66 w w' := by
  obtain ⟨w1, g1, q1, F1⟩ := h.put 0 s0 (by omega) rfl
  unfold fD_set_61
  rw [g1, Option.bind_some, q1.I 0 rfl, Option.bind_some, show upd z 0 s0 0 = s0 from rfl, if_neg (by rcases hs with e | e | e <;> subst e <;> decide)]
  exact ⟨w1, rfl, q1, F1⟩
theorem qM.set (h : qM w z g) (k : qR tw th sz dp nm sy sp g) (y01 : ∀ i, sy i = 0 ∨ sy i = 1) (p01 : ∀ i, sp i = 0 ∨ sp i = 1) (what t c v : Int32) :
    ∃ w' g' b, fD_set 37 what t c v w = some (.inl (some (.int b)), w') ∧ qM w' (upd z 0 (q_sc tw th sz sy sp (decide (0 < z 8)) what t c v)) g' ∧ qI 37 66 w w' ∧ (¬ q_sc tw th sz sy sp (decide (0 < z 8)) what t c v = 0 → g' = g) ∧
      (q_sc tw th sz sy sp (decide (0 < z 8)) what t c v = 0 → b = q_val sz dp nm sy sp what t c ∧ qR tw th (s_sz sz what v) (s_dp dp what c v) (s_nm nm sy sp what t c v) (s_sy sy what t c) (s_sp sp what t c) g' ∧ ∀ k, k ≠ 38 → k ≠ 39 → k ≠ 40 → k ≠ 41 → k ≠ 42 → g' k = g k) := by
  have hs : ∀ x : Int32, x = q_sc tw th sz sy sp (decide (0 < z 8)) what t c v → (x = 1 ∨ x = 2 ∨ x = 3) → ∃ w' g' b, fD_set_61 37 what t c v x 37 w = some (.inl (some (.int b)), w') ∧ qM w' (upd z 0 (q_sc tw th sz sy sp (decide (0 < z 8)) what t c v)) g' ∧ qI 37 66 w w' ∧ (¬ q_sc tw th sz sy sp (decide (0 < z 8)) what t c v = 0 → g' = g) ∧
      (q_sc tw th sz sy sp (decide (0 < z 8)) what t c v = 0 → b = q_val sz dp nm sy sp what t c ∧ qR tw th (s_sz sz what v) (s_dp dp what c v) (s_nm nm sy sp what t c v) (s_sy sy what t c) (s_sp sp what t c) g' ∧ ∀ k, k ≠ 38 → k ≠ 39 → k ≠ 40 → k ≠ 41 → k ≠ 42 → g' k = g k) := by
    intro x hx hx2
    obtain ⟨w1, g1, q1, F1⟩ := h.set61 what t c v x hx2
    rw [← hx]
    exact ⟨w1, g, 0, g1, q1, F1, fun _ => rfl, fun e => by rw [e] at hx2; exact absurd hx2 (by decide)⟩
  unfold fD_set
  rw [h.obj, Option.bind_some, h.isPlace k, q_call, q_kI]
  by_cases hp : q_isPl (q_nt tw th sz) (sz 2) what t c = true
  · rw [if_pos hp, if_pos (by decide)]
    have hp0 : ¬ q_isPl (q_nt tw th sz) (sz 2) what t c = false := by rw [hp]; decide
    have hpl := decide_eq_true_eq.mp hp
    have h32 : ∀ hx : ¬ (what ≤ 2 ∧ (decide (0 < z 8) = true ∨ ¬ q_any sy sp 124 1 = 0)), ∃ w' g' b, fD_set_32 37 what t c v 37 w = some (.inl (some (.int b)), w') ∧ qM w' (upd z 0 (q_sc tw th sz sy sp (decide (0 < z 8)) what t c v)) g' ∧ qI 37 66 w w' ∧ (¬ q_sc tw th sz sy sp (decide (0 < z 8)) what t c v = 0 → g' = g) ∧
      (q_sc tw th sz sy sp (decide (0 < z 8)) what t c v = 0 → b = q_val sz dp nm sy sp what t c ∧ qR tw th (s_sz sz what v) (s_dp dp what c v) (s_nm nm sy sp what t c v) (s_sy sy what t c) (s_sp sp what t c) g' ∧ ∀ k, k ≠ 38 → k ≠ 39 → k ≠ 40 → k ≠ 41 → k ≠ 42 → g' k = g k) := by
      intro hx
      unfold fD_set_32
      rw [q_isNum what v hpl.1 hpl.2.1, q_call, q_kI]
      have esc : q_sc tw th sz sy sp (decide (0 < z 8)) what t c v = if q_within what (Int32.toInt64 v) = 0 ∨ 24 < q_many (if what = 0 then v else sz 0) tw * q_many (if what = 1 then v else sz 1) th then 3 else 0 := by
        unfold q_sc
        rw [if_neg hp0, if_neg hx]
      rcases q_within01 what (Int32.toInt64 v) with hw0 | hw1
      · rw [if_pos hw0]
        exact hs 3 (by rw [esc, if_pos (Or.inl hw0)]) (Or.inr (Or.inr rfl))
      · have hw0 : ¬ q_within what (Int32.toInt64 v) = 0 := by rw [hw1]; decide
        rw [if_neg hw0]
        have good : ¬ 24 < q_many (if what = 0 then v else sz 0) tw * q_many (if what = 1 then v else sz 1) th → ∃ w' g' b, fD_set_61 37 what t c v 0 37 w = some (.inl (some (.int b)), w') ∧ qM w' (upd z 0 (q_sc tw th sz sy sp (decide (0 < z 8)) what t c v)) g' ∧ qI 37 66 w w' ∧ (¬ q_sc tw th sz sy sp (decide (0 < z 8)) what t c v = 0 → g' = g) ∧
      (q_sc tw th sz sy sp (decide (0 < z 8)) what t c v = 0 → b = q_val sz dp nm sy sp what t c ∧ qR tw th (s_sz sz what v) (s_dp dp what c v) (s_nm nm sy sp what t c v) (s_sy sy what t c) (s_sp sp what t c) g' ∧ ∀ k, k ≠ 38 → k ≠ 39 → k ≠ 40 → k ≠ 41 → k ≠ 42 → g' k = g k) := by
          intro ht
          have e0 : q_sc tw th sz sy sp (decide (0 < z 8)) what t c v = 0 := by rw [esc, if_neg (by rintro (e | e); exact hw0 e; exact ht e)]
          rw [e0]
          obtain ⟨w1, g1, f1, q1, r1, t1, F1⟩ := h.set0 k y01 p01 hp hw1 ht
          exact ⟨w1, g1, _, f1, q1, F1, fun hh => absurd rfl hh, fun _ => ⟨rfl, r1, t1⟩⟩
        by_cases hw2 : 2 ≤ what
        · rw [if_pos hw2]
          have n0 : ¬ what = 0 := by intro e; rw [e] at hw2; exact absurd hw2 (by decide)
          have n1 : ¬ what = 1 := by intro e; rw [e] at hw2; exact absurd hw2 (by decide)
          have hT : ¬ 24 < q_many (if what = 0 then v else sz 0) tw * q_many (if what = 1 then v else sz 1) th := by
            rw [if_neg n0, if_neg n1, q_lti, k.nt.1]
            have := k.nt.2.2
            have e24 : (24 : Int32).toInt = 24 := rfl
            omega
          exact good hT
        · rw [if_neg hw2, h.obj, Option.bind_some]
          have hw01 : what = 0 ∨ what = 1 := by
            have h2 : ¬ 2 ≤ what.toInt := fun hh => hw2 (q_lei.mpr hh)
            have : what.toInt = 0 ∨ what.toInt = 1 := by omega
            rcases this with e | e
            · exact Or.inl (q_i32 e)
            · exact Or.inr (q_i32 e)
          have hvb := q_within_b hw1
          have hv12 : 1 ≤ v.toInt ∧ v.toInt ≤ 2000 := by rcases hw01 with e | e <;> subst e <;> exact hvb
          rw [h.tooMany k what v hw01 hv12.1 hv12.2, q_call, q_kI]
          by_cases ht : 24 < q_many (if what = 0 then v else sz 0) tw * q_many (if what = 1 then v else sz 1) th
          · rw [if_pos ht, if_neg (by decide)]
            exact hs 3 (by rw [esc, if_pos (Or.inr ht)]) (Or.inr (Or.inr rfl))
          · rw [if_neg ht, if_pos rfl]
            exact good ht
    by_cases hw3 : 3 ≤ what
    · rw [if_pos hw3]
      exact h32 (fun hh => by have := hh.1; grind)
    · rw [if_neg hw3, h.obj, Option.bind_some, h.isFixed k, q_call, q_kI]
      have hw2 : what ≤ 2 := by grind
      by_cases hz : z 8 ≤ 0
      · have hz2 : ¬ 0 < z 8 := by grind
        rw [if_pos hz]
        by_cases ha : q_any sy sp 124 1 = 0
        · rw [if_pos ha]
          exact h32 (by rintro ⟨-, e | e⟩; exact hz2 (decide_eq_true_eq.mp e); exact e ha)
        · rw [if_neg ha]
          exact hs 2 (by unfold q_sc; rw [if_neg hp0, if_pos ⟨hw2, Or.inr ha⟩]) (Or.inr (Or.inl rfl))
      · have hz2 : 0 < z 8 := by grind
        rw [if_neg hz, if_neg (by decide)]
        exact hs 2 (by unfold q_sc; rw [if_neg hp0, if_pos ⟨hw2, Or.inl (decide_eq_true hz2)⟩]) (Or.inr (Or.inl rfl))
  · rw [if_neg hp, if_neg (by decide)]
    have hp0 : q_isPl (q_nt tw th sz) (sz 2) what t c = false := by
      cases hh : q_isPl (q_nt tw th sz) (sz 2) what t c
      · rfl
      · exact absurd hh hp
    exact hs 1 (by unfold q_sc; rw [if_pos hp0]) (Or.inl rfl)
/-- an exception thrown, or an answer: the world stays but for the counts -/
def qT (w w' : PW) : Prop := w'.1 = w.1 ∧ w'.2.1 = w.2.1 + 1 ∧ w'.2.2 = w.2.2 + 6
theorem q_throw (E : String) (w : PW) : ∃ w', p_throw E w = some (.inr E, w') ∧ qT w w' := ⟨_, rfl, rfl, rfl, rfl⟩
def qCo (w : PW) (rd : Int32) : Prop := w.1[0]? = some (.inr (0, [.ref 1, .ref 7, .ref 8, .ref 9, .ref 12, .ref 14, .ref 16, .ref 22, .ref 27, .ref 28, .int rd]))
/-- the class's set -/
theorem q_Wset {rd m n : Int32} {e : Value} (ho : qCo w rd) (hs : qS w 1 tw th sz dp nm sy sp) (hl : w.1[7]? = some (.inr (11, [.int m, e, .int n]))) (k : qR tw th sz dp nm sy sp g) (what t c v : Int32) :
    (q_sc tw th sz sy sp (decide (¬ n = 0)) what t c v = 1 → ∃ w', fW_set 0 what t c v w = some (.inr "java/lang/IndexOutOfBoundsException", w') ∧ qT w w') ∧
    (q_sc tw th sz sy sp (decide (¬ n = 0)) what t c v = 2 → ∃ w', fW_set 0 what t c v w = some (.inr "java/lang/IllegalStateException", w') ∧ qT w w') ∧
    (q_sc tw th sz sy sp (decide (¬ n = 0)) what t c v = 3 → ∃ w', fW_set 0 what t c v w = some (.inr "java/lang/IllegalArgumentException", w') ∧ qT w w') ∧
    (q_sc tw th sz sy sp (decide (¬ n = 0)) what t c v = 0 → ∃ w', fW_set 0 what t c v w = some (.inl (some (.int (q_val sz dp nm sy sp what t c))), w') ∧ qS w' 1 tw th (s_sz sz what v) (s_dp dp what c v) (s_nm nm sy sp what t c v) (s_sy sy what t c) (s_sp sp what t c) ∧ qI 1 7 w w') := by
  have h0 : p_getR w 0 0 0 = some 1 := q_getR ho rfl
  have h1 : p_getR w 0 0 1 = some 7 := q_getR ho rfl
  obtain ⟨fs, hso⟩ := hs.obj
  unfold fW_set
  rw [q_obj ho, Option.bind_some, q_clsPl hs h0 k, q_call, q_kI]
  by_cases hp : q_isPl (q_nt tw th sz) (sz 2) what t c = true
  · rw [if_pos hp, if_pos (by decide)]
    have hp0 : ¬ q_isPl (q_nt tw th sz) (sz 2) what t c = false := by rw [hp]; decide
    have hpl := decide_eq_true_eq.mp hp
    have h55 : ∀ hx : ¬ (what ≤ 2 ∧ (decide (¬ n = 0) = true ∨ ¬ q_any sy sp 124 1 = 0)), (q_sc tw th sz sy sp (decide (¬ n = 0)) what t c v = 1 → ∃ w', fW_set_55 0 what t c v w = some (.inr "java/lang/IndexOutOfBoundsException", w') ∧ qT w w') ∧
    (q_sc tw th sz sy sp (decide (¬ n = 0)) what t c v = 2 → ∃ w', fW_set_55 0 what t c v w = some (.inr "java/lang/IllegalStateException", w') ∧ qT w w') ∧
    (q_sc tw th sz sy sp (decide (¬ n = 0)) what t c v = 3 → ∃ w', fW_set_55 0 what t c v w = some (.inr "java/lang/IllegalArgumentException", w') ∧ qT w w') ∧
    (q_sc tw th sz sy sp (decide (¬ n = 0)) what t c v = 0 → ∃ w', fW_set_55 0 what t c v w = some (.inl (some (.int (q_val sz dp nm sy sp what t c))), w') ∧ qS w' 1 tw th (s_sz sz what v) (s_dp dp what c v) (s_nm nm sy sp what t c v) (s_sy sy what t c) (s_sp sp what t c) ∧ qI 1 7 w w') := by
      intro hx
      have esc : q_sc tw th sz sy sp (decide (¬ n = 0)) what t c v = if q_within what (Int32.toInt64 v) = 0 ∨ 24 < q_many (if what = 0 then v else sz 0) tw * q_many (if what = 1 then v else sz 1) th then 3 else 0 := by
        unfold q_sc
        rw [if_neg hp0, if_neg hx]
      unfold fW_set_55
      rw [h0, Option.bind_some, hso, Option.bind_some, hs.allows, q_call, q_kI]
      by_cases hb : q_within what (Int32.toInt64 v) = 0 ∨ 24 < q_many (if what = 0 then v else sz 0) tw * q_many (if what = 1 then v else sz 1) th
      · have ez : (if q_within what (Int32.toInt64 v) = 0 then (0 : Int32) else if 24 < q_many (if what = 0 then v else sz 0) tw * q_many (if what = 1 then v else sz 1) th then 0 else 1) = 0 := by
          by_cases hw : q_within what (Int32.toInt64 v) = 0
          · rw [if_pos hw]
          · rw [if_neg hw, if_pos (hb.resolve_left hw)]
        rw [esc, if_pos hb, ez, if_neg (not_not_intro rfl)]
        exact ⟨fun e => absurd e (by decide), fun e => absurd e (by decide), fun _ => q_throw _ _, fun e => absurd e (by decide)⟩
      · have ez : (if q_within what (Int32.toInt64 v) = 0 then (0 : Int32) else if 24 < q_many (if what = 0 then v else sz 0) tw * q_many (if what = 1 then v else sz 1) th then 0 else 1) = 1 := by
          rw [if_neg (fun e => hb (Or.inl e)), if_neg (fun e => hb (Or.inr e))]
        rw [esc, if_neg hb, ez, if_pos (by decide), h0, Option.bind_some, hso, Option.bind_some]
        refine ⟨fun e => absurd e (by decide), fun e => absurd e (by decide), fun e => absurd e (by decide), fun _ => ?_⟩
        have w0 : 0 ≤ what := q_lei.mpr hpl.1
        have w10 : what ≤ 10 := q_lei.mpr hpl.2.1
        have c4 : what = 3 → c < 4 := fun _ => by
          rw [q_lti]
          show _ < (4 : Int)
          have := k.2.2.2.2.1
          omega
        rw [hs.valueOf what t c w0 w10 c4, q_call, q_kI, h0, Option.bind_some, hso, Option.bind_some]
        obtain ⟨w1, g1, q1, F1⟩ := hs.change what t c v w0 w10
        rw [g1, q_call, q_kV]
        exact ⟨w1, rfl, q1, F1⟩
    have h45 : (what ≤ 2 ∧ (decide (¬ n = 0) = true ∨ ¬ q_any sy sp 124 1 = 0)) → (q_sc tw th sz sy sp (decide (¬ n = 0)) what t c v = 1 → ∃ w', fW_set_45 w = some (.inr "java/lang/IndexOutOfBoundsException", w') ∧ qT w w') ∧
    (q_sc tw th sz sy sp (decide (¬ n = 0)) what t c v = 2 → ∃ w', fW_set_45 w = some (.inr "java/lang/IllegalStateException", w') ∧ qT w w') ∧
    (q_sc tw th sz sy sp (decide (¬ n = 0)) what t c v = 3 → ∃ w', fW_set_45 w = some (.inr "java/lang/IllegalArgumentException", w') ∧ qT w w') ∧
    (q_sc tw th sz sy sp (decide (¬ n = 0)) what t c v = 0 → ∃ w', fW_set_45 w = some (.inl (some (.int (q_val sz dp nm sy sp what t c))), w') ∧ qS w' 1 tw th (s_sz sz what v) (s_dp dp what c v) (s_nm nm sy sp what t c v) (s_sy sy what t c) (s_sp sp what t c) ∧ qI 1 7 w w') := by
      intro hx
      have esc : q_sc tw th sz sy sp (decide (¬ n = 0)) what t c v = 2 := by
        unfold q_sc
        rw [if_neg hp0, if_pos hx]
      rw [esc]
      exact ⟨fun e => absurd e (by decide), fun _ => q_throw _ _, fun e => absurd e (by decide), fun e => absurd e (by decide)⟩
    by_cases hw2 : 2 < what
    · rw [if_pos hw2]
      exact h55 (fun hh => by have := hh.1; grind)
    · rw [if_neg hw2, h1, Option.bind_some, q_obj hl, Option.bind_some]
      have hle : what ≤ 2 := by grind
      unfold fAL_isEmpty
      rw [q_getI (k := 2) hl rfl, Option.bind_some]
      by_cases hn : n = 0
      · rw [if_neg (not_not_intro hn), q_ret1, q_call, q_kI, if_neg (by decide), h0, Option.bind_some, hso, Option.bind_some, hs.any, q_call, q_kI]
        by_cases ha : q_any sy sp 124 1 = 0
        · rw [if_pos ha]
          exact h55 (by rintro ⟨-, e | e⟩; exact (decide_eq_true_eq.mp e) hn; exact e ha)
        · rw [if_neg ha]
          exact h45 ⟨hle, Or.inr ha⟩
      · rw [if_pos hn, q_ret0, q_call, q_kI, if_pos rfl]
        exact h45 ⟨hle, Or.inl (decide_eq_true hn)⟩
  · rw [if_neg hp, if_neg (by decide)]
    have hp0 : q_isPl (q_nt tw th sz) (sz 2) what t c = false := by
      cases hh : q_isPl (q_nt tw th sz) (sz 2) what t c
      · rfl
      · exact absurd hh hp
    have esc : q_sc tw th sz sy sp (decide (¬ n = 0)) what t c v = 1 := by
      unfold q_sc
      rw [if_pos hp0]
    rw [esc]
    exact ⟨fun _ => q_throw _ _, fun e => absurd e (by decide), fun e => absurd e (by decide), fun e => absurd e (by decide)⟩
theorem q_sc_v (tw th : Int32) (sz sy sp : Nat → Int32) (b : Bool) (what t c v : Int32) : q_sc tw th sz sy sp b what t c v = 0 ∨ q_sc tw th sz sy sp b what t c v = 1 ∨ q_sc tw th sz sy sp b what t c v = 2 ∨ q_sc tw th sz sy sp b what t c v = 3 := by
  unfold q_sc
  (repeat' split) <;> simp
end
